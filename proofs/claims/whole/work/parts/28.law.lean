theorem D241_23 : decode code 23 = .ok (.iload 4, 2) := by decide +kernel
theorem D241_25 : decode code 25 = .ok (.aload_n 0, 1) := by decide +kernel
theorem D241_26 : decode code 26 = .ok (.arraylength, 1) := by decide +kernel
theorem D241_27 : decode code 27 = .ok (.bipush 6, 2) := by decide +kernel
theorem D241_29 : decode code 29 = .ok (.isub, 1) := by decide +kernel
theorem D241_30 : decode code 30 = .ok (.if_icmp .gt 1449, 3) := by decide +kernel
theorem D241_33 : decode code 33 = .ok (.aload_n 0, 1) := by decide +kernel
theorem D241_34 : decode code 34 = .ok (.iload 4, 2) := by decide +kernel
theorem D241_36 : decode code 36 = .ok (.iaload, 1) := by decide +kernel
theorem D241_37 : decode code 37 = .ok (.bipush 63, 2) := by decide +kernel
theorem D241_39 : decode code 39 = .ok (.iand, 1) := by decide +kernel
theorem D241_40 : decode code 40 = .ok (.tableswitch 1433 0 35 #[160, 233, 258, 283, 308, 376, 413, 450, 512, 573, 598, 623, 648, 697, 722, 759, 784, 821, 846, 883, 896, 933, 958, 995, 1044, 1082, 1171, 1196, 1221, 1234, 1271, 1320, 1369, 1382, 1395, 1408], 160) := by decide +kernel
theorem D241_200 : decode code 200 = .ok (.aload_n 1, 1) := by decide +kernel
theorem D241_201 : decode code 201 = .ok (.aload_n 0, 1) := by decide +kernel
theorem D241_202 : decode code 202 = .ok (.iload 4, 2) := by decide +kernel
theorem D241_204 : decode code 204 = .ok (.iconst 1, 1) := by decide +kernel
theorem D241_205 : decode code 205 = .ok (.iadd, 1) := by decide +kernel
theorem D241_206 : decode code 206 = .ok (.iaload, 1) := by decide +kernel
theorem D241_207 : decode code 207 = .ok (.aload_n 0, 1) := by decide +kernel
theorem D241_208 : decode code 208 = .ok (.iload 4, 2) := by decide +kernel
theorem D241_210 : decode code 210 = .ok (.iconst 2, 1) := by decide +kernel
theorem D241_211 : decode code 211 = .ok (.iadd, 1) := by decide +kernel
theorem D241_212 : decode code 212 = .ok (.iaload, 1) := by decide +kernel
theorem D241_213 : decode code 213 = .ok (.aload_n 0, 1) := by decide +kernel
theorem D241_214 : decode code 214 = .ok (.iload 4, 2) := by decide +kernel
theorem D241_216 : decode code 216 = .ok (.iconst 3, 1) := by decide +kernel
theorem D241_217 : decode code 217 = .ok (.iadd, 1) := by decide +kernel
theorem D241_218 : decode code 218 = .ok (.iaload, 1) := by decide +kernel
theorem D241_219 : decode code 219 = .ok (.aload_n 0, 1) := by decide +kernel
theorem D241_220 : decode code 220 = .ok (.iload 4, 2) := by decide +kernel
theorem D241_222 : decode code 222 = .ok (.iconst 4, 1) := by decide +kernel
theorem D241_223 : decode code 223 = .ok (.iadd, 1) := by decide +kernel
theorem D241_224 : decode code 224 = .ok (.iaload, 1) := by decide +kernel
theorem D241_225 : decode code 225 = .ok (.aload_n 0, 1) := by decide +kernel
theorem D241_226 : decode code 226 = .ok (.iload 4, 2) := by decide +kernel
theorem D241_228 : decode code 228 = .ok (.iconst 5, 1) := by decide +kernel
theorem D241_229 : decode code 229 = .ok (.iadd, 1) := by decide +kernel
theorem D241_230 : decode code 230 = .ok (.iaload, 1) := by decide +kernel
theorem D241_231 : decode code 231 = .ok (.invokevirtual 21, 3) := by decide +kernel
theorem D241_234 : decode code 234 = .ok (.aload_n 2, 1) := by decide +kernel
theorem D241_235 : decode code 235 = .ok (.aload_n 0, 1) := by decide +kernel
theorem D241_236 : decode code 236 = .ok (.iload 4, 2) := by decide +kernel
theorem D241_238 : decode code 238 = .ok (.iconst 1, 1) := by decide +kernel
theorem D241_239 : decode code 239 = .ok (.iadd, 1) := by decide +kernel
theorem D241_240 : decode code 240 = .ok (.iaload, 1) := by decide +kernel
theorem D241_241 : decode code 241 = .ok (.aload_n 0, 1) := by decide +kernel
theorem D241_242 : decode code 242 = .ok (.iload 4, 2) := by decide +kernel
theorem D241_244 : decode code 244 = .ok (.iconst 2, 1) := by decide +kernel
theorem D241_245 : decode code 245 = .ok (.iadd, 1) := by decide +kernel
theorem D241_246 : decode code 246 = .ok (.iaload, 1) := by decide +kernel
theorem D241_247 : decode code 247 = .ok (.aload_n 0, 1) := by decide +kernel
theorem D241_248 : decode code 248 = .ok (.iload 4, 2) := by decide +kernel
theorem D241_250 : decode code 250 = .ok (.iconst 3, 1) := by decide +kernel
theorem D241_251 : decode code 251 = .ok (.iadd, 1) := by decide +kernel
theorem D241_252 : decode code 252 = .ok (.iaload, 1) := by decide +kernel
theorem D241_253 : decode code 253 = .ok (.aload_n 0, 1) := by decide +kernel
theorem D241_254 : decode code 254 = .ok (.iload 4, 2) := by decide +kernel
theorem D241_256 : decode code 256 = .ok (.iconst 4, 1) := by decide +kernel
theorem D241_257 : decode code 257 = .ok (.iadd, 1) := by decide +kernel
theorem D241_258 : decode code 258 = .ok (.iaload, 1) := by decide +kernel
theorem D241_259 : decode code 259 = .ok (.aload_n 0, 1) := by decide +kernel
theorem D241_260 : decode code 260 = .ok (.iload 4, 2) := by decide +kernel
theorem D241_262 : decode code 262 = .ok (.iconst 5, 1) := by decide +kernel
theorem D241_263 : decode code 263 = .ok (.iadd, 1) := by decide +kernel
theorem D241_264 : decode code 264 = .ok (.iaload, 1) := by decide +kernel
theorem D241_265 : decode code 265 = .ok (.invokevirtual 25, 3) := by decide +kernel
theorem D241_268 : decode code 268 = .ok (.if_icmp .eq 1205, 3) := by decide +kernel
theorem D241_271 : decode code 271 = .ok (.iconst 0, 1) := by decide +kernel
theorem D241_272 : decode code 272 = .ok (.ireturn, 1) := by decide +kernel
theorem D241_273 : decode code 273 = .ok (.aload_n 1, 1) := by decide +kernel
theorem D241_274 : decode code 274 = .ok (.aload_n 0, 1) := by decide +kernel
theorem D241_275 : decode code 275 = .ok (.iload 4, 2) := by decide +kernel
theorem D241_277 : decode code 277 = .ok (.iconst 1, 1) := by decide +kernel
theorem D241_278 : decode code 278 = .ok (.iadd, 1) := by decide +kernel
theorem D241_279 : decode code 279 = .ok (.iaload, 1) := by decide +kernel
theorem D241_280 : decode code 280 = .ok (.invokevirtual 26, 3) := by decide +kernel
theorem D241_283 : decode code 283 = .ok (.aload_n 2, 1) := by decide +kernel
theorem D241_284 : decode code 284 = .ok (.aload_n 0, 1) := by decide +kernel
theorem D241_285 : decode code 285 = .ok (.iload 4, 2) := by decide +kernel
theorem D241_287 : decode code 287 = .ok (.iconst 1, 1) := by decide +kernel
theorem D241_288 : decode code 288 = .ok (.iadd, 1) := by decide +kernel
theorem D241_289 : decode code 289 = .ok (.iaload, 1) := by decide +kernel
theorem D241_290 : decode code 290 = .ok (.invokevirtual 30, 3) := by decide +kernel
theorem D241_293 : decode code 293 = .ok (.if_icmp .eq 1180, 3) := by decide +kernel
theorem D241_296 : decode code 296 = .ok (.iconst 0, 1) := by decide +kernel
theorem D241_297 : decode code 297 = .ok (.ireturn, 1) := by decide +kernel
theorem D241_298 : decode code 298 = .ok (.aload_n 1, 1) := by decide +kernel
theorem D241_299 : decode code 299 = .ok (.aload_n 0, 1) := by decide +kernel
theorem D241_300 : decode code 300 = .ok (.iload 4, 2) := by decide +kernel
theorem D241_302 : decode code 302 = .ok (.iconst 1, 1) := by decide +kernel
theorem D241_303 : decode code 303 = .ok (.iadd, 1) := by decide +kernel
theorem D241_304 : decode code 304 = .ok (.iaload, 1) := by decide +kernel
theorem D241_305 : decode code 305 = .ok (.invokevirtual 31, 3) := by decide +kernel
theorem D241_308 : decode code 308 = .ok (.aload_n 2, 1) := by decide +kernel
theorem D241_309 : decode code 309 = .ok (.aload_n 0, 1) := by decide +kernel
theorem D241_310 : decode code 310 = .ok (.iload 4, 2) := by decide +kernel
theorem D241_312 : decode code 312 = .ok (.iconst 1, 1) := by decide +kernel
theorem D241_313 : decode code 313 = .ok (.iadd, 1) := by decide +kernel
theorem D241_314 : decode code 314 = .ok (.iaload, 1) := by decide +kernel
theorem D241_315 : decode code 315 = .ok (.invokevirtual 34, 3) := by decide +kernel
theorem D241_318 : decode code 318 = .ok (.if_icmp .eq 1155, 3) := by decide +kernel
theorem D241_321 : decode code 321 = .ok (.iconst 0, 1) := by decide +kernel
theorem D241_322 : decode code 322 = .ok (.ireturn, 1) := by decide +kernel
theorem D241_323 : decode code 323 = .ok (.aload_n 1, 1) := by decide +kernel
theorem D241_324 : decode code 324 = .ok (.aload_n 0, 1) := by decide +kernel
theorem D241_325 : decode code 325 = .ok (.iload 4, 2) := by decide +kernel
theorem D241_327 : decode code 327 = .ok (.iconst 1, 1) := by decide +kernel
theorem D241_328 : decode code 328 = .ok (.iadd, 1) := by decide +kernel
theorem D241_329 : decode code 329 = .ok (.iaload, 1) := by decide +kernel
theorem D241_330 : decode code 330 = .ok (.invokevirtual 35, 3) := by decide +kernel
theorem D241_333 : decode code 333 = .ok (.aload_n 2, 1) := by decide +kernel
theorem D241_334 : decode code 334 = .ok (.aload_n 0, 1) := by decide +kernel
theorem D241_335 : decode code 335 = .ok (.iload 4, 2) := by decide +kernel
theorem D241_337 : decode code 337 = .ok (.iconst 1, 1) := by decide +kernel
theorem D241_338 : decode code 338 = .ok (.iadd, 1) := by decide +kernel
theorem D241_339 : decode code 339 = .ok (.iaload, 1) := by decide +kernel
theorem D241_340 : decode code 340 = .ok (.invokevirtual 38, 3) := by decide +kernel
theorem D241_343 : decode code 343 = .ok (.if_icmp .eq 1130, 3) := by decide +kernel
theorem D241_346 : decode code 346 = .ok (.iconst 0, 1) := by decide +kernel
theorem D241_347 : decode code 347 = .ok (.ireturn, 1) := by decide +kernel
theorem D241_416 : decode code 416 = .ok (.aload_n 1, 1) := by decide +kernel
theorem D241_417 : decode code 417 = .ok (.aload_n 0, 1) := by decide +kernel
theorem D241_418 : decode code 418 = .ok (.iload 4, 2) := by decide +kernel
theorem D241_420 : decode code 420 = .ok (.iconst 1, 1) := by decide +kernel
theorem D241_421 : decode code 421 = .ok (.iadd, 1) := by decide +kernel
theorem D241_422 : decode code 422 = .ok (.iaload, 1) := by decide +kernel
theorem D241_423 : decode code 423 = .ok (.aload_n 0, 1) := by decide +kernel
theorem D241_424 : decode code 424 = .ok (.iload 4, 2) := by decide +kernel
theorem D241_426 : decode code 426 = .ok (.iconst 2, 1) := by decide +kernel
theorem D241_427 : decode code 427 = .ok (.iadd, 1) := by decide +kernel
theorem D241_428 : decode code 428 = .ok (.iaload, 1) := by decide +kernel
theorem D241_429 : decode code 429 = .ok (.invokevirtual 49, 3) := by decide +kernel
theorem D241_432 : decode code 432 = .ok (.aload_n 2, 1) := by decide +kernel
theorem D241_433 : decode code 433 = .ok (.aload_n 0, 1) := by decide +kernel
theorem D241_434 : decode code 434 = .ok (.iload 4, 2) := by decide +kernel
theorem D241_436 : decode code 436 = .ok (.iconst 1, 1) := by decide +kernel
theorem D241_437 : decode code 437 = .ok (.iadd, 1) := by decide +kernel
theorem D241_438 : decode code 438 = .ok (.iaload, 1) := by decide +kernel
theorem D241_439 : decode code 439 = .ok (.aload_n 0, 1) := by decide +kernel
theorem D241_440 : decode code 440 = .ok (.iload 4, 2) := by decide +kernel
theorem D241_442 : decode code 442 = .ok (.iconst 2, 1) := by decide +kernel
theorem D241_443 : decode code 443 = .ok (.iadd, 1) := by decide +kernel
theorem D241_444 : decode code 444 = .ok (.iaload, 1) := by decide +kernel
theorem D241_445 : decode code 445 = .ok (.invokevirtual 52, 3) := by decide +kernel
theorem D241_448 : decode code 448 = .ok (.if_icmp .eq 1025, 3) := by decide +kernel
theorem D241_451 : decode code 451 = .ok (.iconst 0, 1) := by decide +kernel
theorem D241_452 : decode code 452 = .ok (.ireturn, 1) := by decide +kernel
theorem D241_453 : decode code 453 = .ok (.aload_n 1, 1) := by decide +kernel
theorem D241_454 : decode code 454 = .ok (.aload_n 0, 1) := by decide +kernel
theorem D241_455 : decode code 455 = .ok (.iload 4, 2) := by decide +kernel
theorem D241_457 : decode code 457 = .ok (.iconst 1, 1) := by decide +kernel
theorem D241_458 : decode code 458 = .ok (.iadd, 1) := by decide +kernel
theorem D241_459 : decode code 459 = .ok (.iaload, 1) := by decide +kernel
theorem D241_460 : decode code 460 = .ok (.aload_n 0, 1) := by decide +kernel
theorem D241_461 : decode code 461 = .ok (.iload 4, 2) := by decide +kernel
theorem D241_463 : decode code 463 = .ok (.iconst 2, 1) := by decide +kernel
theorem D241_464 : decode code 464 = .ok (.iadd, 1) := by decide +kernel
theorem D241_465 : decode code 465 = .ok (.iaload, 1) := by decide +kernel
theorem D241_466 : decode code 466 = .ok (.invokevirtual 53, 3) := by decide +kernel
theorem D241_469 : decode code 469 = .ok (.aload_n 2, 1) := by decide +kernel
theorem D241_470 : decode code 470 = .ok (.aload_n 0, 1) := by decide +kernel
theorem D241_471 : decode code 471 = .ok (.iload 4, 2) := by decide +kernel
theorem D241_473 : decode code 473 = .ok (.iconst 1, 1) := by decide +kernel
theorem D241_474 : decode code 474 = .ok (.iadd, 1) := by decide +kernel
theorem D241_475 : decode code 475 = .ok (.iaload, 1) := by decide +kernel
theorem D241_476 : decode code 476 = .ok (.aload_n 0, 1) := by decide +kernel
theorem D241_477 : decode code 477 = .ok (.iload 4, 2) := by decide +kernel
theorem D241_479 : decode code 479 = .ok (.iconst 2, 1) := by decide +kernel
theorem D241_480 : decode code 480 = .ok (.iadd, 1) := by decide +kernel
theorem D241_481 : decode code 481 = .ok (.iaload, 1) := by decide +kernel
theorem D241_482 : decode code 482 = .ok (.invokevirtual 56, 3) := by decide +kernel
theorem D241_485 : decode code 485 = .ok (.if_icmp .eq 988, 3) := by decide +kernel
theorem D241_488 : decode code 488 = .ok (.iconst 0, 1) := by decide +kernel
theorem D241_489 : decode code 489 = .ok (.ireturn, 1) := by decide +kernel
theorem D241_490 : decode code 490 = .ok (.aload_n 1, 1) := by decide +kernel
theorem D241_491 : decode code 491 = .ok (.aload_n 0, 1) := by decide +kernel
theorem D241_492 : decode code 492 = .ok (.iload 4, 2) := by decide +kernel
theorem D241_494 : decode code 494 = .ok (.iconst 1, 1) := by decide +kernel
theorem D241_495 : decode code 495 = .ok (.iadd, 1) := by decide +kernel
theorem D241_496 : decode code 496 = .ok (.iaload, 1) := by decide +kernel
theorem D241_497 : decode code 497 = .ok (.aload_n 0, 1) := by decide +kernel
theorem D241_498 : decode code 498 = .ok (.iload 4, 2) := by decide +kernel
theorem D241_500 : decode code 500 = .ok (.iconst 2, 1) := by decide +kernel
theorem D241_501 : decode code 501 = .ok (.iadd, 1) := by decide +kernel
theorem D241_502 : decode code 502 = .ok (.iaload, 1) := by decide +kernel
theorem D241_503 : decode code 503 = .ok (.aload_n 0, 1) := by decide +kernel
theorem D241_504 : decode code 504 = .ok (.iload 4, 2) := by decide +kernel
theorem D241_506 : decode code 506 = .ok (.iconst 3, 1) := by decide +kernel
theorem D241_507 : decode code 507 = .ok (.iadd, 1) := by decide +kernel
theorem D241_508 : decode code 508 = .ok (.iaload, 1) := by decide +kernel
theorem D241_509 : decode code 509 = .ok (.aload_n 0, 1) := by decide +kernel
theorem D241_510 : decode code 510 = .ok (.iload 4, 2) := by decide +kernel
theorem D241_512 : decode code 512 = .ok (.iconst 4, 1) := by decide +kernel
theorem D241_513 : decode code 513 = .ok (.iadd, 1) := by decide +kernel
theorem D241_514 : decode code 514 = .ok (.iaload, 1) := by decide +kernel
theorem D241_515 : decode code 515 = .ok (.invokevirtual 57, 3) := by decide +kernel
theorem D241_518 : decode code 518 = .ok (.aload_n 2, 1) := by decide +kernel
theorem D241_519 : decode code 519 = .ok (.aload_n 0, 1) := by decide +kernel
theorem D241_520 : decode code 520 = .ok (.iload 4, 2) := by decide +kernel
theorem D241_522 : decode code 522 = .ok (.iconst 1, 1) := by decide +kernel
theorem D241_523 : decode code 523 = .ok (.iadd, 1) := by decide +kernel
theorem D241_524 : decode code 524 = .ok (.iaload, 1) := by decide +kernel
theorem D241_525 : decode code 525 = .ok (.aload_n 0, 1) := by decide +kernel
theorem D241_526 : decode code 526 = .ok (.iload 4, 2) := by decide +kernel
theorem D241_528 : decode code 528 = .ok (.iconst 2, 1) := by decide +kernel
theorem D241_529 : decode code 529 = .ok (.iadd, 1) := by decide +kernel
theorem D241_530 : decode code 530 = .ok (.iaload, 1) := by decide +kernel
theorem D241_531 : decode code 531 = .ok (.aload_n 0, 1) := by decide +kernel
theorem D241_532 : decode code 532 = .ok (.iload 4, 2) := by decide +kernel
theorem D241_534 : decode code 534 = .ok (.iconst 3, 1) := by decide +kernel
theorem D241_535 : decode code 535 = .ok (.iadd, 1) := by decide +kernel
theorem D241_536 : decode code 536 = .ok (.iaload, 1) := by decide +kernel
theorem D241_537 : decode code 537 = .ok (.aload_n 0, 1) := by decide +kernel
theorem D241_538 : decode code 538 = .ok (.iload 4, 2) := by decide +kernel
theorem D241_540 : decode code 540 = .ok (.iconst 4, 1) := by decide +kernel
theorem D241_541 : decode code 541 = .ok (.iadd, 1) := by decide +kernel
theorem D241_542 : decode code 542 = .ok (.iaload, 1) := by decide +kernel
theorem D241_543 : decode code 543 = .ok (.invokevirtual 61, 3) := by decide +kernel
theorem D241_546 : decode code 546 = .ok (.lcmp, 1) := by decide +kernel
theorem D241_547 : decode code 547 = .ok (.ifCond .eq 926, 3) := by decide +kernel
theorem D241_550 : decode code 550 = .ok (.iconst 0, 1) := by decide +kernel
theorem D241_551 : decode code 551 = .ok (.ireturn, 1) := by decide +kernel
theorem D241_552 : decode code 552 = .ok (.aload_n 1, 1) := by decide +kernel
theorem D241_553 : decode code 553 = .ok (.aload_n 0, 1) := by decide +kernel
theorem D241_554 : decode code 554 = .ok (.iload 4, 2) := by decide +kernel
theorem D241_556 : decode code 556 = .ok (.iconst 1, 1) := by decide +kernel
theorem D241_557 : decode code 557 = .ok (.iadd, 1) := by decide +kernel
theorem D241_558 : decode code 558 = .ok (.iaload, 1) := by decide +kernel
theorem D241_559 : decode code 559 = .ok (.aload_n 0, 1) := by decide +kernel
theorem D241_560 : decode code 560 = .ok (.iload 4, 2) := by decide +kernel
theorem D241_562 : decode code 562 = .ok (.iconst 2, 1) := by decide +kernel
theorem D241_563 : decode code 563 = .ok (.iadd, 1) := by decide +kernel
theorem D241_564 : decode code 564 = .ok (.iaload, 1) := by decide +kernel
theorem D241_565 : decode code 565 = .ok (.aload_n 0, 1) := by decide +kernel
theorem D241_566 : decode code 566 = .ok (.iload 4, 2) := by decide +kernel
theorem D241_568 : decode code 568 = .ok (.iconst 3, 1) := by decide +kernel
theorem D241_569 : decode code 569 = .ok (.iadd, 1) := by decide +kernel
theorem D241_570 : decode code 570 = .ok (.iaload, 1) := by decide +kernel
theorem D241_571 : decode code 571 = .ok (.aload_n 0, 1) := by decide +kernel
theorem D241_572 : decode code 572 = .ok (.iload 4, 2) := by decide +kernel
theorem D241_574 : decode code 574 = .ok (.iconst 4, 1) := by decide +kernel
theorem D241_575 : decode code 575 = .ok (.iadd, 1) := by decide +kernel
theorem D241_576 : decode code 576 = .ok (.iaload, 1) := by decide +kernel
theorem D241_577 : decode code 577 = .ok (.invokevirtual 62, 3) := by decide +kernel
theorem D241_580 : decode code 580 = .ok (.aload_n 2, 1) := by decide +kernel
theorem D241_581 : decode code 581 = .ok (.aload_n 0, 1) := by decide +kernel
theorem D241_582 : decode code 582 = .ok (.iload 4, 2) := by decide +kernel
theorem D241_584 : decode code 584 = .ok (.iconst 1, 1) := by decide +kernel
theorem D241_585 : decode code 585 = .ok (.iadd, 1) := by decide +kernel
theorem D241_586 : decode code 586 = .ok (.iaload, 1) := by decide +kernel
theorem D241_587 : decode code 587 = .ok (.aload_n 0, 1) := by decide +kernel
theorem D241_588 : decode code 588 = .ok (.iload 4, 2) := by decide +kernel
theorem D241_590 : decode code 590 = .ok (.iconst 2, 1) := by decide +kernel
theorem D241_591 : decode code 591 = .ok (.iadd, 1) := by decide +kernel
theorem D241_592 : decode code 592 = .ok (.iaload, 1) := by decide +kernel
theorem D241_593 : decode code 593 = .ok (.aload_n 0, 1) := by decide +kernel
theorem D241_594 : decode code 594 = .ok (.iload 4, 2) := by decide +kernel
theorem D241_596 : decode code 596 = .ok (.iconst 3, 1) := by decide +kernel
theorem D241_597 : decode code 597 = .ok (.iadd, 1) := by decide +kernel
theorem D241_598 : decode code 598 = .ok (.iaload, 1) := by decide +kernel
theorem D241_599 : decode code 599 = .ok (.aload_n 0, 1) := by decide +kernel
theorem D241_600 : decode code 600 = .ok (.iload 4, 2) := by decide +kernel
theorem D241_602 : decode code 602 = .ok (.iconst 4, 1) := by decide +kernel
theorem D241_603 : decode code 603 = .ok (.iadd, 1) := by decide +kernel
theorem D241_604 : decode code 604 = .ok (.iaload, 1) := by decide +kernel
theorem D241_605 : decode code 605 = .ok (.invokevirtual 66, 3) := by decide +kernel
theorem D241_608 : decode code 608 = .ok (.if_icmp .eq 865, 3) := by decide +kernel
theorem D241_611 : decode code 611 = .ok (.iconst 0, 1) := by decide +kernel
theorem D241_612 : decode code 612 = .ok (.ireturn, 1) := by decide +kernel
theorem D241_613 : decode code 613 = .ok (.aload_n 1, 1) := by decide +kernel
theorem D241_614 : decode code 614 = .ok (.aload_n 0, 1) := by decide +kernel
theorem D241_615 : decode code 615 = .ok (.iload 4, 2) := by decide +kernel
theorem D241_617 : decode code 617 = .ok (.iconst 1, 1) := by decide +kernel
theorem D241_618 : decode code 618 = .ok (.iadd, 1) := by decide +kernel
theorem D241_619 : decode code 619 = .ok (.iaload, 1) := by decide +kernel
theorem D241_620 : decode code 620 = .ok (.invokevirtual 67, 3) := by decide +kernel
theorem D241_623 : decode code 623 = .ok (.aload_n 2, 1) := by decide +kernel
theorem D241_624 : decode code 624 = .ok (.aload_n 0, 1) := by decide +kernel
theorem D241_625 : decode code 625 = .ok (.iload 4, 2) := by decide +kernel
theorem D241_627 : decode code 627 = .ok (.iconst 1, 1) := by decide +kernel
theorem D241_628 : decode code 628 = .ok (.iadd, 1) := by decide +kernel
theorem D241_629 : decode code 629 = .ok (.iaload, 1) := by decide +kernel
theorem D241_630 : decode code 630 = .ok (.invokevirtual 70, 3) := by decide +kernel
theorem D241_633 : decode code 633 = .ok (.if_icmp .eq 840, 3) := by decide +kernel
theorem D241_636 : decode code 636 = .ok (.iconst 0, 1) := by decide +kernel
theorem D241_637 : decode code 637 = .ok (.ireturn, 1) := by decide +kernel
theorem D241_638 : decode code 638 = .ok (.aload_n 1, 1) := by decide +kernel
theorem D241_639 : decode code 639 = .ok (.aload_n 0, 1) := by decide +kernel
theorem D241_640 : decode code 640 = .ok (.iload 4, 2) := by decide +kernel
theorem D241_642 : decode code 642 = .ok (.iconst 1, 1) := by decide +kernel
theorem D241_643 : decode code 643 = .ok (.iadd, 1) := by decide +kernel
theorem D241_644 : decode code 644 = .ok (.iaload, 1) := by decide +kernel
theorem D241_645 : decode code 645 = .ok (.invokevirtual 71, 3) := by decide +kernel
theorem D241_648 : decode code 648 = .ok (.aload_n 2, 1) := by decide +kernel
theorem D241_649 : decode code 649 = .ok (.aload_n 0, 1) := by decide +kernel
theorem D241_650 : decode code 650 = .ok (.iload 4, 2) := by decide +kernel
theorem D241_652 : decode code 652 = .ok (.iconst 1, 1) := by decide +kernel
theorem D241_653 : decode code 653 = .ok (.iadd, 1) := by decide +kernel
theorem D241_654 : decode code 654 = .ok (.iaload, 1) := by decide +kernel
theorem D241_655 : decode code 655 = .ok (.invokevirtual 74, 3) := by decide +kernel
theorem D241_658 : decode code 658 = .ok (.if_icmp .eq 815, 3) := by decide +kernel
theorem D241_661 : decode code 661 = .ok (.iconst 0, 1) := by decide +kernel
theorem D241_662 : decode code 662 = .ok (.ireturn, 1) := by decide +kernel
theorem D241_663 : decode code 663 = .ok (.aload_n 1, 1) := by decide +kernel
theorem D241_664 : decode code 664 = .ok (.aload_n 0, 1) := by decide +kernel
theorem D241_665 : decode code 665 = .ok (.iload 4, 2) := by decide +kernel
theorem D241_667 : decode code 667 = .ok (.iconst 1, 1) := by decide +kernel
theorem D241_668 : decode code 668 = .ok (.iadd, 1) := by decide +kernel
theorem D241_669 : decode code 669 = .ok (.iaload, 1) := by decide +kernel
theorem D241_670 : decode code 670 = .ok (.invokevirtual 75, 3) := by decide +kernel
theorem D241_673 : decode code 673 = .ok (.aload_n 2, 1) := by decide +kernel
theorem D241_674 : decode code 674 = .ok (.aload_n 0, 1) := by decide +kernel
theorem D241_675 : decode code 675 = .ok (.iload 4, 2) := by decide +kernel
theorem D241_677 : decode code 677 = .ok (.iconst 1, 1) := by decide +kernel
theorem D241_678 : decode code 678 = .ok (.iadd, 1) := by decide +kernel
theorem D241_679 : decode code 679 = .ok (.iaload, 1) := by decide +kernel
theorem D241_680 : decode code 680 = .ok (.invokevirtual 78, 3) := by decide +kernel
theorem D241_683 : decode code 683 = .ok (.if_icmp .eq 790, 3) := by decide +kernel
theorem D241_686 : decode code 686 = .ok (.iconst 0, 1) := by decide +kernel
theorem D241_687 : decode code 687 = .ok (.ireturn, 1) := by decide +kernel
theorem D241_688 : decode code 688 = .ok (.aload_n 1, 1) := by decide +kernel
theorem D241_689 : decode code 689 = .ok (.aload_n 0, 1) := by decide +kernel
theorem D241_690 : decode code 690 = .ok (.iload 4, 2) := by decide +kernel
theorem D241_692 : decode code 692 = .ok (.iconst 1, 1) := by decide +kernel
theorem D241_693 : decode code 693 = .ok (.iadd, 1) := by decide +kernel
theorem D241_694 : decode code 694 = .ok (.iaload, 1) := by decide +kernel
theorem D241_695 : decode code 695 = .ok (.aload_n 0, 1) := by decide +kernel
theorem D241_696 : decode code 696 = .ok (.iload 4, 2) := by decide +kernel
theorem D241_698 : decode code 698 = .ok (.iconst 2, 1) := by decide +kernel
theorem D241_699 : decode code 699 = .ok (.iadd, 1) := by decide +kernel
theorem D241_700 : decode code 700 = .ok (.iaload, 1) := by decide +kernel
theorem D241_701 : decode code 701 = .ok (.aload_n 0, 1) := by decide +kernel
theorem D241_702 : decode code 702 = .ok (.iload 4, 2) := by decide +kernel
theorem D241_704 : decode code 704 = .ok (.iconst 3, 1) := by decide +kernel
theorem D241_705 : decode code 705 = .ok (.iadd, 1) := by decide +kernel
theorem D241_706 : decode code 706 = .ok (.iaload, 1) := by decide +kernel
theorem D241_707 : decode code 707 = .ok (.invokevirtual 79, 3) := by decide +kernel
theorem D241_710 : decode code 710 = .ok (.aload_n 2, 1) := by decide +kernel
theorem D241_711 : decode code 711 = .ok (.aload_n 0, 1) := by decide +kernel
theorem D241_712 : decode code 712 = .ok (.iload 4, 2) := by decide +kernel
theorem D241_714 : decode code 714 = .ok (.iconst 1, 1) := by decide +kernel
theorem D241_715 : decode code 715 = .ok (.iadd, 1) := by decide +kernel
theorem D241_716 : decode code 716 = .ok (.iaload, 1) := by decide +kernel
theorem D241_717 : decode code 717 = .ok (.aload_n 0, 1) := by decide +kernel
theorem D241_718 : decode code 718 = .ok (.iload 4, 2) := by decide +kernel
theorem D241_720 : decode code 720 = .ok (.iconst 2, 1) := by decide +kernel
theorem D241_721 : decode code 721 = .ok (.iadd, 1) := by decide +kernel
theorem D241_722 : decode code 722 = .ok (.iaload, 1) := by decide +kernel
theorem D241_723 : decode code 723 = .ok (.aload_n 0, 1) := by decide +kernel
theorem D241_724 : decode code 724 = .ok (.iload 4, 2) := by decide +kernel
theorem D241_726 : decode code 726 = .ok (.iconst 3, 1) := by decide +kernel
theorem D241_727 : decode code 727 = .ok (.iadd, 1) := by decide +kernel
theorem D241_728 : decode code 728 = .ok (.iaload, 1) := by decide +kernel
theorem D241_729 : decode code 729 = .ok (.invokevirtual 83, 3) := by decide +kernel
theorem D241_732 : decode code 732 = .ok (.if_icmp .eq 741, 3) := by decide +kernel
theorem D241_735 : decode code 735 = .ok (.iconst 0, 1) := by decide +kernel
theorem D241_736 : decode code 736 = .ok (.ireturn, 1) := by decide +kernel
theorem D241_737 : decode code 737 = .ok (.aload_n 1, 1) := by decide +kernel
theorem D241_738 : decode code 738 = .ok (.aload_n 0, 1) := by decide +kernel
theorem D241_739 : decode code 739 = .ok (.iload 4, 2) := by decide +kernel
theorem D241_741 : decode code 741 = .ok (.iconst 1, 1) := by decide +kernel
theorem D241_742 : decode code 742 = .ok (.iadd, 1) := by decide +kernel
theorem D241_743 : decode code 743 = .ok (.iaload, 1) := by decide +kernel
theorem D241_744 : decode code 744 = .ok (.invokevirtual 84, 3) := by decide +kernel
theorem D241_747 : decode code 747 = .ok (.aload_n 2, 1) := by decide +kernel
theorem D241_748 : decode code 748 = .ok (.aload_n 0, 1) := by decide +kernel
theorem D241_749 : decode code 749 = .ok (.iload 4, 2) := by decide +kernel
theorem D241_751 : decode code 751 = .ok (.iconst 1, 1) := by decide +kernel
theorem D241_752 : decode code 752 = .ok (.iadd, 1) := by decide +kernel
theorem D241_753 : decode code 753 = .ok (.iaload, 1) := by decide +kernel
theorem D241_754 : decode code 754 = .ok (.invokevirtual 87, 3) := by decide +kernel
theorem D241_757 : decode code 757 = .ok (.if_icmp .eq 716, 3) := by decide +kernel
theorem D241_760 : decode code 760 = .ok (.iconst 0, 1) := by decide +kernel
theorem D241_761 : decode code 761 = .ok (.ireturn, 1) := by decide +kernel
theorem D241_762 : decode code 762 = .ok (.aload_n 1, 1) := by decide +kernel
theorem D241_763 : decode code 763 = .ok (.aload_n 0, 1) := by decide +kernel
theorem D241_764 : decode code 764 = .ok (.iload 4, 2) := by decide +kernel
theorem D241_766 : decode code 766 = .ok (.iconst 1, 1) := by decide +kernel
theorem D241_767 : decode code 767 = .ok (.iadd, 1) := by decide +kernel
theorem D241_768 : decode code 768 = .ok (.iaload, 1) := by decide +kernel
theorem D241_769 : decode code 769 = .ok (.aload_n 0, 1) := by decide +kernel
theorem D241_770 : decode code 770 = .ok (.iload 4, 2) := by decide +kernel
theorem D241_772 : decode code 772 = .ok (.iconst 2, 1) := by decide +kernel
theorem D241_773 : decode code 773 = .ok (.iadd, 1) := by decide +kernel
theorem D241_774 : decode code 774 = .ok (.iaload, 1) := by decide +kernel
theorem D241_775 : decode code 775 = .ok (.invokevirtual 88, 3) := by decide +kernel
theorem D241_778 : decode code 778 = .ok (.aload_n 2, 1) := by decide +kernel
theorem D241_779 : decode code 779 = .ok (.aload_n 0, 1) := by decide +kernel
theorem D241_780 : decode code 780 = .ok (.iload 4, 2) := by decide +kernel
theorem D241_782 : decode code 782 = .ok (.iconst 1, 1) := by decide +kernel
theorem D241_783 : decode code 783 = .ok (.iadd, 1) := by decide +kernel
theorem D241_784 : decode code 784 = .ok (.iaload, 1) := by decide +kernel
theorem D241_785 : decode code 785 = .ok (.aload_n 0, 1) := by decide +kernel
theorem D241_786 : decode code 786 = .ok (.iload 4, 2) := by decide +kernel
theorem D241_788 : decode code 788 = .ok (.iconst 2, 1) := by decide +kernel
theorem D241_789 : decode code 789 = .ok (.iadd, 1) := by decide +kernel
theorem D241_790 : decode code 790 = .ok (.iaload, 1) := by decide +kernel
theorem D241_791 : decode code 791 = .ok (.invokevirtual 91, 3) := by decide +kernel
theorem D241_794 : decode code 794 = .ok (.if_icmp .eq 679, 3) := by decide +kernel
theorem D241_797 : decode code 797 = .ok (.iconst 0, 1) := by decide +kernel
theorem D241_798 : decode code 798 = .ok (.ireturn, 1) := by decide +kernel
theorem D241_799 : decode code 799 = .ok (.aload_n 1, 1) := by decide +kernel
theorem D241_800 : decode code 800 = .ok (.aload_n 0, 1) := by decide +kernel
theorem D241_801 : decode code 801 = .ok (.iload 4, 2) := by decide +kernel
theorem D241_803 : decode code 803 = .ok (.iconst 1, 1) := by decide +kernel
theorem D241_804 : decode code 804 = .ok (.iadd, 1) := by decide +kernel
theorem D241_805 : decode code 805 = .ok (.iaload, 1) := by decide +kernel
theorem D241_806 : decode code 806 = .ok (.invokevirtual 92, 3) := by decide +kernel
theorem D241_809 : decode code 809 = .ok (.aload_n 2, 1) := by decide +kernel
theorem D241_810 : decode code 810 = .ok (.aload_n 0, 1) := by decide +kernel
theorem D241_811 : decode code 811 = .ok (.iload 4, 2) := by decide +kernel
theorem D241_813 : decode code 813 = .ok (.iconst 1, 1) := by decide +kernel
theorem D241_814 : decode code 814 = .ok (.iadd, 1) := by decide +kernel
theorem D241_815 : decode code 815 = .ok (.iaload, 1) := by decide +kernel
theorem D241_816 : decode code 816 = .ok (.invokevirtual 95, 3) := by decide +kernel
theorem D241_819 : decode code 819 = .ok (.if_icmp .eq 654, 3) := by decide +kernel
theorem D241_822 : decode code 822 = .ok (.iconst 0, 1) := by decide +kernel
theorem D241_823 : decode code 823 = .ok (.ireturn, 1) := by decide +kernel
theorem D241_824 : decode code 824 = .ok (.aload_n 1, 1) := by decide +kernel
theorem D241_825 : decode code 825 = .ok (.aload_n 0, 1) := by decide +kernel
theorem D241_826 : decode code 826 = .ok (.iload 4, 2) := by decide +kernel
theorem D241_828 : decode code 828 = .ok (.iconst 1, 1) := by decide +kernel
theorem D241_829 : decode code 829 = .ok (.iadd, 1) := by decide +kernel
theorem D241_830 : decode code 830 = .ok (.iaload, 1) := by decide +kernel
theorem D241_831 : decode code 831 = .ok (.aload_n 0, 1) := by decide +kernel
theorem D241_832 : decode code 832 = .ok (.iload 4, 2) := by decide +kernel
theorem D241_834 : decode code 834 = .ok (.iconst 2, 1) := by decide +kernel
theorem D241_835 : decode code 835 = .ok (.iadd, 1) := by decide +kernel
theorem D241_836 : decode code 836 = .ok (.iaload, 1) := by decide +kernel
theorem D241_837 : decode code 837 = .ok (.invokevirtual 96, 3) := by decide +kernel
theorem D241_840 : decode code 840 = .ok (.aload_n 2, 1) := by decide +kernel
theorem D241_841 : decode code 841 = .ok (.aload_n 0, 1) := by decide +kernel
theorem D241_842 : decode code 842 = .ok (.iload 4, 2) := by decide +kernel
theorem D241_844 : decode code 844 = .ok (.iconst 1, 1) := by decide +kernel
theorem D241_845 : decode code 845 = .ok (.iadd, 1) := by decide +kernel
theorem D241_846 : decode code 846 = .ok (.iaload, 1) := by decide +kernel
theorem D241_847 : decode code 847 = .ok (.aload_n 0, 1) := by decide +kernel
theorem D241_848 : decode code 848 = .ok (.iload 4, 2) := by decide +kernel
theorem D241_850 : decode code 850 = .ok (.iconst 2, 1) := by decide +kernel
theorem D241_851 : decode code 851 = .ok (.iadd, 1) := by decide +kernel
theorem D241_852 : decode code 852 = .ok (.iaload, 1) := by decide +kernel
theorem D241_853 : decode code 853 = .ok (.invokevirtual 99, 3) := by decide +kernel
theorem D241_856 : decode code 856 = .ok (.if_icmp .eq 617, 3) := by decide +kernel
theorem D241_859 : decode code 859 = .ok (.iconst 0, 1) := by decide +kernel
theorem D241_860 : decode code 860 = .ok (.ireturn, 1) := by decide +kernel
theorem D241_861 : decode code 861 = .ok (.aload_n 1, 1) := by decide +kernel
theorem D241_862 : decode code 862 = .ok (.aload_n 0, 1) := by decide +kernel
theorem D241_863 : decode code 863 = .ok (.iload 4, 2) := by decide +kernel
theorem D241_865 : decode code 865 = .ok (.iconst 1, 1) := by decide +kernel
theorem D241_866 : decode code 866 = .ok (.iadd, 1) := by decide +kernel
theorem D241_867 : decode code 867 = .ok (.iaload, 1) := by decide +kernel
theorem D241_868 : decode code 868 = .ok (.invokevirtual 100, 3) := by decide +kernel
theorem D241_871 : decode code 871 = .ok (.aload_n 2, 1) := by decide +kernel
theorem D241_872 : decode code 872 = .ok (.aload_n 0, 1) := by decide +kernel
theorem D241_873 : decode code 873 = .ok (.iload 4, 2) := by decide +kernel
theorem D241_875 : decode code 875 = .ok (.iconst 1, 1) := by decide +kernel
theorem D241_876 : decode code 876 = .ok (.iadd, 1) := by decide +kernel
theorem D241_877 : decode code 877 = .ok (.iaload, 1) := by decide +kernel
theorem D241_878 : decode code 878 = .ok (.invokevirtual 103, 3) := by decide +kernel
theorem D241_881 : decode code 881 = .ok (.if_icmp .eq 592, 3) := by decide +kernel
theorem D241_884 : decode code 884 = .ok (.iconst 0, 1) := by decide +kernel
theorem D241_885 : decode code 885 = .ok (.ireturn, 1) := by decide +kernel
theorem D241_886 : decode code 886 = .ok (.aload_n 1, 1) := by decide +kernel
theorem D241_887 : decode code 887 = .ok (.aload_n 0, 1) := by decide +kernel
theorem D241_888 : decode code 888 = .ok (.iload 4, 2) := by decide +kernel
theorem D241_890 : decode code 890 = .ok (.iconst 1, 1) := by decide +kernel
theorem D241_891 : decode code 891 = .ok (.iadd, 1) := by decide +kernel
theorem D241_892 : decode code 892 = .ok (.iaload, 1) := by decide +kernel
theorem D241_893 : decode code 893 = .ok (.aload_n 0, 1) := by decide +kernel
theorem D241_894 : decode code 894 = .ok (.iload 4, 2) := by decide +kernel
theorem D241_896 : decode code 896 = .ok (.iconst 2, 1) := by decide +kernel
theorem D241_897 : decode code 897 = .ok (.iadd, 1) := by decide +kernel
theorem D241_898 : decode code 898 = .ok (.iaload, 1) := by decide +kernel
theorem D241_899 : decode code 899 = .ok (.invokevirtual 104, 3) := by decide +kernel
theorem D241_902 : decode code 902 = .ok (.aload_n 2, 1) := by decide +kernel
theorem D241_903 : decode code 903 = .ok (.aload_n 0, 1) := by decide +kernel
theorem D241_904 : decode code 904 = .ok (.iload 4, 2) := by decide +kernel
theorem D241_906 : decode code 906 = .ok (.iconst 1, 1) := by decide +kernel
theorem D241_907 : decode code 907 = .ok (.iadd, 1) := by decide +kernel
theorem D241_908 : decode code 908 = .ok (.iaload, 1) := by decide +kernel
theorem D241_909 : decode code 909 = .ok (.aload_n 0, 1) := by decide +kernel
theorem D241_910 : decode code 910 = .ok (.iload 4, 2) := by decide +kernel
theorem D241_912 : decode code 912 = .ok (.iconst 2, 1) := by decide +kernel
theorem D241_913 : decode code 913 = .ok (.iadd, 1) := by decide +kernel
theorem D241_914 : decode code 914 = .ok (.iaload, 1) := by decide +kernel
theorem D241_915 : decode code 915 = .ok (.invokevirtual 107, 3) := by decide +kernel
theorem D241_918 : decode code 918 = .ok (.if_icmp .eq 555, 3) := by decide +kernel
theorem D241_921 : decode code 921 = .ok (.iconst 0, 1) := by decide +kernel
theorem D241_922 : decode code 922 = .ok (.ireturn, 1) := by decide +kernel
theorem D241_923 : decode code 923 = .ok (.aload_n 1, 1) := by decide +kernel
theorem D241_924 : decode code 924 = .ok (.invokevirtual 108, 3) := by decide +kernel
theorem D241_927 : decode code 927 = .ok (.aload_n 2, 1) := by decide +kernel
theorem D241_928 : decode code 928 = .ok (.invokevirtual 111, 3) := by decide +kernel
theorem D241_931 : decode code 931 = .ok (.if_icmp .eq 542, 3) := by decide +kernel
theorem D241_934 : decode code 934 = .ok (.iconst 0, 1) := by decide +kernel
theorem D241_935 : decode code 935 = .ok (.ireturn, 1) := by decide +kernel
theorem D241_936 : decode code 936 = .ok (.aload_n 1, 1) := by decide +kernel
theorem D241_937 : decode code 937 = .ok (.aload_n 0, 1) := by decide +kernel
theorem D241_938 : decode code 938 = .ok (.iload 4, 2) := by decide +kernel
theorem D241_940 : decode code 940 = .ok (.iconst 1, 1) := by decide +kernel
theorem D241_941 : decode code 941 = .ok (.iadd, 1) := by decide +kernel
theorem D241_942 : decode code 942 = .ok (.iaload, 1) := by decide +kernel
theorem D241_943 : decode code 943 = .ok (.aload_n 0, 1) := by decide +kernel
theorem D241_944 : decode code 944 = .ok (.iload 4, 2) := by decide +kernel
theorem D241_946 : decode code 946 = .ok (.iconst 2, 1) := by decide +kernel
theorem D241_947 : decode code 947 = .ok (.iadd, 1) := by decide +kernel
theorem D241_948 : decode code 948 = .ok (.iaload, 1) := by decide +kernel
theorem D241_949 : decode code 949 = .ok (.invokevirtual 112, 3) := by decide +kernel
theorem D241_952 : decode code 952 = .ok (.aload_n 2, 1) := by decide +kernel
theorem D241_953 : decode code 953 = .ok (.aload_n 0, 1) := by decide +kernel
theorem D241_954 : decode code 954 = .ok (.iload 4, 2) := by decide +kernel
theorem D241_956 : decode code 956 = .ok (.iconst 1, 1) := by decide +kernel
theorem D241_957 : decode code 957 = .ok (.iadd, 1) := by decide +kernel
theorem D241_958 : decode code 958 = .ok (.iaload, 1) := by decide +kernel
theorem D241_959 : decode code 959 = .ok (.aload_n 0, 1) := by decide +kernel
theorem D241_960 : decode code 960 = .ok (.iload 4, 2) := by decide +kernel
theorem D241_962 : decode code 962 = .ok (.iconst 2, 1) := by decide +kernel
theorem D241_963 : decode code 963 = .ok (.iadd, 1) := by decide +kernel
theorem D241_964 : decode code 964 = .ok (.iaload, 1) := by decide +kernel
theorem D241_965 : decode code 965 = .ok (.invokevirtual 115, 3) := by decide +kernel
theorem D241_968 : decode code 968 = .ok (.if_icmp .eq 505, 3) := by decide +kernel
theorem D241_971 : decode code 971 = .ok (.iconst 0, 1) := by decide +kernel
theorem D241_972 : decode code 972 = .ok (.ireturn, 1) := by decide +kernel
theorem D241_973 : decode code 973 = .ok (.aload_n 1, 1) := by decide +kernel
theorem D241_974 : decode code 974 = .ok (.aload_n 0, 1) := by decide +kernel
theorem D241_975 : decode code 975 = .ok (.iload 4, 2) := by decide +kernel
theorem D241_977 : decode code 977 = .ok (.iconst 1, 1) := by decide +kernel
theorem D241_978 : decode code 978 = .ok (.iadd, 1) := by decide +kernel
theorem D241_979 : decode code 979 = .ok (.iaload, 1) := by decide +kernel
theorem D241_980 : decode code 980 = .ok (.invokevirtual 116, 3) := by decide +kernel
theorem D241_983 : decode code 983 = .ok (.aload_n 2, 1) := by decide +kernel
theorem D241_984 : decode code 984 = .ok (.aload_n 0, 1) := by decide +kernel
theorem D241_985 : decode code 985 = .ok (.iload 4, 2) := by decide +kernel
theorem D241_987 : decode code 987 = .ok (.iconst 1, 1) := by decide +kernel
theorem D241_988 : decode code 988 = .ok (.iadd, 1) := by decide +kernel
theorem D241_989 : decode code 989 = .ok (.iaload, 1) := by decide +kernel
theorem D241_990 : decode code 990 = .ok (.invokevirtual 119, 3) := by decide +kernel
theorem D241_993 : decode code 993 = .ok (.if_icmp .eq 480, 3) := by decide +kernel
theorem D241_996 : decode code 996 = .ok (.iconst 0, 1) := by decide +kernel
theorem D241_997 : decode code 997 = .ok (.ireturn, 1) := by decide +kernel
theorem D241_998 : decode code 998 = .ok (.aload_n 1, 1) := by decide +kernel
theorem D241_999 : decode code 999 = .ok (.aload_n 0, 1) := by decide +kernel
theorem D241_1000 : decode code 1000 = .ok (.iload 4, 2) := by decide +kernel
theorem D241_1002 : decode code 1002 = .ok (.iconst 1, 1) := by decide +kernel
theorem D241_1003 : decode code 1003 = .ok (.iadd, 1) := by decide +kernel
theorem D241_1004 : decode code 1004 = .ok (.iaload, 1) := by decide +kernel
theorem D241_1005 : decode code 1005 = .ok (.aload_n 0, 1) := by decide +kernel
theorem D241_1006 : decode code 1006 = .ok (.iload 4, 2) := by decide +kernel
theorem D241_1008 : decode code 1008 = .ok (.iconst 2, 1) := by decide +kernel
theorem D241_1009 : decode code 1009 = .ok (.iadd, 1) := by decide +kernel
theorem D241_1010 : decode code 1010 = .ok (.iaload, 1) := by decide +kernel
theorem D241_1011 : decode code 1011 = .ok (.invokevirtual 120, 3) := by decide +kernel
theorem D241_1014 : decode code 1014 = .ok (.aload_n 2, 1) := by decide +kernel
theorem D241_1015 : decode code 1015 = .ok (.aload_n 0, 1) := by decide +kernel
theorem D241_1016 : decode code 1016 = .ok (.iload 4, 2) := by decide +kernel
theorem D241_1018 : decode code 1018 = .ok (.iconst 1, 1) := by decide +kernel
theorem D241_1019 : decode code 1019 = .ok (.iadd, 1) := by decide +kernel
theorem D241_1020 : decode code 1020 = .ok (.iaload, 1) := by decide +kernel
theorem D241_1021 : decode code 1021 = .ok (.aload_n 0, 1) := by decide +kernel
theorem D241_1022 : decode code 1022 = .ok (.iload 4, 2) := by decide +kernel
theorem D241_1024 : decode code 1024 = .ok (.iconst 2, 1) := by decide +kernel
theorem D241_1025 : decode code 1025 = .ok (.iadd, 1) := by decide +kernel
theorem D241_1026 : decode code 1026 = .ok (.iaload, 1) := by decide +kernel
theorem D241_1027 : decode code 1027 = .ok (.invokevirtual 123, 3) := by decide +kernel
theorem D241_1030 : decode code 1030 = .ok (.if_icmp .eq 443, 3) := by decide +kernel
theorem D241_1033 : decode code 1033 = .ok (.iconst 0, 1) := by decide +kernel
theorem D241_1034 : decode code 1034 = .ok (.ireturn, 1) := by decide +kernel
theorem D241_1035 : decode code 1035 = .ok (.aload_n 1, 1) := by decide +kernel
theorem D241_1036 : decode code 1036 = .ok (.aload_n 0, 1) := by decide +kernel
theorem D241_1037 : decode code 1037 = .ok (.iload 4, 2) := by decide +kernel
theorem D241_1039 : decode code 1039 = .ok (.iconst 1, 1) := by decide +kernel
theorem D241_1040 : decode code 1040 = .ok (.iadd, 1) := by decide +kernel
theorem D241_1041 : decode code 1041 = .ok (.iaload, 1) := by decide +kernel
theorem D241_1042 : decode code 1042 = .ok (.aload_n 0, 1) := by decide +kernel
theorem D241_1043 : decode code 1043 = .ok (.iload 4, 2) := by decide +kernel
theorem D241_1045 : decode code 1045 = .ok (.iconst 2, 1) := by decide +kernel
theorem D241_1046 : decode code 1046 = .ok (.iadd, 1) := by decide +kernel
theorem D241_1047 : decode code 1047 = .ok (.iaload, 1) := by decide +kernel
theorem D241_1048 : decode code 1048 = .ok (.aload_n 0, 1) := by decide +kernel
theorem D241_1049 : decode code 1049 = .ok (.iload 4, 2) := by decide +kernel
theorem D241_1051 : decode code 1051 = .ok (.iconst 3, 1) := by decide +kernel
theorem D241_1052 : decode code 1052 = .ok (.iadd, 1) := by decide +kernel
theorem D241_1053 : decode code 1053 = .ok (.iaload, 1) := by decide +kernel
theorem D241_1054 : decode code 1054 = .ok (.invokevirtual 124, 3) := by decide +kernel
theorem D241_1057 : decode code 1057 = .ok (.aload_n 2, 1) := by decide +kernel
theorem D241_1058 : decode code 1058 = .ok (.aload_n 0, 1) := by decide +kernel
theorem D241_1059 : decode code 1059 = .ok (.iload 4, 2) := by decide +kernel
theorem D241_1061 : decode code 1061 = .ok (.iconst 1, 1) := by decide +kernel
theorem D241_1062 : decode code 1062 = .ok (.iadd, 1) := by decide +kernel
theorem D241_1063 : decode code 1063 = .ok (.iaload, 1) := by decide +kernel
theorem D241_1064 : decode code 1064 = .ok (.aload_n 0, 1) := by decide +kernel
theorem D241_1065 : decode code 1065 = .ok (.iload 4, 2) := by decide +kernel
theorem D241_1067 : decode code 1067 = .ok (.iconst 2, 1) := by decide +kernel
theorem D241_1068 : decode code 1068 = .ok (.iadd, 1) := by decide +kernel
theorem D241_1069 : decode code 1069 = .ok (.iaload, 1) := by decide +kernel
theorem D241_1070 : decode code 1070 = .ok (.aload_n 0, 1) := by decide +kernel
theorem D241_1071 : decode code 1071 = .ok (.iload 4, 2) := by decide +kernel
theorem D241_1073 : decode code 1073 = .ok (.iconst 3, 1) := by decide +kernel
theorem D241_1074 : decode code 1074 = .ok (.iadd, 1) := by decide +kernel
theorem D241_1075 : decode code 1075 = .ok (.iaload, 1) := by decide +kernel
theorem D241_1076 : decode code 1076 = .ok (.invokevirtual 127, 3) := by decide +kernel
theorem D241_1079 : decode code 1079 = .ok (.if_icmp .eq 394, 3) := by decide +kernel
theorem D241_1082 : decode code 1082 = .ok (.iconst 0, 1) := by decide +kernel
theorem D241_1083 : decode code 1083 = .ok (.ireturn, 1) := by decide +kernel
theorem D241_1084 : decode code 1084 = .ok (.aload_n 1, 1) := by decide +kernel
theorem D241_1085 : decode code 1085 = .ok (.aload_n 0, 1) := by decide +kernel
theorem D241_1086 : decode code 1086 = .ok (.iload 4, 2) := by decide +kernel
theorem D241_1088 : decode code 1088 = .ok (.iconst 1, 1) := by decide +kernel
theorem D241_1089 : decode code 1089 = .ok (.iadd, 1) := by decide +kernel
theorem D241_1090 : decode code 1090 = .ok (.iaload, 1) := by decide +kernel
theorem D241_1091 : decode code 1091 = .ok (.aload_n 0, 1) := by decide +kernel
theorem D241_1092 : decode code 1092 = .ok (.iload 4, 2) := by decide +kernel
theorem D241_1094 : decode code 1094 = .ok (.iconst 2, 1) := by decide +kernel
theorem D241_1095 : decode code 1095 = .ok (.iadd, 1) := by decide +kernel
theorem D241_1096 : decode code 1096 = .ok (.iaload, 1) := by decide +kernel
theorem D241_1097 : decode code 1097 = .ok (.invokevirtual 128, 3) := by decide +kernel
theorem D241_1100 : decode code 1100 = .ok (.aload_n 2, 1) := by decide +kernel
theorem D241_1101 : decode code 1101 = .ok (.aload_n 0, 1) := by decide +kernel
theorem D241_1102 : decode code 1102 = .ok (.iload 4, 2) := by decide +kernel
theorem D241_1104 : decode code 1104 = .ok (.iconst 1, 1) := by decide +kernel
theorem D241_1105 : decode code 1105 = .ok (.iadd, 1) := by decide +kernel
theorem D241_1106 : decode code 1106 = .ok (.iaload, 1) := by decide +kernel
theorem D241_1107 : decode code 1107 = .ok (.aload_n 0, 1) := by decide +kernel
theorem D241_1108 : decode code 1108 = .ok (.iload 4, 2) := by decide +kernel
theorem D241_1110 : decode code 1110 = .ok (.iconst 2, 1) := by decide +kernel
theorem D241_1111 : decode code 1111 = .ok (.iadd, 1) := by decide +kernel
theorem D241_1112 : decode code 1112 = .ok (.iaload, 1) := by decide +kernel
theorem D241_1113 : decode code 1113 = .ok (.invokevirtual 132, 3) := by decide +kernel
theorem D241_1116 : decode code 1116 = .ok (.lcmp, 1) := by decide +kernel
theorem D241_1117 : decode code 1117 = .ok (.ifCond .eq 356, 3) := by decide +kernel
theorem D241_1120 : decode code 1120 = .ok (.iconst 0, 1) := by decide +kernel
theorem D241_1121 : decode code 1121 = .ok (.ireturn, 1) := by decide +kernel
theorem D241_1122 : decode code 1122 = .ok (.aload_n 1, 1) := by decide +kernel
theorem D241_1123 : decode code 1123 = .ok (.aload_n 0, 1) := by decide +kernel
theorem D241_1124 : decode code 1124 = .ok (.iload 4, 2) := by decide +kernel
theorem D241_1126 : decode code 1126 = .ok (.iconst 1, 1) := by decide +kernel
theorem D241_1127 : decode code 1127 = .ok (.iadd, 1) := by decide +kernel
theorem D241_1128 : decode code 1128 = .ok (.iaload, 1) := by decide +kernel
theorem D241_1129 : decode code 1129 = .ok (.aload_n 0, 1) := by decide +kernel
theorem D241_1130 : decode code 1130 = .ok (.iload 4, 2) := by decide +kernel
theorem D241_1132 : decode code 1132 = .ok (.iconst 2, 1) := by decide +kernel
theorem D241_1133 : decode code 1133 = .ok (.iadd, 1) := by decide +kernel
theorem D241_1134 : decode code 1134 = .ok (.iaload, 1) := by decide +kernel
theorem D241_1135 : decode code 1135 = .ok (.aload_n 0, 1) := by decide +kernel
theorem D241_1136 : decode code 1136 = .ok (.iload 4, 2) := by decide +kernel
theorem D241_1138 : decode code 1138 = .ok (.iconst 3, 1) := by decide +kernel
theorem D241_1139 : decode code 1139 = .ok (.iadd, 1) := by decide +kernel
theorem D241_1140 : decode code 1140 = .ok (.iaload, 1) := by decide +kernel
theorem D241_1141 : decode code 1141 = .ok (.aload_n 0, 1) := by decide +kernel
theorem D241_1142 : decode code 1142 = .ok (.iload 4, 2) := by decide +kernel
theorem D241_1144 : decode code 1144 = .ok (.iconst 4, 1) := by decide +kernel
theorem D241_1145 : decode code 1145 = .ok (.iadd, 1) := by decide +kernel
theorem D241_1146 : decode code 1146 = .ok (.iaload, 1) := by decide +kernel
theorem D241_1147 : decode code 1147 = .ok (.aload_n 0, 1) := by decide +kernel
theorem D241_1148 : decode code 1148 = .ok (.iload 4, 2) := by decide +kernel
theorem D241_1150 : decode code 1150 = .ok (.iconst 5, 1) := by decide +kernel
theorem D241_1151 : decode code 1151 = .ok (.iadd, 1) := by decide +kernel
theorem D241_1152 : decode code 1152 = .ok (.iaload, 1) := by decide +kernel
theorem D241_1153 : decode code 1153 = .ok (.ifCond .eq 7, 3) := by decide +kernel
theorem D241_1156 : decode code 1156 = .ok (.iconst 1, 1) := by decide +kernel
theorem D241_1157 : decode code 1157 = .ok (.goto 4, 3) := by decide +kernel
theorem D241_1160 : decode code 1160 = .ok (.iconst 0, 1) := by decide +kernel
theorem D241_1161 : decode code 1161 = .ok (.invokevirtual 133, 3) := by decide +kernel
theorem D241_1164 : decode code 1164 = .ok (.aload_n 2, 1) := by decide +kernel
theorem D241_1165 : decode code 1165 = .ok (.aload_n 0, 1) := by decide +kernel
theorem D241_1166 : decode code 1166 = .ok (.iload 4, 2) := by decide +kernel
theorem D241_1168 : decode code 1168 = .ok (.iconst 1, 1) := by decide +kernel
theorem D241_1169 : decode code 1169 = .ok (.iadd, 1) := by decide +kernel
theorem D241_1170 : decode code 1170 = .ok (.iaload, 1) := by decide +kernel
theorem D241_1171 : decode code 1171 = .ok (.aload_n 0, 1) := by decide +kernel
theorem D241_1172 : decode code 1172 = .ok (.iload 4, 2) := by decide +kernel
theorem D241_1174 : decode code 1174 = .ok (.iconst 2, 1) := by decide +kernel
theorem D241_1175 : decode code 1175 = .ok (.iadd, 1) := by decide +kernel
theorem D241_1176 : decode code 1176 = .ok (.iaload, 1) := by decide +kernel
theorem D241_1177 : decode code 1177 = .ok (.aload_n 0, 1) := by decide +kernel
theorem D241_1178 : decode code 1178 = .ok (.iload 4, 2) := by decide +kernel
theorem D241_1180 : decode code 1180 = .ok (.iconst 3, 1) := by decide +kernel
theorem D241_1181 : decode code 1181 = .ok (.iadd, 1) := by decide +kernel
theorem D241_1182 : decode code 1182 = .ok (.iaload, 1) := by decide +kernel
theorem D241_1183 : decode code 1183 = .ok (.aload_n 0, 1) := by decide +kernel
theorem D241_1184 : decode code 1184 = .ok (.iload 4, 2) := by decide +kernel
theorem D241_1186 : decode code 1186 = .ok (.iconst 4, 1) := by decide +kernel
theorem D241_1187 : decode code 1187 = .ok (.iadd, 1) := by decide +kernel
theorem D241_1188 : decode code 1188 = .ok (.iaload, 1) := by decide +kernel
theorem D241_1189 : decode code 1189 = .ok (.aload_n 0, 1) := by decide +kernel
theorem D241_1190 : decode code 1190 = .ok (.iload 4, 2) := by decide +kernel
theorem D241_1192 : decode code 1192 = .ok (.iconst 5, 1) := by decide +kernel
theorem D241_1193 : decode code 1193 = .ok (.iadd, 1) := by decide +kernel
theorem D241_1194 : decode code 1194 = .ok (.iaload, 1) := by decide +kernel
theorem D241_1195 : decode code 1195 = .ok (.ifCond .eq 7, 3) := by decide +kernel
theorem D241_1198 : decode code 1198 = .ok (.iconst 1, 1) := by decide +kernel
theorem D241_1199 : decode code 1199 = .ok (.goto 4, 3) := by decide +kernel
theorem D241_1202 : decode code 1202 = .ok (.iconst 0, 1) := by decide +kernel
theorem D241_1203 : decode code 1203 = .ok (.invokevirtual 137, 3) := by decide +kernel
theorem D241_1206 : decode code 1206 = .ok (.if_icmp .eq 267, 3) := by decide +kernel
theorem D241_1209 : decode code 1209 = .ok (.iconst 0, 1) := by decide +kernel
theorem D241_1210 : decode code 1210 = .ok (.ireturn, 1) := by decide +kernel
theorem D241_1211 : decode code 1211 = .ok (.aload_n 1, 1) := by decide +kernel
theorem D241_1212 : decode code 1212 = .ok (.aload_n 0, 1) := by decide +kernel
theorem D241_1213 : decode code 1213 = .ok (.iload 4, 2) := by decide +kernel
theorem D241_1215 : decode code 1215 = .ok (.iconst 1, 1) := by decide +kernel
theorem D241_1216 : decode code 1216 = .ok (.iadd, 1) := by decide +kernel
theorem D241_1217 : decode code 1217 = .ok (.iaload, 1) := by decide +kernel
theorem D241_1218 : decode code 1218 = .ok (.invokevirtual 138, 3) := by decide +kernel
theorem D241_1221 : decode code 1221 = .ok (.aload_n 2, 1) := by decide +kernel
theorem D241_1222 : decode code 1222 = .ok (.aload_n 0, 1) := by decide +kernel
theorem D241_1223 : decode code 1223 = .ok (.iload 4, 2) := by decide +kernel
theorem D241_1225 : decode code 1225 = .ok (.iconst 1, 1) := by decide +kernel
theorem D241_1226 : decode code 1226 = .ok (.iadd, 1) := by decide +kernel
theorem D241_1227 : decode code 1227 = .ok (.iaload, 1) := by decide +kernel
theorem D241_1228 : decode code 1228 = .ok (.invokevirtual 141, 3) := by decide +kernel
theorem D241_1231 : decode code 1231 = .ok (.if_icmp .eq 242, 3) := by decide +kernel
theorem D241_1234 : decode code 1234 = .ok (.iconst 0, 1) := by decide +kernel
theorem D241_1235 : decode code 1235 = .ok (.ireturn, 1) := by decide +kernel
theorem D241_1236 : decode code 1236 = .ok (.aload_n 1, 1) := by decide +kernel
theorem D241_1237 : decode code 1237 = .ok (.aload_n 0, 1) := by decide +kernel
theorem D241_1238 : decode code 1238 = .ok (.iload 4, 2) := by decide +kernel
theorem D241_1240 : decode code 1240 = .ok (.iconst 1, 1) := by decide +kernel
theorem D241_1241 : decode code 1241 = .ok (.iadd, 1) := by decide +kernel
theorem D241_1242 : decode code 1242 = .ok (.iaload, 1) := by decide +kernel
theorem D241_1243 : decode code 1243 = .ok (.invokevirtual 142, 3) := by decide +kernel
theorem D241_1246 : decode code 1246 = .ok (.aload_n 2, 1) := by decide +kernel
theorem D241_1247 : decode code 1247 = .ok (.aload_n 0, 1) := by decide +kernel
theorem D241_1248 : decode code 1248 = .ok (.iload 4, 2) := by decide +kernel
theorem D241_1250 : decode code 1250 = .ok (.iconst 1, 1) := by decide +kernel
theorem D241_1251 : decode code 1251 = .ok (.iadd, 1) := by decide +kernel
theorem D241_1252 : decode code 1252 = .ok (.iaload, 1) := by decide +kernel
theorem D241_1253 : decode code 1253 = .ok (.invokevirtual 146, 3) := by decide +kernel
theorem D241_1256 : decode code 1256 = .ok (.if_icmp .eq 217, 3) := by decide +kernel
theorem D241_1259 : decode code 1259 = .ok (.iconst 0, 1) := by decide +kernel
theorem D241_1260 : decode code 1260 = .ok (.ireturn, 1) := by decide +kernel
theorem D241_1261 : decode code 1261 = .ok (.aload_n 1, 1) := by decide +kernel
theorem D241_1262 : decode code 1262 = .ok (.invokevirtual 147, 3) := by decide +kernel
theorem D241_1265 : decode code 1265 = .ok (.aload_n 2, 1) := by decide +kernel
theorem D241_1266 : decode code 1266 = .ok (.invokevirtual 150, 3) := by decide +kernel
theorem D241_1269 : decode code 1269 = .ok (.if_icmp .eq 204, 3) := by decide +kernel
theorem D241_1272 : decode code 1272 = .ok (.iconst 0, 1) := by decide +kernel
theorem D241_1273 : decode code 1273 = .ok (.ireturn, 1) := by decide +kernel
theorem D241_1274 : decode code 1274 = .ok (.aload_n 1, 1) := by decide +kernel
theorem D241_1275 : decode code 1275 = .ok (.aload_n 0, 1) := by decide +kernel
theorem D241_1276 : decode code 1276 = .ok (.iload 4, 2) := by decide +kernel
theorem D241_1278 : decode code 1278 = .ok (.iconst 1, 1) := by decide +kernel
theorem D241_1279 : decode code 1279 = .ok (.iadd, 1) := by decide +kernel
theorem D241_1280 : decode code 1280 = .ok (.iaload, 1) := by decide +kernel
theorem D241_1281 : decode code 1281 = .ok (.aload_n 0, 1) := by decide +kernel
theorem D241_1282 : decode code 1282 = .ok (.iload 4, 2) := by decide +kernel
theorem D241_1284 : decode code 1284 = .ok (.iconst 2, 1) := by decide +kernel
theorem D241_1285 : decode code 1285 = .ok (.iadd, 1) := by decide +kernel
theorem D241_1286 : decode code 1286 = .ok (.iaload, 1) := by decide +kernel
theorem D241_1287 : decode code 1287 = .ok (.invokevirtual 151, 3) := by decide +kernel
theorem D241_1290 : decode code 1290 = .ok (.aload_n 2, 1) := by decide +kernel
theorem D241_1291 : decode code 1291 = .ok (.aload_n 0, 1) := by decide +kernel
theorem D241_1292 : decode code 1292 = .ok (.iload 4, 2) := by decide +kernel
theorem D241_1294 : decode code 1294 = .ok (.iconst 1, 1) := by decide +kernel
theorem D241_1295 : decode code 1295 = .ok (.iadd, 1) := by decide +kernel
theorem D241_1296 : decode code 1296 = .ok (.iaload, 1) := by decide +kernel
theorem D241_1297 : decode code 1297 = .ok (.aload_n 0, 1) := by decide +kernel
theorem D241_1298 : decode code 1298 = .ok (.iload 4, 2) := by decide +kernel
theorem D241_1300 : decode code 1300 = .ok (.iconst 2, 1) := by decide +kernel
theorem D241_1301 : decode code 1301 = .ok (.iadd, 1) := by decide +kernel
theorem D241_1302 : decode code 1302 = .ok (.iaload, 1) := by decide +kernel
theorem D241_1303 : decode code 1303 = .ok (.invokevirtual 154, 3) := by decide +kernel
theorem D241_1306 : decode code 1306 = .ok (.if_icmp .eq 167, 3) := by decide +kernel
theorem D241_1309 : decode code 1309 = .ok (.iconst 0, 1) := by decide +kernel
theorem D241_1310 : decode code 1310 = .ok (.ireturn, 1) := by decide +kernel
theorem D241_1311 : decode code 1311 = .ok (.aload_n 1, 1) := by decide +kernel
theorem D241_1312 : decode code 1312 = .ok (.aload_n 0, 1) := by decide +kernel
theorem D241_1313 : decode code 1313 = .ok (.iload 4, 2) := by decide +kernel
theorem D241_1315 : decode code 1315 = .ok (.iconst 1, 1) := by decide +kernel
theorem D241_1316 : decode code 1316 = .ok (.iadd, 1) := by decide +kernel
theorem D241_1317 : decode code 1317 = .ok (.iaload, 1) := by decide +kernel
theorem D241_1318 : decode code 1318 = .ok (.aload_n 0, 1) := by decide +kernel
theorem D241_1319 : decode code 1319 = .ok (.iload 4, 2) := by decide +kernel
theorem D241_1321 : decode code 1321 = .ok (.iconst 2, 1) := by decide +kernel
theorem D241_1322 : decode code 1322 = .ok (.iadd, 1) := by decide +kernel
theorem D241_1323 : decode code 1323 = .ok (.iaload, 1) := by decide +kernel
theorem D241_1324 : decode code 1324 = .ok (.aload_n 0, 1) := by decide +kernel
theorem D241_1325 : decode code 1325 = .ok (.iload 4, 2) := by decide +kernel
theorem D241_1327 : decode code 1327 = .ok (.iconst 3, 1) := by decide +kernel
theorem D241_1328 : decode code 1328 = .ok (.iadd, 1) := by decide +kernel
theorem D241_1329 : decode code 1329 = .ok (.iaload, 1) := by decide +kernel
theorem D241_1330 : decode code 1330 = .ok (.invokevirtual 155, 3) := by decide +kernel
theorem D241_1333 : decode code 1333 = .ok (.aload_n 2, 1) := by decide +kernel
theorem D241_1334 : decode code 1334 = .ok (.aload_n 0, 1) := by decide +kernel
theorem D241_1335 : decode code 1335 = .ok (.iload 4, 2) := by decide +kernel
theorem D241_1337 : decode code 1337 = .ok (.iconst 1, 1) := by decide +kernel
theorem D241_1338 : decode code 1338 = .ok (.iadd, 1) := by decide +kernel
theorem D241_1339 : decode code 1339 = .ok (.iaload, 1) := by decide +kernel
theorem D241_1340 : decode code 1340 = .ok (.aload_n 0, 1) := by decide +kernel
theorem D241_1341 : decode code 1341 = .ok (.iload 4, 2) := by decide +kernel
theorem D241_1343 : decode code 1343 = .ok (.iconst 2, 1) := by decide +kernel
theorem D241_1344 : decode code 1344 = .ok (.iadd, 1) := by decide +kernel
theorem D241_1345 : decode code 1345 = .ok (.iaload, 1) := by decide +kernel
theorem D241_1346 : decode code 1346 = .ok (.aload_n 0, 1) := by decide +kernel
theorem D241_1347 : decode code 1347 = .ok (.iload 4, 2) := by decide +kernel
theorem D241_1349 : decode code 1349 = .ok (.iconst 3, 1) := by decide +kernel
theorem D241_1350 : decode code 1350 = .ok (.iadd, 1) := by decide +kernel
theorem D241_1351 : decode code 1351 = .ok (.iaload, 1) := by decide +kernel
theorem D241_1352 : decode code 1352 = .ok (.invokevirtual 158, 3) := by decide +kernel
theorem D241_1355 : decode code 1355 = .ok (.if_icmp .eq 118, 3) := by decide +kernel
theorem D241_1358 : decode code 1358 = .ok (.iconst 0, 1) := by decide +kernel
theorem D241_1359 : decode code 1359 = .ok (.ireturn, 1) := by decide +kernel
theorem D241_1360 : decode code 1360 = .ok (.aload_n 1, 1) := by decide +kernel
theorem D241_1361 : decode code 1361 = .ok (.aload_n 0, 1) := by decide +kernel
theorem D241_1362 : decode code 1362 = .ok (.iload 4, 2) := by decide +kernel
theorem D241_1364 : decode code 1364 = .ok (.iconst 1, 1) := by decide +kernel
theorem D241_1365 : decode code 1365 = .ok (.iadd, 1) := by decide +kernel
theorem D241_1366 : decode code 1366 = .ok (.iaload, 1) := by decide +kernel
theorem D241_1367 : decode code 1367 = .ok (.aload_n 0, 1) := by decide +kernel
theorem D241_1368 : decode code 1368 = .ok (.iload 4, 2) := by decide +kernel
theorem D241_1370 : decode code 1370 = .ok (.iconst 2, 1) := by decide +kernel
theorem D241_1371 : decode code 1371 = .ok (.iadd, 1) := by decide +kernel
theorem D241_1372 : decode code 1372 = .ok (.iaload, 1) := by decide +kernel
theorem D241_1373 : decode code 1373 = .ok (.aload_n 0, 1) := by decide +kernel
theorem D241_1374 : decode code 1374 = .ok (.iload 4, 2) := by decide +kernel
theorem D241_1376 : decode code 1376 = .ok (.iconst 3, 1) := by decide +kernel
theorem D241_1377 : decode code 1377 = .ok (.iadd, 1) := by decide +kernel
theorem D241_1378 : decode code 1378 = .ok (.iaload, 1) := by decide +kernel
theorem D241_1379 : decode code 1379 = .ok (.invokevirtual 159, 3) := by decide +kernel
theorem D241_1382 : decode code 1382 = .ok (.aload_n 2, 1) := by decide +kernel
theorem D241_1383 : decode code 1383 = .ok (.aload_n 0, 1) := by decide +kernel
theorem D241_1384 : decode code 1384 = .ok (.iload 4, 2) := by decide +kernel
theorem D241_1386 : decode code 1386 = .ok (.iconst 1, 1) := by decide +kernel
theorem D241_1387 : decode code 1387 = .ok (.iadd, 1) := by decide +kernel
theorem D241_1388 : decode code 1388 = .ok (.iaload, 1) := by decide +kernel
theorem D241_1389 : decode code 1389 = .ok (.aload_n 0, 1) := by decide +kernel
theorem D241_1390 : decode code 1390 = .ok (.iload 4, 2) := by decide +kernel
theorem D241_1392 : decode code 1392 = .ok (.iconst 2, 1) := by decide +kernel
theorem D241_1393 : decode code 1393 = .ok (.iadd, 1) := by decide +kernel
theorem D241_1394 : decode code 1394 = .ok (.iaload, 1) := by decide +kernel
theorem D241_1395 : decode code 1395 = .ok (.aload_n 0, 1) := by decide +kernel
theorem D241_1396 : decode code 1396 = .ok (.iload 4, 2) := by decide +kernel
theorem D241_1398 : decode code 1398 = .ok (.iconst 3, 1) := by decide +kernel
theorem D241_1399 : decode code 1399 = .ok (.iadd, 1) := by decide +kernel
theorem D241_1400 : decode code 1400 = .ok (.iaload, 1) := by decide +kernel
theorem D241_1401 : decode code 1401 = .ok (.invokevirtual 162, 3) := by decide +kernel
theorem D241_1404 : decode code 1404 = .ok (.if_icmp .eq 69, 3) := by decide +kernel
theorem D241_1407 : decode code 1407 = .ok (.iconst 0, 1) := by decide +kernel
theorem D241_1408 : decode code 1408 = .ok (.ireturn, 1) := by decide +kernel
theorem D241_1409 : decode code 1409 = .ok (.aload_n 1, 1) := by decide +kernel
theorem D241_1410 : decode code 1410 = .ok (.invokevirtual 163, 3) := by decide +kernel
theorem D241_1413 : decode code 1413 = .ok (.aload_n 2, 1) := by decide +kernel
theorem D241_1414 : decode code 1414 = .ok (.invokevirtual 166, 3) := by decide +kernel
theorem D241_1417 : decode code 1417 = .ok (.if_icmp .eq 56, 3) := by decide +kernel
theorem D241_1420 : decode code 1420 = .ok (.iconst 0, 1) := by decide +kernel
theorem D241_1421 : decode code 1421 = .ok (.ireturn, 1) := by decide +kernel
theorem D241_1422 : decode code 1422 = .ok (.aload_n 1, 1) := by decide +kernel
theorem D241_1423 : decode code 1423 = .ok (.invokevirtual 167, 3) := by decide +kernel
theorem D241_1426 : decode code 1426 = .ok (.aload_n 2, 1) := by decide +kernel
theorem D241_1427 : decode code 1427 = .ok (.invokevirtual 170, 3) := by decide +kernel
theorem D241_1430 : decode code 1430 = .ok (.if_icmp .eq 43, 3) := by decide +kernel
theorem D241_1433 : decode code 1433 = .ok (.iconst 0, 1) := by decide +kernel
theorem D241_1434 : decode code 1434 = .ok (.ireturn, 1) := by decide +kernel
theorem D241_1435 : decode code 1435 = .ok (.aload_n 1, 1) := by decide +kernel
theorem D241_1436 : decode code 1436 = .ok (.invokevirtual 171, 3) := by decide +kernel
theorem D241_1439 : decode code 1439 = .ok (.aload_n 2, 1) := by decide +kernel
theorem D241_1440 : decode code 1440 = .ok (.invokevirtual 174, 3) := by decide +kernel
theorem D241_1443 : decode code 1443 = .ok (.if_icmp .eq 30, 3) := by decide +kernel
theorem D241_1446 : decode code 1446 = .ok (.iconst 0, 1) := by decide +kernel
theorem D241_1447 : decode code 1447 = .ok (.ireturn, 1) := by decide +kernel
theorem D241_1448 : decode code 1448 = .ok (.aload_n 1, 1) := by decide +kernel
theorem D241_1449 : decode code 1449 = .ok (.aload_n 0, 1) := by decide +kernel
theorem D241_1450 : decode code 1450 = .ok (.iload 4, 2) := by decide +kernel
theorem D241_1452 : decode code 1452 = .ok (.iconst 1, 1) := by decide +kernel
theorem D241_1453 : decode code 1453 = .ok (.iadd, 1) := by decide +kernel
theorem D241_1454 : decode code 1454 = .ok (.iaload, 1) := by decide +kernel
theorem D241_1455 : decode code 1455 = .ok (.invokevirtual 175, 3) := by decide +kernel
theorem D241_1458 : decode code 1458 = .ok (.aload_n 2, 1) := by decide +kernel
theorem D241_1459 : decode code 1459 = .ok (.aload_n 0, 1) := by decide +kernel
theorem D241_1460 : decode code 1460 = .ok (.iload 4, 2) := by decide +kernel
theorem D241_1462 : decode code 1462 = .ok (.iconst 1, 1) := by decide +kernel
theorem D241_1463 : decode code 1463 = .ok (.iadd, 1) := by decide +kernel
theorem D241_1464 : decode code 1464 = .ok (.iaload, 1) := by decide +kernel
theorem D241_1465 : decode code 1465 = .ok (.invokevirtual 178, 3) := by decide +kernel
theorem D241_1468 : decode code 1468 = .ok (.if_icmp .eq 5, 3) := by decide +kernel
theorem D241_1471 : decode code 1471 = .ok (.iconst 0, 1) := by decide +kernel
theorem D241_1472 : decode code 1472 = .ok (.ireturn, 1) := by decide +kernel
theorem D241_1479 : decode code 1479 = .ok (.iconst 1, 1) := by decide +kernel
theorem D241_1480 : decode code 1480 = .ok (.ireturn, 1) := by decide +kernel

set_option maxRecDepth 20000 in
theorem b241_23 {d : Nat} {i4 : Int32} {ia : Nat → Nat → Int32} {la : Nat → Nat → Int64} {pl dr : Nat} {cp : Option Nat} {cw : Option Nat} {rp : Option Nat} {K : Option Value → zHP → Prop}  : zWP (d + 1) 241 23 [some (.ref 900), some (.ref 0), some (.ref 127), some (.ref 169), some (.int i4), none, none] [] (ia, la, zRA pl dr cp cw rp) K = (if ((ia 901 0) - (6 : Int32)) < i4 then K (some (.int (1 : Int32))) (ia, la, zRA pl dr cp cw rp) else (vp_in i4 (ia 901 0).toNatClampNeg ∧ (if ((ia 900 (i4).toNatClampNeg) &&& (63 : Int32)) = 0 then (vp_in (i4 + (1 : Int32)) (ia 901 0).toNatClampNeg ∧ (vp_in (i4 + (2 : Int32)) (ia 901 0).toNatClampNeg ∧ (vp_in (i4 + (3 : Int32)) (ia 901 0).toNatClampNeg ∧ (vp_in (i4 + (4 : Int32)) (ia 901 0).toNatClampNeg ∧ (vp_in (i4 + (5 : Int32)) (ia 901 0).toNatClampNeg ∧ zWM d 76 [.ref 0, .int (ia 900 ((i4 + (1 : Int32))).toNatClampNeg), .int (ia 900 ((i4 + (2 : Int32))).toNatClampNeg), .int (ia 900 ((i4 + (3 : Int32))).toNatClampNeg), .int (ia 900 ((i4 + (4 : Int32))).toNatClampNeg), .int (ia 900 ((i4 + (5 : Int32))).toNatClampNeg)] (ia, la, zRA pl dr cp cw rp) (zK (d + 1) 241 234 [some (.ref 900), some (.ref 0), some (.ref 127), some (.ref 169), some (.int i4), none, none] [] K)))))) else (if ((ia 900 (i4).toNatClampNeg) &&& (63 : Int32)) = 1 then (vp_in (i4 + (1 : Int32)) (ia 901 0).toNatClampNeg ∧ zWM d 77 [.ref 0, .int (ia 900 ((i4 + (1 : Int32))).toNatClampNeg)] (ia, la, zRA pl dr cp cw rp) (zK (d + 1) 241 283 [some (.ref 900), some (.ref 0), some (.ref 127), some (.ref 169), some (.int i4), none, none] [] K)) else (if ((ia 900 (i4).toNatClampNeg) &&& (63 : Int32)) = 2 then (vp_in (i4 + (1 : Int32)) (ia 901 0).toNatClampNeg ∧ zWM d 78 [.ref 0, .int (ia 900 ((i4 + (1 : Int32))).toNatClampNeg)] (ia, la, zRA pl dr cp cw rp) (zK (d + 1) 241 308 [some (.ref 900), some (.ref 0), some (.ref 127), some (.ref 169), some (.int i4), none, none] [] K)) else (if ((ia 900 (i4).toNatClampNeg) &&& (63 : Int32)) = 3 then (vp_in (i4 + (1 : Int32)) (ia 901 0).toNatClampNeg ∧ zWM d 79 [.ref 0, .int (ia 900 ((i4 + (1 : Int32))).toNatClampNeg)] (ia, la, zRA pl dr cp cw rp) (zK (d + 1) 241 333 [some (.ref 900), some (.ref 0), some (.ref 127), some (.ref 169), some (.int i4), none, none] [] K)) else (if ((ia 900 (i4).toNatClampNeg) &&& (63 : Int32)) = 4 then zWP (d + 1) 241 348 [some (.ref 900), some (.ref 0), some (.ref 127), some (.ref 169), some (.int i4), none, none] [] (ia, la, zRA pl dr cp cw rp) K else (if ((ia 900 (i4).toNatClampNeg) &&& (63 : Int32)) = 5 then (vp_in (i4 + (1 : Int32)) (ia 901 0).toNatClampNeg ∧ (vp_in (i4 + (2 : Int32)) (ia 901 0).toNatClampNeg ∧ zWM d 82 [.ref 0, .int (ia 900 ((i4 + (1 : Int32))).toNatClampNeg), .int (ia 900 ((i4 + (2 : Int32))).toNatClampNeg)] (ia, la, zRA pl dr cp cw rp) (zK (d + 1) 241 432 [some (.ref 900), some (.ref 0), some (.ref 127), some (.ref 169), some (.int i4), none, none] [] K))) else (if ((ia 900 (i4).toNatClampNeg) &&& (63 : Int32)) = 6 then (vp_in (i4 + (1 : Int32)) (ia 901 0).toNatClampNeg ∧ (vp_in (i4 + (2 : Int32)) (ia 901 0).toNatClampNeg ∧ zWM d 85 [.ref 0, .int (ia 900 ((i4 + (1 : Int32))).toNatClampNeg), .int (ia 900 ((i4 + (2 : Int32))).toNatClampNeg)] (ia, la, zRA pl dr cp cw rp) (zK (d + 1) 241 469 [some (.ref 900), some (.ref 0), some (.ref 127), some (.ref 169), some (.int i4), none, none] [] K))) else (if ((ia 900 (i4).toNatClampNeg) &&& (63 : Int32)) = 7 then (vp_in (i4 + (1 : Int32)) (ia 901 0).toNatClampNeg ∧ (vp_in (i4 + (2 : Int32)) (ia 901 0).toNatClampNeg ∧ (vp_in (i4 + (3 : Int32)) (ia 901 0).toNatClampNeg ∧ (vp_in (i4 + (4 : Int32)) (ia 901 0).toNatClampNeg ∧ zWM d 86 [.ref 0, .int (ia 900 ((i4 + (1 : Int32))).toNatClampNeg), .int (ia 900 ((i4 + (2 : Int32))).toNatClampNeg), .int (ia 900 ((i4 + (3 : Int32))).toNatClampNeg), .int (ia 900 ((i4 + (4 : Int32))).toNatClampNeg)] (ia, la, zRA pl dr cp cw rp) (zK (d + 1) 241 518 [some (.ref 900), some (.ref 0), some (.ref 127), some (.ref 169), some (.int i4), none, none] [] K))))) else (if ((ia 900 (i4).toNatClampNeg) &&& (63 : Int32)) = 8 then (vp_in (i4 + (1 : Int32)) (ia 901 0).toNatClampNeg ∧ (vp_in (i4 + (2 : Int32)) (ia 901 0).toNatClampNeg ∧ (vp_in (i4 + (3 : Int32)) (ia 901 0).toNatClampNeg ∧ (vp_in (i4 + (4 : Int32)) (ia 901 0).toNatClampNeg ∧ zWM d 88 [.ref 0, .int (ia 900 ((i4 + (1 : Int32))).toNatClampNeg), .int (ia 900 ((i4 + (2 : Int32))).toNatClampNeg), .int (ia 900 ((i4 + (3 : Int32))).toNatClampNeg), .int (ia 900 ((i4 + (4 : Int32))).toNatClampNeg)] (ia, la, zRA pl dr cp cw rp) (zK (d + 1) 241 580 [some (.ref 900), some (.ref 0), some (.ref 127), some (.ref 169), some (.int i4), none, none] [] K))))) else (if ((ia 900 (i4).toNatClampNeg) &&& (63 : Int32)) = 9 then (vp_in (i4 + (1 : Int32)) (ia 901 0).toNatClampNeg ∧ zWM d 89 [.ref 0, .int (ia 900 ((i4 + (1 : Int32))).toNatClampNeg)] (ia, la, zRA pl dr cp cw rp) (zK (d + 1) 241 623 [some (.ref 900), some (.ref 0), some (.ref 127), some (.ref 169), some (.int i4), none, none] [] K)) else (if ((ia 900 (i4).toNatClampNeg) &&& (63 : Int32)) = 10 then (vp_in (i4 + (1 : Int32)) (ia 901 0).toNatClampNeg ∧ zWM d 90 [.ref 0, .int (ia 900 ((i4 + (1 : Int32))).toNatClampNeg)] (ia, la, zRA pl dr cp cw rp) (zK (d + 1) 241 648 [some (.ref 900), some (.ref 0), some (.ref 127), some (.ref 169), some (.int i4), none, none] [] K)) else (if ((ia 900 (i4).toNatClampNeg) &&& (63 : Int32)) = 11 then (vp_in (i4 + (1 : Int32)) (ia 901 0).toNatClampNeg ∧ zWM d 91 [.ref 0, .int (ia 900 ((i4 + (1 : Int32))).toNatClampNeg)] (ia, la, zRA pl dr cp cw rp) (zK (d + 1) 241 673 [some (.ref 900), some (.ref 0), some (.ref 127), some (.ref 169), some (.int i4), none, none] [] K)) else (if ((ia 900 (i4).toNatClampNeg) &&& (63 : Int32)) = 12 then (vp_in (i4 + (1 : Int32)) (ia 901 0).toNatClampNeg ∧ (vp_in (i4 + (2 : Int32)) (ia 901 0).toNatClampNeg ∧ (vp_in (i4 + (3 : Int32)) (ia 901 0).toNatClampNeg ∧ zWM d 93 [.ref 0, .int (ia 900 ((i4 + (1 : Int32))).toNatClampNeg), .int (ia 900 ((i4 + (2 : Int32))).toNatClampNeg), .int (ia 900 ((i4 + (3 : Int32))).toNatClampNeg)] (ia, la, zRA pl dr cp cw rp) (zK (d + 1) 241 710 [some (.ref 900), some (.ref 0), some (.ref 127), some (.ref 169), some (.int i4), none, none] [] K)))) else (if ((ia 900 (i4).toNatClampNeg) &&& (63 : Int32)) = 13 then (vp_in (i4 + (1 : Int32)) (ia 901 0).toNatClampNeg ∧ zWM d 94 [.ref 0, .int (ia 900 ((i4 + (1 : Int32))).toNatClampNeg)] (ia, la, zRA pl dr cp cw rp) (zK (d + 1) 241 747 [some (.ref 900), some (.ref 0), some (.ref 127), some (.ref 169), some (.int i4), none, none] [] K)) else (if ((ia 900 (i4).toNatClampNeg) &&& (63 : Int32)) = 14 then (vp_in (i4 + (1 : Int32)) (ia 901 0).toNatClampNeg ∧ (vp_in (i4 + (2 : Int32)) (ia 901 0).toNatClampNeg ∧ zWM d 96 [.ref 0, .int (ia 900 ((i4 + (1 : Int32))).toNatClampNeg), .int (ia 900 ((i4 + (2 : Int32))).toNatClampNeg)] (ia, la, zRA pl dr cp cw rp) (zK (d + 1) 241 778 [some (.ref 900), some (.ref 0), some (.ref 127), some (.ref 169), some (.int i4), none, none] [] K))) else (if ((ia 900 (i4).toNatClampNeg) &&& (63 : Int32)) = 15 then (vp_in (i4 + (1 : Int32)) (ia 901 0).toNatClampNeg ∧ zWM d 97 [.ref 0, .int (ia 900 ((i4 + (1 : Int32))).toNatClampNeg)] (ia, la, zRA pl dr cp cw rp) (zK (d + 1) 241 809 [some (.ref 900), some (.ref 0), some (.ref 127), some (.ref 169), some (.int i4), none, none] [] K)) else (if ((ia 900 (i4).toNatClampNeg) &&& (63 : Int32)) = 16 then (vp_in (i4 + (1 : Int32)) (ia 901 0).toNatClampNeg ∧ (vp_in (i4 + (2 : Int32)) (ia 901 0).toNatClampNeg ∧ zWM d 98 [.ref 0, .int (ia 900 ((i4 + (1 : Int32))).toNatClampNeg), .int (ia 900 ((i4 + (2 : Int32))).toNatClampNeg)] (ia, la, zRA pl dr cp cw rp) (zK (d + 1) 241 840 [some (.ref 900), some (.ref 0), some (.ref 127), some (.ref 169), some (.int i4), none, none] [] K))) else (if ((ia 900 (i4).toNatClampNeg) &&& (63 : Int32)) = 17 then (vp_in (i4 + (1 : Int32)) (ia 901 0).toNatClampNeg ∧ zWM d 99 [.ref 0, .int (ia 900 ((i4 + (1 : Int32))).toNatClampNeg)] (ia, la, zRA pl dr cp cw rp) (zK (d + 1) 241 871 [some (.ref 900), some (.ref 0), some (.ref 127), some (.ref 169), some (.int i4), none, none] [] K)) else (if ((ia 900 (i4).toNatClampNeg) &&& (63 : Int32)) = 18 then (vp_in (i4 + (1 : Int32)) (ia 901 0).toNatClampNeg ∧ (vp_in (i4 + (2 : Int32)) (ia 901 0).toNatClampNeg ∧ zWM d 100 [.ref 0, .int (ia 900 ((i4 + (1 : Int32))).toNatClampNeg), .int (ia 900 ((i4 + (2 : Int32))).toNatClampNeg)] (ia, la, zRA pl dr cp cw rp) (zK (d + 1) 241 902 [some (.ref 900), some (.ref 0), some (.ref 127), some (.ref 169), some (.int i4), none, none] [] K))) else (if ((ia 900 (i4).toNatClampNeg) &&& (63 : Int32)) = 19 then zWM d 103 [.ref 0] (ia, la, zRA pl dr cp cw rp) (zK (d + 1) 241 927 [some (.ref 900), some (.ref 0), some (.ref 127), some (.ref 169), some (.int i4), none, none] [] K) else (if ((ia 900 (i4).toNatClampNeg) &&& (63 : Int32)) = 20 then (vp_in (i4 + (1 : Int32)) (ia 901 0).toNatClampNeg ∧ (vp_in (i4 + (2 : Int32)) (ia 901 0).toNatClampNeg ∧ zWM d 106 [.ref 0, .int (ia 900 ((i4 + (1 : Int32))).toNatClampNeg), .int (ia 900 ((i4 + (2 : Int32))).toNatClampNeg)] (ia, la, zRA pl dr cp cw rp) (zK (d + 1) 241 952 [some (.ref 900), some (.ref 0), some (.ref 127), some (.ref 169), some (.int i4), none, none] [] K))) else (if ((ia 900 (i4).toNatClampNeg) &&& (63 : Int32)) = 21 then (vp_in (i4 + (1 : Int32)) (ia 901 0).toNatClampNeg ∧ zWM d 107 [.ref 0, .int (ia 900 ((i4 + (1 : Int32))).toNatClampNeg)] (ia, la, zRA pl dr cp cw rp) (zK (d + 1) 241 983 [some (.ref 900), some (.ref 0), some (.ref 127), some (.ref 169), some (.int i4), none, none] [] K)) else (if ((ia 900 (i4).toNatClampNeg) &&& (63 : Int32)) = 22 then (vp_in (i4 + (1 : Int32)) (ia 901 0).toNatClampNeg ∧ (vp_in (i4 + (2 : Int32)) (ia 901 0).toNatClampNeg ∧ zWM d 111 [.ref 0, .int (ia 900 ((i4 + (1 : Int32))).toNatClampNeg), .int (ia 900 ((i4 + (2 : Int32))).toNatClampNeg)] (ia, la, zRA pl dr cp cw rp) (zK (d + 1) 241 1014 [some (.ref 900), some (.ref 0), some (.ref 127), some (.ref 169), some (.int i4), none, none] [] K))) else (if ((ia 900 (i4).toNatClampNeg) &&& (63 : Int32)) = 23 then (vp_in (i4 + (1 : Int32)) (ia 901 0).toNatClampNeg ∧ (vp_in (i4 + (2 : Int32)) (ia 901 0).toNatClampNeg ∧ (vp_in (i4 + (3 : Int32)) (ia 901 0).toNatClampNeg ∧ zWM d 112 [.ref 0, .int (ia 900 ((i4 + (1 : Int32))).toNatClampNeg), .int (ia 900 ((i4 + (2 : Int32))).toNatClampNeg), .int (ia 900 ((i4 + (3 : Int32))).toNatClampNeg)] (ia, la, zRA pl dr cp cw rp) (zK (d + 1) 241 1057 [some (.ref 900), some (.ref 0), some (.ref 127), some (.ref 169), some (.int i4), none, none] [] K)))) else (if ((ia 900 (i4).toNatClampNeg) &&& (63 : Int32)) = 24 then (vp_in (i4 + (1 : Int32)) (ia 901 0).toNatClampNeg ∧ (vp_in (i4 + (2 : Int32)) (ia 901 0).toNatClampNeg ∧ zWM d 113 [.ref 0, .int (ia 900 ((i4 + (1 : Int32))).toNatClampNeg), .int (ia 900 ((i4 + (2 : Int32))).toNatClampNeg)] (ia, la, zRA pl dr cp cw rp) (zK (d + 1) 241 1100 [some (.ref 900), some (.ref 0), some (.ref 127), some (.ref 169), some (.int i4), none, none] [] K))) else (if ((ia 900 (i4).toNatClampNeg) &&& (63 : Int32)) = 25 then (vp_in (i4 + (1 : Int32)) (ia 901 0).toNatClampNeg ∧ (vp_in (i4 + (2 : Int32)) (ia 901 0).toNatClampNeg ∧ (vp_in (i4 + (3 : Int32)) (ia 901 0).toNatClampNeg ∧ (vp_in (i4 + (4 : Int32)) (ia 901 0).toNatClampNeg ∧ (vp_in (i4 + (5 : Int32)) (ia 901 0).toNatClampNeg ∧ (if (ia 900 ((i4 + (5 : Int32))).toNatClampNeg) = 0 then zWM d 117 [.ref 0, .int (ia 900 ((i4 + (1 : Int32))).toNatClampNeg), .int (ia 900 ((i4 + (2 : Int32))).toNatClampNeg), .int (ia 900 ((i4 + (3 : Int32))).toNatClampNeg), .int (ia 900 ((i4 + (4 : Int32))).toNatClampNeg), .int (0 : Int32)] (ia, la, zRA pl dr cp cw rp) (zK (d + 1) 241 1164 [some (.ref 900), some (.ref 0), some (.ref 127), some (.ref 169), some (.int i4), none, none] [] K) else zWM d 117 [.ref 0, .int (ia 900 ((i4 + (1 : Int32))).toNatClampNeg), .int (ia 900 ((i4 + (2 : Int32))).toNatClampNeg), .int (ia 900 ((i4 + (3 : Int32))).toNatClampNeg), .int (ia 900 ((i4 + (4 : Int32))).toNatClampNeg), .int (1 : Int32)] (ia, la, zRA pl dr cp cw rp) (zK (d + 1) 241 1164 [some (.ref 900), some (.ref 0), some (.ref 127), some (.ref 169), some (.int i4), none, none] [] K))))))) else (if ((ia 900 (i4).toNatClampNeg) &&& (63 : Int32)) = 26 then (vp_in (i4 + (1 : Int32)) (ia 901 0).toNatClampNeg ∧ zWM d 118 [.ref 0, .int (ia 900 ((i4 + (1 : Int32))).toNatClampNeg)] (ia, la, zRA pl dr cp cw rp) (zK (d + 1) 241 1221 [some (.ref 900), some (.ref 0), some (.ref 127), some (.ref 169), some (.int i4), none, none] [] K)) else (if ((ia 900 (i4).toNatClampNeg) &&& (63 : Int32)) = 27 then (vp_in (i4 + (1 : Int32)) (ia 901 0).toNatClampNeg ∧ zWM d 119 [.ref 0, .int (ia 900 ((i4 + (1 : Int32))).toNatClampNeg)] (ia, la, zRA pl dr cp cw rp) (zK (d + 1) 241 1246 [some (.ref 900), some (.ref 0), some (.ref 127), some (.ref 169), some (.int i4), none, none] [] K)) else (if ((ia 900 (i4).toNatClampNeg) &&& (63 : Int32)) = 28 then zWM d 120 [.ref 0] (ia, la, zRA pl dr cp cw rp) (zK (d + 1) 241 1265 [some (.ref 900), some (.ref 0), some (.ref 127), some (.ref 169), some (.int i4), none, none] [] K) else (if ((ia 900 (i4).toNatClampNeg) &&& (63 : Int32)) = 29 then (vp_in (i4 + (1 : Int32)) (ia 901 0).toNatClampNeg ∧ (vp_in (i4 + (2 : Int32)) (ia 901 0).toNatClampNeg ∧ zWM d 122 [.ref 0, .int (ia 900 ((i4 + (1 : Int32))).toNatClampNeg), .int (ia 900 ((i4 + (2 : Int32))).toNatClampNeg)] (ia, la, zRA pl dr cp cw rp) (zK (d + 1) 241 1290 [some (.ref 900), some (.ref 0), some (.ref 127), some (.ref 169), some (.int i4), none, none] [] K))) else (if ((ia 900 (i4).toNatClampNeg) &&& (63 : Int32)) = 30 then (vp_in (i4 + (1 : Int32)) (ia 901 0).toNatClampNeg ∧ (vp_in (i4 + (2 : Int32)) (ia 901 0).toNatClampNeg ∧ (vp_in (i4 + (3 : Int32)) (ia 901 0).toNatClampNeg ∧ zWM d 115 [.ref 0, .int (ia 900 ((i4 + (1 : Int32))).toNatClampNeg), .int (ia 900 ((i4 + (2 : Int32))).toNatClampNeg), .int (ia 900 ((i4 + (3 : Int32))).toNatClampNeg)] (ia, la, zRA pl dr cp cw rp) (zK (d + 1) 241 1333 [some (.ref 900), some (.ref 0), some (.ref 127), some (.ref 169), some (.int i4), none, none] [] K)))) else (if ((ia 900 (i4).toNatClampNeg) &&& (63 : Int32)) = 31 then (vp_in (i4 + (1 : Int32)) (ia 901 0).toNatClampNeg ∧ (vp_in (i4 + (2 : Int32)) (ia 901 0).toNatClampNeg ∧ (vp_in (i4 + (3 : Int32)) (ia 901 0).toNatClampNeg ∧ zWM d 116 [.ref 0, .int (ia 900 ((i4 + (1 : Int32))).toNatClampNeg), .int (ia 900 ((i4 + (2 : Int32))).toNatClampNeg), .int (ia 900 ((i4 + (3 : Int32))).toNatClampNeg)] (ia, la, zRA pl dr cp cw rp) (zK (d + 1) 241 1382 [some (.ref 900), some (.ref 0), some (.ref 127), some (.ref 169), some (.int i4), none, none] [] K)))) else (if ((ia 900 (i4).toNatClampNeg) &&& (63 : Int32)) = 32 then zWM d 124 [.ref 0] (ia, la, zRA pl dr cp cw rp) (zK (d + 1) 241 1413 [some (.ref 900), some (.ref 0), some (.ref 127), some (.ref 169), some (.int i4), none, none] [] K) else (if ((ia 900 (i4).toNatClampNeg) &&& (63 : Int32)) = 33 then zWM d 125 [.ref 0] (ia, la, zRA pl dr cp cw rp) (zK (d + 1) 241 1426 [some (.ref 900), some (.ref 0), some (.ref 127), some (.ref 169), some (.int i4), none, none] [] K) else (if ((ia 900 (i4).toNatClampNeg) &&& (63 : Int32)) = 34 then zWM d 126 [.ref 0] (ia, la, zRA pl dr cp cw rp) (zK (d + 1) 241 1439 [some (.ref 900), some (.ref 0), some (.ref 127), some (.ref 169), some (.int i4), none, none] [] K) else (if ((ia 900 (i4).toNatClampNeg) &&& (63 : Int32)) = 35 then (vp_in (i4 + (1 : Int32)) (ia 901 0).toNatClampNeg ∧ zWM d 127 [.ref 0, .int (ia 900 ((i4 + (1 : Int32))).toNatClampNeg)] (ia, la, zRA pl dr cp cw rp) (zK (d + 1) 241 1458 [some (.ref 900), some (.ref 0), some (.ref 127), some (.ref 169), some (.int i4), none, none] [] K)) else zWP (d + 1) 241 1473 [some (.ref 900), some (.ref 0), some (.ref 127), some (.ref 169), some (.int i4), none, none] [] (ia, la, zRA pl dr cp cw rp) K)))))))))))))))))))))))))))))))))))))) := by
  refine (Q_iload zm_241 (Or.inr (by decide)) D241_23 rfl).trans ?_
  refine (Q_aload_n zm_241 (Or.inr (by decide)) D241_25 rfl).trans ?_
  refine (Q_slen zm_241 (Or.inr (by decide)) D241_26 rfl).trans ?_
  refine (Q_bipush (v := 6) zm_241 (Or.inr (by decide)) D241_27 (by decide)).trans ?_
  refine (Q_isub zm_241 (Or.inr (by decide)) D241_29).trans ?_
  refine (Q_ic_gt (tgt := 1479) zm_241 (Or.inr (by decide)) D241_30 (by decide)).trans ?_
  refine zif_c (fun h0_ => ?_) (fun h0_ => ?_)
  · refine (Q_iconst (v := 1) zm_241 (Or.inr (by decide)) D241_1479 (by decide)).trans ?_
    exact Q_zreturn zm_241 (Or.inr (by decide)) D241_1480 rfl (by decide)
  · refine (Q_aload_n zm_241 (Or.inr (by decide)) D241_33 rfl).trans ?_
    refine (Q_iload zm_241 (Or.inr (by decide)) D241_34 rfl).trans ?_
    refine (Q_sld zm_241 (Or.inr (by decide)) D241_36 rfl).trans ?_
    refine zand_c (fun h1_ => ?_)
    refine (Q_bipush (v := 63) zm_241 (Or.inr (by decide)) D241_37 (by decide)).trans ?_
    refine (Q_iand zm_241 (Or.inr (by decide)) D241_39).trans ?_
    by_cases h2_ : ((ia 900 (i4).toNatClampNeg) &&& (63 : Int32)) = 0
    · rw [if_pos h2_]
      refine (congrArg (fun q => zWP (d + 1) 241 40 [some (.ref 900), some (.ref 0), some (.ref 127), some (.ref 169), some (.int i4), none, none] (.int q :: []) (ia, la, zRA pl dr cp cw rp) K) h2_).trans ?_
      refine (Q_tsw (tgt := 200) zm_241 (Or.inr (by decide)) D241_40 rfl (by decide)).trans ?_
      refine (Q_aload_n zm_241 (Or.inr (by decide)) D241_200 rfl).trans ?_
      refine (Q_aload_n zm_241 (Or.inr (by decide)) D241_201 rfl).trans ?_
      refine (Q_iload zm_241 (Or.inr (by decide)) D241_202 rfl).trans ?_
      refine (Q_iconst (v := 1) zm_241 (Or.inr (by decide)) D241_204 (by decide)).trans ?_
      refine (Q_iadd zm_241 (Or.inr (by decide)) D241_205).trans ?_
      refine (Q_sld zm_241 (Or.inr (by decide)) D241_206 rfl).trans ?_
      refine zand_c (fun h3_ => ?_)
      refine (Q_aload_n zm_241 (Or.inr (by decide)) D241_207 rfl).trans ?_
      refine (Q_iload zm_241 (Or.inr (by decide)) D241_208 rfl).trans ?_
      refine (Q_iconst (v := 2) zm_241 (Or.inr (by decide)) D241_210 (by decide)).trans ?_
      refine (Q_iadd zm_241 (Or.inr (by decide)) D241_211).trans ?_
      refine (Q_sld zm_241 (Or.inr (by decide)) D241_212 rfl).trans ?_
      refine zand_c (fun h4_ => ?_)
      refine (Q_aload_n zm_241 (Or.inr (by decide)) D241_213 rfl).trans ?_
      refine (Q_iload zm_241 (Or.inr (by decide)) D241_214 rfl).trans ?_
      refine (Q_iconst (v := 3) zm_241 (Or.inr (by decide)) D241_216 (by decide)).trans ?_
      refine (Q_iadd zm_241 (Or.inr (by decide)) D241_217).trans ?_
      refine (Q_sld zm_241 (Or.inr (by decide)) D241_218 rfl).trans ?_
      refine zand_c (fun h5_ => ?_)
      refine (Q_aload_n zm_241 (Or.inr (by decide)) D241_219 rfl).trans ?_
      refine (Q_iload zm_241 (Or.inr (by decide)) D241_220 rfl).trans ?_
      refine (Q_iconst (v := 4) zm_241 (Or.inr (by decide)) D241_222 (by decide)).trans ?_
      refine (Q_iadd zm_241 (Or.inr (by decide)) D241_223).trans ?_
      refine (Q_sld zm_241 (Or.inr (by decide)) D241_224 rfl).trans ?_
      refine zand_c (fun h6_ => ?_)
      refine (Q_aload_n zm_241 (Or.inr (by decide)) D241_225 rfl).trans ?_
      refine (Q_iload zm_241 (Or.inr (by decide)) D241_226 rfl).trans ?_
      refine (Q_iconst (v := 5) zm_241 (Or.inr (by decide)) D241_228 (by decide)).trans ?_
      refine (Q_iadd zm_241 (Or.inr (by decide)) D241_229).trans ?_
      refine (Q_sld zm_241 (Or.inr (by decide)) D241_230 rfl).trans ?_
      refine zand_c (fun h7_ => ?_)
      exact Q_callv (as := [.int (ia 900 ((i4 + (1 : Int32))).toNatClampNeg), .int (ia 900 ((i4 + (2 : Int32))).toNatClampNeg), .int (ia 900 ((i4 + (3 : Int32))).toNatClampNeg), .int (ia 900 ((i4 + (4 : Int32))).toNatClampNeg), .int (ia 900 ((i4 + (5 : Int32))).toNatClampNeg)]) (b := 0) (rest := []) zm_241 (Or.inr (by decide)) D241_231 zc_11_21 rfl zk_0.1 (by decide) (by decide +kernel) (by decide) (by simp [zcat, Value.category]) zm_76 rfl
    rw [if_neg h2_]
    by_cases h8_ : ((ia 900 (i4).toNatClampNeg) &&& (63 : Int32)) = 1
    · rw [if_pos h8_]
      refine (congrArg (fun q => zWP (d + 1) 241 40 [some (.ref 900), some (.ref 0), some (.ref 127), some (.ref 169), some (.int i4), none, none] (.int q :: []) (ia, la, zRA pl dr cp cw rp) K) h8_).trans ?_
      refine (Q_tsw (tgt := 273) zm_241 (Or.inr (by decide)) D241_40 rfl (by decide)).trans ?_
      refine (Q_aload_n zm_241 (Or.inr (by decide)) D241_273 rfl).trans ?_
      refine (Q_aload_n zm_241 (Or.inr (by decide)) D241_274 rfl).trans ?_
      refine (Q_iload zm_241 (Or.inr (by decide)) D241_275 rfl).trans ?_
      refine (Q_iconst (v := 1) zm_241 (Or.inr (by decide)) D241_277 (by decide)).trans ?_
      refine (Q_iadd zm_241 (Or.inr (by decide)) D241_278).trans ?_
      refine (Q_sld zm_241 (Or.inr (by decide)) D241_279 rfl).trans ?_
      refine zand_c (fun h9_ => ?_)
      exact Q_callv (as := [.int (ia 900 ((i4 + (1 : Int32))).toNatClampNeg)]) (b := 0) (rest := []) zm_241 (Or.inr (by decide)) D241_280 zc_11_26 rfl zk_0.1 (by decide) (by decide +kernel) (by decide) (by simp [zcat, Value.category]) zm_77 rfl
    rw [if_neg h8_]
    by_cases h10_ : ((ia 900 (i4).toNatClampNeg) &&& (63 : Int32)) = 2
    · rw [if_pos h10_]
      refine (congrArg (fun q => zWP (d + 1) 241 40 [some (.ref 900), some (.ref 0), some (.ref 127), some (.ref 169), some (.int i4), none, none] (.int q :: []) (ia, la, zRA pl dr cp cw rp) K) h10_).trans ?_
      refine (Q_tsw (tgt := 298) zm_241 (Or.inr (by decide)) D241_40 rfl (by decide)).trans ?_
      refine (Q_aload_n zm_241 (Or.inr (by decide)) D241_298 rfl).trans ?_
      refine (Q_aload_n zm_241 (Or.inr (by decide)) D241_299 rfl).trans ?_
      refine (Q_iload zm_241 (Or.inr (by decide)) D241_300 rfl).trans ?_
      refine (Q_iconst (v := 1) zm_241 (Or.inr (by decide)) D241_302 (by decide)).trans ?_
      refine (Q_iadd zm_241 (Or.inr (by decide)) D241_303).trans ?_
      refine (Q_sld zm_241 (Or.inr (by decide)) D241_304 rfl).trans ?_
      refine zand_c (fun h11_ => ?_)
      exact Q_callv (as := [.int (ia 900 ((i4 + (1 : Int32))).toNatClampNeg)]) (b := 0) (rest := []) zm_241 (Or.inr (by decide)) D241_305 zc_11_31 rfl zk_0.1 (by decide) (by decide +kernel) (by decide) (by simp [zcat, Value.category]) zm_78 rfl
    rw [if_neg h10_]
    by_cases h12_ : ((ia 900 (i4).toNatClampNeg) &&& (63 : Int32)) = 3
    · rw [if_pos h12_]
      refine (congrArg (fun q => zWP (d + 1) 241 40 [some (.ref 900), some (.ref 0), some (.ref 127), some (.ref 169), some (.int i4), none, none] (.int q :: []) (ia, la, zRA pl dr cp cw rp) K) h12_).trans ?_
      refine (Q_tsw (tgt := 323) zm_241 (Or.inr (by decide)) D241_40 rfl (by decide)).trans ?_
      refine (Q_aload_n zm_241 (Or.inr (by decide)) D241_323 rfl).trans ?_
      refine (Q_aload_n zm_241 (Or.inr (by decide)) D241_324 rfl).trans ?_
      refine (Q_iload zm_241 (Or.inr (by decide)) D241_325 rfl).trans ?_
      refine (Q_iconst (v := 1) zm_241 (Or.inr (by decide)) D241_327 (by decide)).trans ?_
      refine (Q_iadd zm_241 (Or.inr (by decide)) D241_328).trans ?_
      refine (Q_sld zm_241 (Or.inr (by decide)) D241_329 rfl).trans ?_
      refine zand_c (fun h13_ => ?_)
      exact Q_callv (as := [.int (ia 900 ((i4 + (1 : Int32))).toNatClampNeg)]) (b := 0) (rest := []) zm_241 (Or.inr (by decide)) D241_330 zc_11_35 rfl zk_0.1 (by decide) (by decide +kernel) (by decide) (by simp [zcat, Value.category]) zm_79 rfl
    rw [if_neg h12_]
    by_cases h14_ : ((ia 900 (i4).toNatClampNeg) &&& (63 : Int32)) = 4
    · rw [if_pos h14_]
      refine (congrArg (fun q => zWP (d + 1) 241 40 [some (.ref 900), some (.ref 0), some (.ref 127), some (.ref 169), some (.int i4), none, none] (.int q :: []) (ia, la, zRA pl dr cp cw rp) K) h14_).trans ?_
      refine (Q_tsw (tgt := 348) zm_241 (Or.inr (by decide)) D241_40 rfl (by decide)).trans ?_
      rfl
    rw [if_neg h14_]
    by_cases h15_ : ((ia 900 (i4).toNatClampNeg) &&& (63 : Int32)) = 5
    · rw [if_pos h15_]
      refine (congrArg (fun q => zWP (d + 1) 241 40 [some (.ref 900), some (.ref 0), some (.ref 127), some (.ref 169), some (.int i4), none, none] (.int q :: []) (ia, la, zRA pl dr cp cw rp) K) h15_).trans ?_
      refine (Q_tsw (tgt := 416) zm_241 (Or.inr (by decide)) D241_40 rfl (by decide)).trans ?_
      refine (Q_aload_n zm_241 (Or.inr (by decide)) D241_416 rfl).trans ?_
      refine (Q_aload_n zm_241 (Or.inr (by decide)) D241_417 rfl).trans ?_
      refine (Q_iload zm_241 (Or.inr (by decide)) D241_418 rfl).trans ?_
      refine (Q_iconst (v := 1) zm_241 (Or.inr (by decide)) D241_420 (by decide)).trans ?_
      refine (Q_iadd zm_241 (Or.inr (by decide)) D241_421).trans ?_
      refine (Q_sld zm_241 (Or.inr (by decide)) D241_422 rfl).trans ?_
      refine zand_c (fun h16_ => ?_)
      refine (Q_aload_n zm_241 (Or.inr (by decide)) D241_423 rfl).trans ?_
      refine (Q_iload zm_241 (Or.inr (by decide)) D241_424 rfl).trans ?_
      refine (Q_iconst (v := 2) zm_241 (Or.inr (by decide)) D241_426 (by decide)).trans ?_
      refine (Q_iadd zm_241 (Or.inr (by decide)) D241_427).trans ?_
      refine (Q_sld zm_241 (Or.inr (by decide)) D241_428 rfl).trans ?_
      refine zand_c (fun h17_ => ?_)
      exact Q_callv (as := [.int (ia 900 ((i4 + (1 : Int32))).toNatClampNeg), .int (ia 900 ((i4 + (2 : Int32))).toNatClampNeg)]) (b := 0) (rest := []) zm_241 (Or.inr (by decide)) D241_429 zc_11_49 rfl zk_0.1 (by decide) (by decide +kernel) (by decide) (by simp [zcat, Value.category]) zm_82 rfl
    rw [if_neg h15_]
    by_cases h18_ : ((ia 900 (i4).toNatClampNeg) &&& (63 : Int32)) = 6
    · rw [if_pos h18_]
      refine (congrArg (fun q => zWP (d + 1) 241 40 [some (.ref 900), some (.ref 0), some (.ref 127), some (.ref 169), some (.int i4), none, none] (.int q :: []) (ia, la, zRA pl dr cp cw rp) K) h18_).trans ?_
      refine (Q_tsw (tgt := 453) zm_241 (Or.inr (by decide)) D241_40 rfl (by decide)).trans ?_
      refine (Q_aload_n zm_241 (Or.inr (by decide)) D241_453 rfl).trans ?_
      refine (Q_aload_n zm_241 (Or.inr (by decide)) D241_454 rfl).trans ?_
      refine (Q_iload zm_241 (Or.inr (by decide)) D241_455 rfl).trans ?_
      refine (Q_iconst (v := 1) zm_241 (Or.inr (by decide)) D241_457 (by decide)).trans ?_
      refine (Q_iadd zm_241 (Or.inr (by decide)) D241_458).trans ?_
      refine (Q_sld zm_241 (Or.inr (by decide)) D241_459 rfl).trans ?_
      refine zand_c (fun h19_ => ?_)
      refine (Q_aload_n zm_241 (Or.inr (by decide)) D241_460 rfl).trans ?_
      refine (Q_iload zm_241 (Or.inr (by decide)) D241_461 rfl).trans ?_
      refine (Q_iconst (v := 2) zm_241 (Or.inr (by decide)) D241_463 (by decide)).trans ?_
      refine (Q_iadd zm_241 (Or.inr (by decide)) D241_464).trans ?_
      refine (Q_sld zm_241 (Or.inr (by decide)) D241_465 rfl).trans ?_
      refine zand_c (fun h20_ => ?_)
      exact Q_callv (as := [.int (ia 900 ((i4 + (1 : Int32))).toNatClampNeg), .int (ia 900 ((i4 + (2 : Int32))).toNatClampNeg)]) (b := 0) (rest := []) zm_241 (Or.inr (by decide)) D241_466 zc_11_53 rfl zk_0.1 (by decide) (by decide +kernel) (by decide) (by simp [zcat, Value.category]) zm_85 rfl
    rw [if_neg h18_]
    by_cases h21_ : ((ia 900 (i4).toNatClampNeg) &&& (63 : Int32)) = 7
    · rw [if_pos h21_]
      refine (congrArg (fun q => zWP (d + 1) 241 40 [some (.ref 900), some (.ref 0), some (.ref 127), some (.ref 169), some (.int i4), none, none] (.int q :: []) (ia, la, zRA pl dr cp cw rp) K) h21_).trans ?_
      refine (Q_tsw (tgt := 490) zm_241 (Or.inr (by decide)) D241_40 rfl (by decide)).trans ?_
      refine (Q_aload_n zm_241 (Or.inr (by decide)) D241_490 rfl).trans ?_
      refine (Q_aload_n zm_241 (Or.inr (by decide)) D241_491 rfl).trans ?_
      refine (Q_iload zm_241 (Or.inr (by decide)) D241_492 rfl).trans ?_
      refine (Q_iconst (v := 1) zm_241 (Or.inr (by decide)) D241_494 (by decide)).trans ?_
      refine (Q_iadd zm_241 (Or.inr (by decide)) D241_495).trans ?_
      refine (Q_sld zm_241 (Or.inr (by decide)) D241_496 rfl).trans ?_
      refine zand_c (fun h22_ => ?_)
      refine (Q_aload_n zm_241 (Or.inr (by decide)) D241_497 rfl).trans ?_
      refine (Q_iload zm_241 (Or.inr (by decide)) D241_498 rfl).trans ?_
      refine (Q_iconst (v := 2) zm_241 (Or.inr (by decide)) D241_500 (by decide)).trans ?_
      refine (Q_iadd zm_241 (Or.inr (by decide)) D241_501).trans ?_
      refine (Q_sld zm_241 (Or.inr (by decide)) D241_502 rfl).trans ?_
      refine zand_c (fun h23_ => ?_)
      refine (Q_aload_n zm_241 (Or.inr (by decide)) D241_503 rfl).trans ?_
      refine (Q_iload zm_241 (Or.inr (by decide)) D241_504 rfl).trans ?_
      refine (Q_iconst (v := 3) zm_241 (Or.inr (by decide)) D241_506 (by decide)).trans ?_
      refine (Q_iadd zm_241 (Or.inr (by decide)) D241_507).trans ?_
      refine (Q_sld zm_241 (Or.inr (by decide)) D241_508 rfl).trans ?_
      refine zand_c (fun h24_ => ?_)
      refine (Q_aload_n zm_241 (Or.inr (by decide)) D241_509 rfl).trans ?_
      refine (Q_iload zm_241 (Or.inr (by decide)) D241_510 rfl).trans ?_
      refine (Q_iconst (v := 4) zm_241 (Or.inr (by decide)) D241_512 (by decide)).trans ?_
      refine (Q_iadd zm_241 (Or.inr (by decide)) D241_513).trans ?_
      refine (Q_sld zm_241 (Or.inr (by decide)) D241_514 rfl).trans ?_
      refine zand_c (fun h25_ => ?_)
      exact Q_callv (as := [.int (ia 900 ((i4 + (1 : Int32))).toNatClampNeg), .int (ia 900 ((i4 + (2 : Int32))).toNatClampNeg), .int (ia 900 ((i4 + (3 : Int32))).toNatClampNeg), .int (ia 900 ((i4 + (4 : Int32))).toNatClampNeg)]) (b := 0) (rest := []) zm_241 (Or.inr (by decide)) D241_515 zc_11_57 rfl zk_0.1 (by decide) (by decide +kernel) (by decide) (by simp [zcat, Value.category]) zm_86 rfl
    rw [if_neg h21_]
    by_cases h26_ : ((ia 900 (i4).toNatClampNeg) &&& (63 : Int32)) = 8
    · rw [if_pos h26_]
      refine (congrArg (fun q => zWP (d + 1) 241 40 [some (.ref 900), some (.ref 0), some (.ref 127), some (.ref 169), some (.int i4), none, none] (.int q :: []) (ia, la, zRA pl dr cp cw rp) K) h26_).trans ?_
      refine (Q_tsw (tgt := 552) zm_241 (Or.inr (by decide)) D241_40 rfl (by decide)).trans ?_
      refine (Q_aload_n zm_241 (Or.inr (by decide)) D241_552 rfl).trans ?_
      refine (Q_aload_n zm_241 (Or.inr (by decide)) D241_553 rfl).trans ?_
      refine (Q_iload zm_241 (Or.inr (by decide)) D241_554 rfl).trans ?_
      refine (Q_iconst (v := 1) zm_241 (Or.inr (by decide)) D241_556 (by decide)).trans ?_
      refine (Q_iadd zm_241 (Or.inr (by decide)) D241_557).trans ?_
      refine (Q_sld zm_241 (Or.inr (by decide)) D241_558 rfl).trans ?_
      refine zand_c (fun h27_ => ?_)
      refine (Q_aload_n zm_241 (Or.inr (by decide)) D241_559 rfl).trans ?_
      refine (Q_iload zm_241 (Or.inr (by decide)) D241_560 rfl).trans ?_
      refine (Q_iconst (v := 2) zm_241 (Or.inr (by decide)) D241_562 (by decide)).trans ?_
      refine (Q_iadd zm_241 (Or.inr (by decide)) D241_563).trans ?_
      refine (Q_sld zm_241 (Or.inr (by decide)) D241_564 rfl).trans ?_
      refine zand_c (fun h28_ => ?_)
      refine (Q_aload_n zm_241 (Or.inr (by decide)) D241_565 rfl).trans ?_
      refine (Q_iload zm_241 (Or.inr (by decide)) D241_566 rfl).trans ?_
      refine (Q_iconst (v := 3) zm_241 (Or.inr (by decide)) D241_568 (by decide)).trans ?_
      refine (Q_iadd zm_241 (Or.inr (by decide)) D241_569).trans ?_
      refine (Q_sld zm_241 (Or.inr (by decide)) D241_570 rfl).trans ?_
      refine zand_c (fun h29_ => ?_)
      refine (Q_aload_n zm_241 (Or.inr (by decide)) D241_571 rfl).trans ?_
      refine (Q_iload zm_241 (Or.inr (by decide)) D241_572 rfl).trans ?_
      refine (Q_iconst (v := 4) zm_241 (Or.inr (by decide)) D241_574 (by decide)).trans ?_
      refine (Q_iadd zm_241 (Or.inr (by decide)) D241_575).trans ?_
      refine (Q_sld zm_241 (Or.inr (by decide)) D241_576 rfl).trans ?_
      refine zand_c (fun h30_ => ?_)
      exact Q_callv (as := [.int (ia 900 ((i4 + (1 : Int32))).toNatClampNeg), .int (ia 900 ((i4 + (2 : Int32))).toNatClampNeg), .int (ia 900 ((i4 + (3 : Int32))).toNatClampNeg), .int (ia 900 ((i4 + (4 : Int32))).toNatClampNeg)]) (b := 0) (rest := []) zm_241 (Or.inr (by decide)) D241_577 zc_11_62 rfl zk_0.1 (by decide) (by decide +kernel) (by decide) (by simp [zcat, Value.category]) zm_88 rfl
    rw [if_neg h26_]
    by_cases h31_ : ((ia 900 (i4).toNatClampNeg) &&& (63 : Int32)) = 9
    · rw [if_pos h31_]
      refine (congrArg (fun q => zWP (d + 1) 241 40 [some (.ref 900), some (.ref 0), some (.ref 127), some (.ref 169), some (.int i4), none, none] (.int q :: []) (ia, la, zRA pl dr cp cw rp) K) h31_).trans ?_
      refine (Q_tsw (tgt := 613) zm_241 (Or.inr (by decide)) D241_40 rfl (by decide)).trans ?_
      refine (Q_aload_n zm_241 (Or.inr (by decide)) D241_613 rfl).trans ?_
      refine (Q_aload_n zm_241 (Or.inr (by decide)) D241_614 rfl).trans ?_
      refine (Q_iload zm_241 (Or.inr (by decide)) D241_615 rfl).trans ?_
      refine (Q_iconst (v := 1) zm_241 (Or.inr (by decide)) D241_617 (by decide)).trans ?_
      refine (Q_iadd zm_241 (Or.inr (by decide)) D241_618).trans ?_
      refine (Q_sld zm_241 (Or.inr (by decide)) D241_619 rfl).trans ?_
      refine zand_c (fun h32_ => ?_)
      exact Q_callv (as := [.int (ia 900 ((i4 + (1 : Int32))).toNatClampNeg)]) (b := 0) (rest := []) zm_241 (Or.inr (by decide)) D241_620 zc_11_67 rfl zk_0.1 (by decide) (by decide +kernel) (by decide) (by simp [zcat, Value.category]) zm_89 rfl
    rw [if_neg h31_]
    by_cases h33_ : ((ia 900 (i4).toNatClampNeg) &&& (63 : Int32)) = 10
    · rw [if_pos h33_]
      refine (congrArg (fun q => zWP (d + 1) 241 40 [some (.ref 900), some (.ref 0), some (.ref 127), some (.ref 169), some (.int i4), none, none] (.int q :: []) (ia, la, zRA pl dr cp cw rp) K) h33_).trans ?_
      refine (Q_tsw (tgt := 638) zm_241 (Or.inr (by decide)) D241_40 rfl (by decide)).trans ?_
      refine (Q_aload_n zm_241 (Or.inr (by decide)) D241_638 rfl).trans ?_
      refine (Q_aload_n zm_241 (Or.inr (by decide)) D241_639 rfl).trans ?_
      refine (Q_iload zm_241 (Or.inr (by decide)) D241_640 rfl).trans ?_
      refine (Q_iconst (v := 1) zm_241 (Or.inr (by decide)) D241_642 (by decide)).trans ?_
      refine (Q_iadd zm_241 (Or.inr (by decide)) D241_643).trans ?_
      refine (Q_sld zm_241 (Or.inr (by decide)) D241_644 rfl).trans ?_
      refine zand_c (fun h34_ => ?_)
      exact Q_callv (as := [.int (ia 900 ((i4 + (1 : Int32))).toNatClampNeg)]) (b := 0) (rest := []) zm_241 (Or.inr (by decide)) D241_645 zc_11_71 rfl zk_0.1 (by decide) (by decide +kernel) (by decide) (by simp [zcat, Value.category]) zm_90 rfl
    rw [if_neg h33_]
    by_cases h35_ : ((ia 900 (i4).toNatClampNeg) &&& (63 : Int32)) = 11
    · rw [if_pos h35_]
      refine (congrArg (fun q => zWP (d + 1) 241 40 [some (.ref 900), some (.ref 0), some (.ref 127), some (.ref 169), some (.int i4), none, none] (.int q :: []) (ia, la, zRA pl dr cp cw rp) K) h35_).trans ?_
      refine (Q_tsw (tgt := 663) zm_241 (Or.inr (by decide)) D241_40 rfl (by decide)).trans ?_
      refine (Q_aload_n zm_241 (Or.inr (by decide)) D241_663 rfl).trans ?_
      refine (Q_aload_n zm_241 (Or.inr (by decide)) D241_664 rfl).trans ?_
      refine (Q_iload zm_241 (Or.inr (by decide)) D241_665 rfl).trans ?_
      refine (Q_iconst (v := 1) zm_241 (Or.inr (by decide)) D241_667 (by decide)).trans ?_
      refine (Q_iadd zm_241 (Or.inr (by decide)) D241_668).trans ?_
      refine (Q_sld zm_241 (Or.inr (by decide)) D241_669 rfl).trans ?_
      refine zand_c (fun h36_ => ?_)
      exact Q_callv (as := [.int (ia 900 ((i4 + (1 : Int32))).toNatClampNeg)]) (b := 0) (rest := []) zm_241 (Or.inr (by decide)) D241_670 zc_11_75 rfl zk_0.1 (by decide) (by decide +kernel) (by decide) (by simp [zcat, Value.category]) zm_91 rfl
    rw [if_neg h35_]
    by_cases h37_ : ((ia 900 (i4).toNatClampNeg) &&& (63 : Int32)) = 12
    · rw [if_pos h37_]
      refine (congrArg (fun q => zWP (d + 1) 241 40 [some (.ref 900), some (.ref 0), some (.ref 127), some (.ref 169), some (.int i4), none, none] (.int q :: []) (ia, la, zRA pl dr cp cw rp) K) h37_).trans ?_
      refine (Q_tsw (tgt := 688) zm_241 (Or.inr (by decide)) D241_40 rfl (by decide)).trans ?_
      refine (Q_aload_n zm_241 (Or.inr (by decide)) D241_688 rfl).trans ?_
      refine (Q_aload_n zm_241 (Or.inr (by decide)) D241_689 rfl).trans ?_
      refine (Q_iload zm_241 (Or.inr (by decide)) D241_690 rfl).trans ?_
      refine (Q_iconst (v := 1) zm_241 (Or.inr (by decide)) D241_692 (by decide)).trans ?_
      refine (Q_iadd zm_241 (Or.inr (by decide)) D241_693).trans ?_
      refine (Q_sld zm_241 (Or.inr (by decide)) D241_694 rfl).trans ?_
      refine zand_c (fun h38_ => ?_)
      refine (Q_aload_n zm_241 (Or.inr (by decide)) D241_695 rfl).trans ?_
      refine (Q_iload zm_241 (Or.inr (by decide)) D241_696 rfl).trans ?_
      refine (Q_iconst (v := 2) zm_241 (Or.inr (by decide)) D241_698 (by decide)).trans ?_
      refine (Q_iadd zm_241 (Or.inr (by decide)) D241_699).trans ?_
      refine (Q_sld zm_241 (Or.inr (by decide)) D241_700 rfl).trans ?_
      refine zand_c (fun h39_ => ?_)
      refine (Q_aload_n zm_241 (Or.inr (by decide)) D241_701 rfl).trans ?_
      refine (Q_iload zm_241 (Or.inr (by decide)) D241_702 rfl).trans ?_
      refine (Q_iconst (v := 3) zm_241 (Or.inr (by decide)) D241_704 (by decide)).trans ?_
      refine (Q_iadd zm_241 (Or.inr (by decide)) D241_705).trans ?_
      refine (Q_sld zm_241 (Or.inr (by decide)) D241_706 rfl).trans ?_
      refine zand_c (fun h40_ => ?_)
      exact Q_callv (as := [.int (ia 900 ((i4 + (1 : Int32))).toNatClampNeg), .int (ia 900 ((i4 + (2 : Int32))).toNatClampNeg), .int (ia 900 ((i4 + (3 : Int32))).toNatClampNeg)]) (b := 0) (rest := []) zm_241 (Or.inr (by decide)) D241_707 zc_11_79 rfl zk_0.1 (by decide) (by decide +kernel) (by decide) (by simp [zcat, Value.category]) zm_93 rfl
    rw [if_neg h37_]
    by_cases h41_ : ((ia 900 (i4).toNatClampNeg) &&& (63 : Int32)) = 13
    · rw [if_pos h41_]
      refine (congrArg (fun q => zWP (d + 1) 241 40 [some (.ref 900), some (.ref 0), some (.ref 127), some (.ref 169), some (.int i4), none, none] (.int q :: []) (ia, la, zRA pl dr cp cw rp) K) h41_).trans ?_
      refine (Q_tsw (tgt := 737) zm_241 (Or.inr (by decide)) D241_40 rfl (by decide)).trans ?_
      refine (Q_aload_n zm_241 (Or.inr (by decide)) D241_737 rfl).trans ?_
      refine (Q_aload_n zm_241 (Or.inr (by decide)) D241_738 rfl).trans ?_
      refine (Q_iload zm_241 (Or.inr (by decide)) D241_739 rfl).trans ?_
      refine (Q_iconst (v := 1) zm_241 (Or.inr (by decide)) D241_741 (by decide)).trans ?_
      refine (Q_iadd zm_241 (Or.inr (by decide)) D241_742).trans ?_
      refine (Q_sld zm_241 (Or.inr (by decide)) D241_743 rfl).trans ?_
      refine zand_c (fun h42_ => ?_)
      exact Q_callv (as := [.int (ia 900 ((i4 + (1 : Int32))).toNatClampNeg)]) (b := 0) (rest := []) zm_241 (Or.inr (by decide)) D241_744 zc_11_84 rfl zk_0.1 (by decide) (by decide +kernel) (by decide) (by simp [zcat, Value.category]) zm_94 rfl
    rw [if_neg h41_]
    by_cases h43_ : ((ia 900 (i4).toNatClampNeg) &&& (63 : Int32)) = 14
    · rw [if_pos h43_]
      refine (congrArg (fun q => zWP (d + 1) 241 40 [some (.ref 900), some (.ref 0), some (.ref 127), some (.ref 169), some (.int i4), none, none] (.int q :: []) (ia, la, zRA pl dr cp cw rp) K) h43_).trans ?_
      refine (Q_tsw (tgt := 762) zm_241 (Or.inr (by decide)) D241_40 rfl (by decide)).trans ?_
      refine (Q_aload_n zm_241 (Or.inr (by decide)) D241_762 rfl).trans ?_
      refine (Q_aload_n zm_241 (Or.inr (by decide)) D241_763 rfl).trans ?_
      refine (Q_iload zm_241 (Or.inr (by decide)) D241_764 rfl).trans ?_
      refine (Q_iconst (v := 1) zm_241 (Or.inr (by decide)) D241_766 (by decide)).trans ?_
      refine (Q_iadd zm_241 (Or.inr (by decide)) D241_767).trans ?_
      refine (Q_sld zm_241 (Or.inr (by decide)) D241_768 rfl).trans ?_
      refine zand_c (fun h44_ => ?_)
      refine (Q_aload_n zm_241 (Or.inr (by decide)) D241_769 rfl).trans ?_
      refine (Q_iload zm_241 (Or.inr (by decide)) D241_770 rfl).trans ?_
      refine (Q_iconst (v := 2) zm_241 (Or.inr (by decide)) D241_772 (by decide)).trans ?_
      refine (Q_iadd zm_241 (Or.inr (by decide)) D241_773).trans ?_
      refine (Q_sld zm_241 (Or.inr (by decide)) D241_774 rfl).trans ?_
      refine zand_c (fun h45_ => ?_)
      exact Q_callv (as := [.int (ia 900 ((i4 + (1 : Int32))).toNatClampNeg), .int (ia 900 ((i4 + (2 : Int32))).toNatClampNeg)]) (b := 0) (rest := []) zm_241 (Or.inr (by decide)) D241_775 zc_11_88 rfl zk_0.1 (by decide) (by decide +kernel) (by decide) (by simp [zcat, Value.category]) zm_96 rfl
    rw [if_neg h43_]
    by_cases h46_ : ((ia 900 (i4).toNatClampNeg) &&& (63 : Int32)) = 15
    · rw [if_pos h46_]
      refine (congrArg (fun q => zWP (d + 1) 241 40 [some (.ref 900), some (.ref 0), some (.ref 127), some (.ref 169), some (.int i4), none, none] (.int q :: []) (ia, la, zRA pl dr cp cw rp) K) h46_).trans ?_
      refine (Q_tsw (tgt := 799) zm_241 (Or.inr (by decide)) D241_40 rfl (by decide)).trans ?_
      refine (Q_aload_n zm_241 (Or.inr (by decide)) D241_799 rfl).trans ?_
      refine (Q_aload_n zm_241 (Or.inr (by decide)) D241_800 rfl).trans ?_
      refine (Q_iload zm_241 (Or.inr (by decide)) D241_801 rfl).trans ?_
      refine (Q_iconst (v := 1) zm_241 (Or.inr (by decide)) D241_803 (by decide)).trans ?_
      refine (Q_iadd zm_241 (Or.inr (by decide)) D241_804).trans ?_
      refine (Q_sld zm_241 (Or.inr (by decide)) D241_805 rfl).trans ?_
      refine zand_c (fun h47_ => ?_)
      exact Q_callv (as := [.int (ia 900 ((i4 + (1 : Int32))).toNatClampNeg)]) (b := 0) (rest := []) zm_241 (Or.inr (by decide)) D241_806 zc_11_92 rfl zk_0.1 (by decide) (by decide +kernel) (by decide) (by simp [zcat, Value.category]) zm_97 rfl
    rw [if_neg h46_]
    by_cases h48_ : ((ia 900 (i4).toNatClampNeg) &&& (63 : Int32)) = 16
    · rw [if_pos h48_]
      refine (congrArg (fun q => zWP (d + 1) 241 40 [some (.ref 900), some (.ref 0), some (.ref 127), some (.ref 169), some (.int i4), none, none] (.int q :: []) (ia, la, zRA pl dr cp cw rp) K) h48_).trans ?_
      refine (Q_tsw (tgt := 824) zm_241 (Or.inr (by decide)) D241_40 rfl (by decide)).trans ?_
      refine (Q_aload_n zm_241 (Or.inr (by decide)) D241_824 rfl).trans ?_
      refine (Q_aload_n zm_241 (Or.inr (by decide)) D241_825 rfl).trans ?_
      refine (Q_iload zm_241 (Or.inr (by decide)) D241_826 rfl).trans ?_
      refine (Q_iconst (v := 1) zm_241 (Or.inr (by decide)) D241_828 (by decide)).trans ?_
      refine (Q_iadd zm_241 (Or.inr (by decide)) D241_829).trans ?_
      refine (Q_sld zm_241 (Or.inr (by decide)) D241_830 rfl).trans ?_
      refine zand_c (fun h49_ => ?_)
      refine (Q_aload_n zm_241 (Or.inr (by decide)) D241_831 rfl).trans ?_
      refine (Q_iload zm_241 (Or.inr (by decide)) D241_832 rfl).trans ?_
      refine (Q_iconst (v := 2) zm_241 (Or.inr (by decide)) D241_834 (by decide)).trans ?_
      refine (Q_iadd zm_241 (Or.inr (by decide)) D241_835).trans ?_
      refine (Q_sld zm_241 (Or.inr (by decide)) D241_836 rfl).trans ?_
      refine zand_c (fun h50_ => ?_)
      exact Q_callv (as := [.int (ia 900 ((i4 + (1 : Int32))).toNatClampNeg), .int (ia 900 ((i4 + (2 : Int32))).toNatClampNeg)]) (b := 0) (rest := []) zm_241 (Or.inr (by decide)) D241_837 zc_11_96 rfl zk_0.1 (by decide) (by decide +kernel) (by decide) (by simp [zcat, Value.category]) zm_98 rfl
    rw [if_neg h48_]
    by_cases h51_ : ((ia 900 (i4).toNatClampNeg) &&& (63 : Int32)) = 17
    · rw [if_pos h51_]
      refine (congrArg (fun q => zWP (d + 1) 241 40 [some (.ref 900), some (.ref 0), some (.ref 127), some (.ref 169), some (.int i4), none, none] (.int q :: []) (ia, la, zRA pl dr cp cw rp) K) h51_).trans ?_
      refine (Q_tsw (tgt := 861) zm_241 (Or.inr (by decide)) D241_40 rfl (by decide)).trans ?_
      refine (Q_aload_n zm_241 (Or.inr (by decide)) D241_861 rfl).trans ?_
      refine (Q_aload_n zm_241 (Or.inr (by decide)) D241_862 rfl).trans ?_
      refine (Q_iload zm_241 (Or.inr (by decide)) D241_863 rfl).trans ?_
      refine (Q_iconst (v := 1) zm_241 (Or.inr (by decide)) D241_865 (by decide)).trans ?_
      refine (Q_iadd zm_241 (Or.inr (by decide)) D241_866).trans ?_
      refine (Q_sld zm_241 (Or.inr (by decide)) D241_867 rfl).trans ?_
      refine zand_c (fun h52_ => ?_)
      exact Q_callv (as := [.int (ia 900 ((i4 + (1 : Int32))).toNatClampNeg)]) (b := 0) (rest := []) zm_241 (Or.inr (by decide)) D241_868 zc_11_100 rfl zk_0.1 (by decide) (by decide +kernel) (by decide) (by simp [zcat, Value.category]) zm_99 rfl
    rw [if_neg h51_]
    by_cases h53_ : ((ia 900 (i4).toNatClampNeg) &&& (63 : Int32)) = 18
    · rw [if_pos h53_]
      refine (congrArg (fun q => zWP (d + 1) 241 40 [some (.ref 900), some (.ref 0), some (.ref 127), some (.ref 169), some (.int i4), none, none] (.int q :: []) (ia, la, zRA pl dr cp cw rp) K) h53_).trans ?_
      refine (Q_tsw (tgt := 886) zm_241 (Or.inr (by decide)) D241_40 rfl (by decide)).trans ?_
      refine (Q_aload_n zm_241 (Or.inr (by decide)) D241_886 rfl).trans ?_
      refine (Q_aload_n zm_241 (Or.inr (by decide)) D241_887 rfl).trans ?_
      refine (Q_iload zm_241 (Or.inr (by decide)) D241_888 rfl).trans ?_
      refine (Q_iconst (v := 1) zm_241 (Or.inr (by decide)) D241_890 (by decide)).trans ?_
      refine (Q_iadd zm_241 (Or.inr (by decide)) D241_891).trans ?_
      refine (Q_sld zm_241 (Or.inr (by decide)) D241_892 rfl).trans ?_
      refine zand_c (fun h54_ => ?_)
      refine (Q_aload_n zm_241 (Or.inr (by decide)) D241_893 rfl).trans ?_
      refine (Q_iload zm_241 (Or.inr (by decide)) D241_894 rfl).trans ?_
      refine (Q_iconst (v := 2) zm_241 (Or.inr (by decide)) D241_896 (by decide)).trans ?_
      refine (Q_iadd zm_241 (Or.inr (by decide)) D241_897).trans ?_
      refine (Q_sld zm_241 (Or.inr (by decide)) D241_898 rfl).trans ?_
      refine zand_c (fun h55_ => ?_)
      exact Q_callv (as := [.int (ia 900 ((i4 + (1 : Int32))).toNatClampNeg), .int (ia 900 ((i4 + (2 : Int32))).toNatClampNeg)]) (b := 0) (rest := []) zm_241 (Or.inr (by decide)) D241_899 zc_11_104 rfl zk_0.1 (by decide) (by decide +kernel) (by decide) (by simp [zcat, Value.category]) zm_100 rfl
    rw [if_neg h53_]
    by_cases h56_ : ((ia 900 (i4).toNatClampNeg) &&& (63 : Int32)) = 19
    · rw [if_pos h56_]
      refine (congrArg (fun q => zWP (d + 1) 241 40 [some (.ref 900), some (.ref 0), some (.ref 127), some (.ref 169), some (.int i4), none, none] (.int q :: []) (ia, la, zRA pl dr cp cw rp) K) h56_).trans ?_
      refine (Q_tsw (tgt := 923) zm_241 (Or.inr (by decide)) D241_40 rfl (by decide)).trans ?_
      refine (Q_aload_n zm_241 (Or.inr (by decide)) D241_923 rfl).trans ?_
      exact Q_callv (as := []) (b := 0) (rest := []) zm_241 (Or.inr (by decide)) D241_924 zc_11_108 rfl zk_0.1 (by decide) (by decide +kernel) (by decide) (by simp [zcat, Value.category]) zm_103 rfl
    rw [if_neg h56_]
    by_cases h57_ : ((ia 900 (i4).toNatClampNeg) &&& (63 : Int32)) = 20
    · rw [if_pos h57_]
      refine (congrArg (fun q => zWP (d + 1) 241 40 [some (.ref 900), some (.ref 0), some (.ref 127), some (.ref 169), some (.int i4), none, none] (.int q :: []) (ia, la, zRA pl dr cp cw rp) K) h57_).trans ?_
      refine (Q_tsw (tgt := 936) zm_241 (Or.inr (by decide)) D241_40 rfl (by decide)).trans ?_
      refine (Q_aload_n zm_241 (Or.inr (by decide)) D241_936 rfl).trans ?_
      refine (Q_aload_n zm_241 (Or.inr (by decide)) D241_937 rfl).trans ?_
      refine (Q_iload zm_241 (Or.inr (by decide)) D241_938 rfl).trans ?_
      refine (Q_iconst (v := 1) zm_241 (Or.inr (by decide)) D241_940 (by decide)).trans ?_
      refine (Q_iadd zm_241 (Or.inr (by decide)) D241_941).trans ?_
      refine (Q_sld zm_241 (Or.inr (by decide)) D241_942 rfl).trans ?_
      refine zand_c (fun h58_ => ?_)
      refine (Q_aload_n zm_241 (Or.inr (by decide)) D241_943 rfl).trans ?_
      refine (Q_iload zm_241 (Or.inr (by decide)) D241_944 rfl).trans ?_
      refine (Q_iconst (v := 2) zm_241 (Or.inr (by decide)) D241_946 (by decide)).trans ?_
      refine (Q_iadd zm_241 (Or.inr (by decide)) D241_947).trans ?_
      refine (Q_sld zm_241 (Or.inr (by decide)) D241_948 rfl).trans ?_
      refine zand_c (fun h59_ => ?_)
      exact Q_callv (as := [.int (ia 900 ((i4 + (1 : Int32))).toNatClampNeg), .int (ia 900 ((i4 + (2 : Int32))).toNatClampNeg)]) (b := 0) (rest := []) zm_241 (Or.inr (by decide)) D241_949 zc_11_112 rfl zk_0.1 (by decide) (by decide +kernel) (by decide) (by simp [zcat, Value.category]) zm_106 rfl
    rw [if_neg h57_]
    by_cases h60_ : ((ia 900 (i4).toNatClampNeg) &&& (63 : Int32)) = 21
    · rw [if_pos h60_]
      refine (congrArg (fun q => zWP (d + 1) 241 40 [some (.ref 900), some (.ref 0), some (.ref 127), some (.ref 169), some (.int i4), none, none] (.int q :: []) (ia, la, zRA pl dr cp cw rp) K) h60_).trans ?_
      refine (Q_tsw (tgt := 973) zm_241 (Or.inr (by decide)) D241_40 rfl (by decide)).trans ?_
      refine (Q_aload_n zm_241 (Or.inr (by decide)) D241_973 rfl).trans ?_
      refine (Q_aload_n zm_241 (Or.inr (by decide)) D241_974 rfl).trans ?_
      refine (Q_iload zm_241 (Or.inr (by decide)) D241_975 rfl).trans ?_
      refine (Q_iconst (v := 1) zm_241 (Or.inr (by decide)) D241_977 (by decide)).trans ?_
      refine (Q_iadd zm_241 (Or.inr (by decide)) D241_978).trans ?_
      refine (Q_sld zm_241 (Or.inr (by decide)) D241_979 rfl).trans ?_
      refine zand_c (fun h61_ => ?_)
      exact Q_callv (as := [.int (ia 900 ((i4 + (1 : Int32))).toNatClampNeg)]) (b := 0) (rest := []) zm_241 (Or.inr (by decide)) D241_980 zc_11_116 rfl zk_0.1 (by decide) (by decide +kernel) (by decide) (by simp [zcat, Value.category]) zm_107 rfl
    rw [if_neg h60_]
    by_cases h62_ : ((ia 900 (i4).toNatClampNeg) &&& (63 : Int32)) = 22
    · rw [if_pos h62_]
      refine (congrArg (fun q => zWP (d + 1) 241 40 [some (.ref 900), some (.ref 0), some (.ref 127), some (.ref 169), some (.int i4), none, none] (.int q :: []) (ia, la, zRA pl dr cp cw rp) K) h62_).trans ?_
      refine (Q_tsw (tgt := 998) zm_241 (Or.inr (by decide)) D241_40 rfl (by decide)).trans ?_
      refine (Q_aload_n zm_241 (Or.inr (by decide)) D241_998 rfl).trans ?_
      refine (Q_aload_n zm_241 (Or.inr (by decide)) D241_999 rfl).trans ?_
      refine (Q_iload zm_241 (Or.inr (by decide)) D241_1000 rfl).trans ?_
      refine (Q_iconst (v := 1) zm_241 (Or.inr (by decide)) D241_1002 (by decide)).trans ?_
      refine (Q_iadd zm_241 (Or.inr (by decide)) D241_1003).trans ?_
      refine (Q_sld zm_241 (Or.inr (by decide)) D241_1004 rfl).trans ?_
      refine zand_c (fun h63_ => ?_)
      refine (Q_aload_n zm_241 (Or.inr (by decide)) D241_1005 rfl).trans ?_
      refine (Q_iload zm_241 (Or.inr (by decide)) D241_1006 rfl).trans ?_
      refine (Q_iconst (v := 2) zm_241 (Or.inr (by decide)) D241_1008 (by decide)).trans ?_
      refine (Q_iadd zm_241 (Or.inr (by decide)) D241_1009).trans ?_
      refine (Q_sld zm_241 (Or.inr (by decide)) D241_1010 rfl).trans ?_
      refine zand_c (fun h64_ => ?_)
      exact Q_callv (as := [.int (ia 900 ((i4 + (1 : Int32))).toNatClampNeg), .int (ia 900 ((i4 + (2 : Int32))).toNatClampNeg)]) (b := 0) (rest := []) zm_241 (Or.inr (by decide)) D241_1011 zc_11_120 rfl zk_0.1 (by decide) (by decide +kernel) (by decide) (by simp [zcat, Value.category]) zm_111 rfl
    rw [if_neg h62_]
    by_cases h65_ : ((ia 900 (i4).toNatClampNeg) &&& (63 : Int32)) = 23
    · rw [if_pos h65_]
      refine (congrArg (fun q => zWP (d + 1) 241 40 [some (.ref 900), some (.ref 0), some (.ref 127), some (.ref 169), some (.int i4), none, none] (.int q :: []) (ia, la, zRA pl dr cp cw rp) K) h65_).trans ?_
      refine (Q_tsw (tgt := 1035) zm_241 (Or.inr (by decide)) D241_40 rfl (by decide)).trans ?_
      refine (Q_aload_n zm_241 (Or.inr (by decide)) D241_1035 rfl).trans ?_
      refine (Q_aload_n zm_241 (Or.inr (by decide)) D241_1036 rfl).trans ?_
      refine (Q_iload zm_241 (Or.inr (by decide)) D241_1037 rfl).trans ?_
      refine (Q_iconst (v := 1) zm_241 (Or.inr (by decide)) D241_1039 (by decide)).trans ?_
      refine (Q_iadd zm_241 (Or.inr (by decide)) D241_1040).trans ?_
      refine (Q_sld zm_241 (Or.inr (by decide)) D241_1041 rfl).trans ?_
      refine zand_c (fun h66_ => ?_)
      refine (Q_aload_n zm_241 (Or.inr (by decide)) D241_1042 rfl).trans ?_
      refine (Q_iload zm_241 (Or.inr (by decide)) D241_1043 rfl).trans ?_
      refine (Q_iconst (v := 2) zm_241 (Or.inr (by decide)) D241_1045 (by decide)).trans ?_
      refine (Q_iadd zm_241 (Or.inr (by decide)) D241_1046).trans ?_
      refine (Q_sld zm_241 (Or.inr (by decide)) D241_1047 rfl).trans ?_
      refine zand_c (fun h67_ => ?_)
      refine (Q_aload_n zm_241 (Or.inr (by decide)) D241_1048 rfl).trans ?_
      refine (Q_iload zm_241 (Or.inr (by decide)) D241_1049 rfl).trans ?_
      refine (Q_iconst (v := 3) zm_241 (Or.inr (by decide)) D241_1051 (by decide)).trans ?_
      refine (Q_iadd zm_241 (Or.inr (by decide)) D241_1052).trans ?_
      refine (Q_sld zm_241 (Or.inr (by decide)) D241_1053 rfl).trans ?_
      refine zand_c (fun h68_ => ?_)
      exact Q_callv (as := [.int (ia 900 ((i4 + (1 : Int32))).toNatClampNeg), .int (ia 900 ((i4 + (2 : Int32))).toNatClampNeg), .int (ia 900 ((i4 + (3 : Int32))).toNatClampNeg)]) (b := 0) (rest := []) zm_241 (Or.inr (by decide)) D241_1054 zc_11_124 rfl zk_0.1 (by decide) (by decide +kernel) (by decide) (by simp [zcat, Value.category]) zm_112 rfl
    rw [if_neg h65_]
    by_cases h69_ : ((ia 900 (i4).toNatClampNeg) &&& (63 : Int32)) = 24
    · rw [if_pos h69_]
      refine (congrArg (fun q => zWP (d + 1) 241 40 [some (.ref 900), some (.ref 0), some (.ref 127), some (.ref 169), some (.int i4), none, none] (.int q :: []) (ia, la, zRA pl dr cp cw rp) K) h69_).trans ?_
      refine (Q_tsw (tgt := 1084) zm_241 (Or.inr (by decide)) D241_40 rfl (by decide)).trans ?_
      refine (Q_aload_n zm_241 (Or.inr (by decide)) D241_1084 rfl).trans ?_
      refine (Q_aload_n zm_241 (Or.inr (by decide)) D241_1085 rfl).trans ?_
      refine (Q_iload zm_241 (Or.inr (by decide)) D241_1086 rfl).trans ?_
      refine (Q_iconst (v := 1) zm_241 (Or.inr (by decide)) D241_1088 (by decide)).trans ?_
      refine (Q_iadd zm_241 (Or.inr (by decide)) D241_1089).trans ?_
      refine (Q_sld zm_241 (Or.inr (by decide)) D241_1090 rfl).trans ?_
      refine zand_c (fun h70_ => ?_)
      refine (Q_aload_n zm_241 (Or.inr (by decide)) D241_1091 rfl).trans ?_
      refine (Q_iload zm_241 (Or.inr (by decide)) D241_1092 rfl).trans ?_
      refine (Q_iconst (v := 2) zm_241 (Or.inr (by decide)) D241_1094 (by decide)).trans ?_
      refine (Q_iadd zm_241 (Or.inr (by decide)) D241_1095).trans ?_
      refine (Q_sld zm_241 (Or.inr (by decide)) D241_1096 rfl).trans ?_
      refine zand_c (fun h71_ => ?_)
      exact Q_callv (as := [.int (ia 900 ((i4 + (1 : Int32))).toNatClampNeg), .int (ia 900 ((i4 + (2 : Int32))).toNatClampNeg)]) (b := 0) (rest := []) zm_241 (Or.inr (by decide)) D241_1097 zc_11_128 rfl zk_0.1 (by decide) (by decide +kernel) (by decide) (by simp [zcat, Value.category]) zm_113 rfl
    rw [if_neg h69_]
    by_cases h72_ : ((ia 900 (i4).toNatClampNeg) &&& (63 : Int32)) = 25
    · rw [if_pos h72_]
      refine (congrArg (fun q => zWP (d + 1) 241 40 [some (.ref 900), some (.ref 0), some (.ref 127), some (.ref 169), some (.int i4), none, none] (.int q :: []) (ia, la, zRA pl dr cp cw rp) K) h72_).trans ?_
      refine (Q_tsw (tgt := 1122) zm_241 (Or.inr (by decide)) D241_40 rfl (by decide)).trans ?_
      refine (Q_aload_n zm_241 (Or.inr (by decide)) D241_1122 rfl).trans ?_
      refine (Q_aload_n zm_241 (Or.inr (by decide)) D241_1123 rfl).trans ?_
      refine (Q_iload zm_241 (Or.inr (by decide)) D241_1124 rfl).trans ?_
      refine (Q_iconst (v := 1) zm_241 (Or.inr (by decide)) D241_1126 (by decide)).trans ?_
      refine (Q_iadd zm_241 (Or.inr (by decide)) D241_1127).trans ?_
      refine (Q_sld zm_241 (Or.inr (by decide)) D241_1128 rfl).trans ?_
      refine zand_c (fun h73_ => ?_)
      refine (Q_aload_n zm_241 (Or.inr (by decide)) D241_1129 rfl).trans ?_
      refine (Q_iload zm_241 (Or.inr (by decide)) D241_1130 rfl).trans ?_
      refine (Q_iconst (v := 2) zm_241 (Or.inr (by decide)) D241_1132 (by decide)).trans ?_
      refine (Q_iadd zm_241 (Or.inr (by decide)) D241_1133).trans ?_
      refine (Q_sld zm_241 (Or.inr (by decide)) D241_1134 rfl).trans ?_
      refine zand_c (fun h74_ => ?_)
      refine (Q_aload_n zm_241 (Or.inr (by decide)) D241_1135 rfl).trans ?_
      refine (Q_iload zm_241 (Or.inr (by decide)) D241_1136 rfl).trans ?_
      refine (Q_iconst (v := 3) zm_241 (Or.inr (by decide)) D241_1138 (by decide)).trans ?_
      refine (Q_iadd zm_241 (Or.inr (by decide)) D241_1139).trans ?_
      refine (Q_sld zm_241 (Or.inr (by decide)) D241_1140 rfl).trans ?_
      refine zand_c (fun h75_ => ?_)
      refine (Q_aload_n zm_241 (Or.inr (by decide)) D241_1141 rfl).trans ?_
      refine (Q_iload zm_241 (Or.inr (by decide)) D241_1142 rfl).trans ?_
      refine (Q_iconst (v := 4) zm_241 (Or.inr (by decide)) D241_1144 (by decide)).trans ?_
      refine (Q_iadd zm_241 (Or.inr (by decide)) D241_1145).trans ?_
      refine (Q_sld zm_241 (Or.inr (by decide)) D241_1146 rfl).trans ?_
      refine zand_c (fun h76_ => ?_)
      refine (Q_aload_n zm_241 (Or.inr (by decide)) D241_1147 rfl).trans ?_
      refine (Q_iload zm_241 (Or.inr (by decide)) D241_1148 rfl).trans ?_
      refine (Q_iconst (v := 5) zm_241 (Or.inr (by decide)) D241_1150 (by decide)).trans ?_
      refine (Q_iadd zm_241 (Or.inr (by decide)) D241_1151).trans ?_
      refine (Q_sld zm_241 (Or.inr (by decide)) D241_1152 rfl).trans ?_
      refine zand_c (fun h77_ => ?_)
      refine (Q_if_eq (tgt := 1160) zm_241 (Or.inr (by decide)) D241_1153 (by decide)).trans ?_
      refine zif_c (fun h78_ => ?_) (fun h78_ => ?_)
      · refine (Q_iconst (v := 0) zm_241 (Or.inr (by decide)) D241_1160 (by decide)).trans ?_
        exact Q_callv (as := [.int (ia 900 ((i4 + (1 : Int32))).toNatClampNeg), .int (ia 900 ((i4 + (2 : Int32))).toNatClampNeg), .int (ia 900 ((i4 + (3 : Int32))).toNatClampNeg), .int (ia 900 ((i4 + (4 : Int32))).toNatClampNeg), .int (0 : Int32)]) (b := 0) (rest := []) zm_241 (Or.inr (by decide)) D241_1161 zc_11_133 rfl zk_0.1 (by decide) (by decide +kernel) (by decide) (by simp [zcat, Value.category]) zm_117 rfl
      · refine (Q_iconst (v := 1) zm_241 (Or.inr (by decide)) D241_1156 (by decide)).trans ?_
        refine (Q_goto (tgt := 1161) zm_241 (Or.inr (by decide)) D241_1157 (by decide)).trans ?_
        exact Q_callv (as := [.int (ia 900 ((i4 + (1 : Int32))).toNatClampNeg), .int (ia 900 ((i4 + (2 : Int32))).toNatClampNeg), .int (ia 900 ((i4 + (3 : Int32))).toNatClampNeg), .int (ia 900 ((i4 + (4 : Int32))).toNatClampNeg), .int (1 : Int32)]) (b := 0) (rest := []) zm_241 (Or.inr (by decide)) D241_1161 zc_11_133 rfl zk_0.1 (by decide) (by decide +kernel) (by decide) (by simp [zcat, Value.category]) zm_117 rfl
    rw [if_neg h72_]
    by_cases h79_ : ((ia 900 (i4).toNatClampNeg) &&& (63 : Int32)) = 26
    · rw [if_pos h79_]
      refine (congrArg (fun q => zWP (d + 1) 241 40 [some (.ref 900), some (.ref 0), some (.ref 127), some (.ref 169), some (.int i4), none, none] (.int q :: []) (ia, la, zRA pl dr cp cw rp) K) h79_).trans ?_
      refine (Q_tsw (tgt := 1211) zm_241 (Or.inr (by decide)) D241_40 rfl (by decide)).trans ?_
      refine (Q_aload_n zm_241 (Or.inr (by decide)) D241_1211 rfl).trans ?_
      refine (Q_aload_n zm_241 (Or.inr (by decide)) D241_1212 rfl).trans ?_
      refine (Q_iload zm_241 (Or.inr (by decide)) D241_1213 rfl).trans ?_
      refine (Q_iconst (v := 1) zm_241 (Or.inr (by decide)) D241_1215 (by decide)).trans ?_
      refine (Q_iadd zm_241 (Or.inr (by decide)) D241_1216).trans ?_
      refine (Q_sld zm_241 (Or.inr (by decide)) D241_1217 rfl).trans ?_
      refine zand_c (fun h80_ => ?_)
      exact Q_callv (as := [.int (ia 900 ((i4 + (1 : Int32))).toNatClampNeg)]) (b := 0) (rest := []) zm_241 (Or.inr (by decide)) D241_1218 zc_11_138 rfl zk_0.1 (by decide) (by decide +kernel) (by decide) (by simp [zcat, Value.category]) zm_118 rfl
    rw [if_neg h79_]
    by_cases h81_ : ((ia 900 (i4).toNatClampNeg) &&& (63 : Int32)) = 27
    · rw [if_pos h81_]
      refine (congrArg (fun q => zWP (d + 1) 241 40 [some (.ref 900), some (.ref 0), some (.ref 127), some (.ref 169), some (.int i4), none, none] (.int q :: []) (ia, la, zRA pl dr cp cw rp) K) h81_).trans ?_
      refine (Q_tsw (tgt := 1236) zm_241 (Or.inr (by decide)) D241_40 rfl (by decide)).trans ?_
      refine (Q_aload_n zm_241 (Or.inr (by decide)) D241_1236 rfl).trans ?_
      refine (Q_aload_n zm_241 (Or.inr (by decide)) D241_1237 rfl).trans ?_
      refine (Q_iload zm_241 (Or.inr (by decide)) D241_1238 rfl).trans ?_
      refine (Q_iconst (v := 1) zm_241 (Or.inr (by decide)) D241_1240 (by decide)).trans ?_
      refine (Q_iadd zm_241 (Or.inr (by decide)) D241_1241).trans ?_
      refine (Q_sld zm_241 (Or.inr (by decide)) D241_1242 rfl).trans ?_
      refine zand_c (fun h82_ => ?_)
      exact Q_callv (as := [.int (ia 900 ((i4 + (1 : Int32))).toNatClampNeg)]) (b := 0) (rest := []) zm_241 (Or.inr (by decide)) D241_1243 zc_11_142 rfl zk_0.1 (by decide) (by decide +kernel) (by decide) (by simp [zcat, Value.category]) zm_119 rfl
    rw [if_neg h81_]
    by_cases h83_ : ((ia 900 (i4).toNatClampNeg) &&& (63 : Int32)) = 28
    · rw [if_pos h83_]
      refine (congrArg (fun q => zWP (d + 1) 241 40 [some (.ref 900), some (.ref 0), some (.ref 127), some (.ref 169), some (.int i4), none, none] (.int q :: []) (ia, la, zRA pl dr cp cw rp) K) h83_).trans ?_
      refine (Q_tsw (tgt := 1261) zm_241 (Or.inr (by decide)) D241_40 rfl (by decide)).trans ?_
      refine (Q_aload_n zm_241 (Or.inr (by decide)) D241_1261 rfl).trans ?_
      exact Q_callv (as := []) (b := 0) (rest := []) zm_241 (Or.inr (by decide)) D241_1262 zc_11_147 rfl zk_0.1 (by decide) (by decide +kernel) (by decide) (by simp [zcat, Value.category]) zm_120 rfl
    rw [if_neg h83_]
    by_cases h84_ : ((ia 900 (i4).toNatClampNeg) &&& (63 : Int32)) = 29
    · rw [if_pos h84_]
      refine (congrArg (fun q => zWP (d + 1) 241 40 [some (.ref 900), some (.ref 0), some (.ref 127), some (.ref 169), some (.int i4), none, none] (.int q :: []) (ia, la, zRA pl dr cp cw rp) K) h84_).trans ?_
      refine (Q_tsw (tgt := 1274) zm_241 (Or.inr (by decide)) D241_40 rfl (by decide)).trans ?_
      refine (Q_aload_n zm_241 (Or.inr (by decide)) D241_1274 rfl).trans ?_
      refine (Q_aload_n zm_241 (Or.inr (by decide)) D241_1275 rfl).trans ?_
      refine (Q_iload zm_241 (Or.inr (by decide)) D241_1276 rfl).trans ?_
      refine (Q_iconst (v := 1) zm_241 (Or.inr (by decide)) D241_1278 (by decide)).trans ?_
      refine (Q_iadd zm_241 (Or.inr (by decide)) D241_1279).trans ?_
      refine (Q_sld zm_241 (Or.inr (by decide)) D241_1280 rfl).trans ?_
      refine zand_c (fun h85_ => ?_)
      refine (Q_aload_n zm_241 (Or.inr (by decide)) D241_1281 rfl).trans ?_
      refine (Q_iload zm_241 (Or.inr (by decide)) D241_1282 rfl).trans ?_
      refine (Q_iconst (v := 2) zm_241 (Or.inr (by decide)) D241_1284 (by decide)).trans ?_
      refine (Q_iadd zm_241 (Or.inr (by decide)) D241_1285).trans ?_
      refine (Q_sld zm_241 (Or.inr (by decide)) D241_1286 rfl).trans ?_
      refine zand_c (fun h86_ => ?_)
      exact Q_callv (as := [.int (ia 900 ((i4 + (1 : Int32))).toNatClampNeg), .int (ia 900 ((i4 + (2 : Int32))).toNatClampNeg)]) (b := 0) (rest := []) zm_241 (Or.inr (by decide)) D241_1287 zc_11_151 rfl zk_0.1 (by decide) (by decide +kernel) (by decide) (by simp [zcat, Value.category]) zm_122 rfl
    rw [if_neg h84_]
    by_cases h87_ : ((ia 900 (i4).toNatClampNeg) &&& (63 : Int32)) = 30
    · rw [if_pos h87_]
      refine (congrArg (fun q => zWP (d + 1) 241 40 [some (.ref 900), some (.ref 0), some (.ref 127), some (.ref 169), some (.int i4), none, none] (.int q :: []) (ia, la, zRA pl dr cp cw rp) K) h87_).trans ?_
      refine (Q_tsw (tgt := 1311) zm_241 (Or.inr (by decide)) D241_40 rfl (by decide)).trans ?_
      refine (Q_aload_n zm_241 (Or.inr (by decide)) D241_1311 rfl).trans ?_
      refine (Q_aload_n zm_241 (Or.inr (by decide)) D241_1312 rfl).trans ?_
      refine (Q_iload zm_241 (Or.inr (by decide)) D241_1313 rfl).trans ?_
      refine (Q_iconst (v := 1) zm_241 (Or.inr (by decide)) D241_1315 (by decide)).trans ?_
      refine (Q_iadd zm_241 (Or.inr (by decide)) D241_1316).trans ?_
      refine (Q_sld zm_241 (Or.inr (by decide)) D241_1317 rfl).trans ?_
      refine zand_c (fun h88_ => ?_)
      refine (Q_aload_n zm_241 (Or.inr (by decide)) D241_1318 rfl).trans ?_
      refine (Q_iload zm_241 (Or.inr (by decide)) D241_1319 rfl).trans ?_
      refine (Q_iconst (v := 2) zm_241 (Or.inr (by decide)) D241_1321 (by decide)).trans ?_
      refine (Q_iadd zm_241 (Or.inr (by decide)) D241_1322).trans ?_
      refine (Q_sld zm_241 (Or.inr (by decide)) D241_1323 rfl).trans ?_
      refine zand_c (fun h89_ => ?_)
      refine (Q_aload_n zm_241 (Or.inr (by decide)) D241_1324 rfl).trans ?_
      refine (Q_iload zm_241 (Or.inr (by decide)) D241_1325 rfl).trans ?_
      refine (Q_iconst (v := 3) zm_241 (Or.inr (by decide)) D241_1327 (by decide)).trans ?_
      refine (Q_iadd zm_241 (Or.inr (by decide)) D241_1328).trans ?_
      refine (Q_sld zm_241 (Or.inr (by decide)) D241_1329 rfl).trans ?_
      refine zand_c (fun h90_ => ?_)
      exact Q_callv (as := [.int (ia 900 ((i4 + (1 : Int32))).toNatClampNeg), .int (ia 900 ((i4 + (2 : Int32))).toNatClampNeg), .int (ia 900 ((i4 + (3 : Int32))).toNatClampNeg)]) (b := 0) (rest := []) zm_241 (Or.inr (by decide)) D241_1330 zc_11_155 rfl zk_0.1 (by decide) (by decide +kernel) (by decide) (by simp [zcat, Value.category]) zm_115 rfl
    rw [if_neg h87_]
    by_cases h91_ : ((ia 900 (i4).toNatClampNeg) &&& (63 : Int32)) = 31
    · rw [if_pos h91_]
      refine (congrArg (fun q => zWP (d + 1) 241 40 [some (.ref 900), some (.ref 0), some (.ref 127), some (.ref 169), some (.int i4), none, none] (.int q :: []) (ia, la, zRA pl dr cp cw rp) K) h91_).trans ?_
      refine (Q_tsw (tgt := 1360) zm_241 (Or.inr (by decide)) D241_40 rfl (by decide)).trans ?_
      refine (Q_aload_n zm_241 (Or.inr (by decide)) D241_1360 rfl).trans ?_
      refine (Q_aload_n zm_241 (Or.inr (by decide)) D241_1361 rfl).trans ?_
      refine (Q_iload zm_241 (Or.inr (by decide)) D241_1362 rfl).trans ?_
      refine (Q_iconst (v := 1) zm_241 (Or.inr (by decide)) D241_1364 (by decide)).trans ?_
      refine (Q_iadd zm_241 (Or.inr (by decide)) D241_1365).trans ?_
      refine (Q_sld zm_241 (Or.inr (by decide)) D241_1366 rfl).trans ?_
      refine zand_c (fun h92_ => ?_)
      refine (Q_aload_n zm_241 (Or.inr (by decide)) D241_1367 rfl).trans ?_
      refine (Q_iload zm_241 (Or.inr (by decide)) D241_1368 rfl).trans ?_
      refine (Q_iconst (v := 2) zm_241 (Or.inr (by decide)) D241_1370 (by decide)).trans ?_
      refine (Q_iadd zm_241 (Or.inr (by decide)) D241_1371).trans ?_
      refine (Q_sld zm_241 (Or.inr (by decide)) D241_1372 rfl).trans ?_
      refine zand_c (fun h93_ => ?_)
      refine (Q_aload_n zm_241 (Or.inr (by decide)) D241_1373 rfl).trans ?_
      refine (Q_iload zm_241 (Or.inr (by decide)) D241_1374 rfl).trans ?_
      refine (Q_iconst (v := 3) zm_241 (Or.inr (by decide)) D241_1376 (by decide)).trans ?_
      refine (Q_iadd zm_241 (Or.inr (by decide)) D241_1377).trans ?_
      refine (Q_sld zm_241 (Or.inr (by decide)) D241_1378 rfl).trans ?_
      refine zand_c (fun h94_ => ?_)
      exact Q_callv (as := [.int (ia 900 ((i4 + (1 : Int32))).toNatClampNeg), .int (ia 900 ((i4 + (2 : Int32))).toNatClampNeg), .int (ia 900 ((i4 + (3 : Int32))).toNatClampNeg)]) (b := 0) (rest := []) zm_241 (Or.inr (by decide)) D241_1379 zc_11_159 rfl zk_0.1 (by decide) (by decide +kernel) (by decide) (by simp [zcat, Value.category]) zm_116 rfl
    rw [if_neg h91_]
    by_cases h95_ : ((ia 900 (i4).toNatClampNeg) &&& (63 : Int32)) = 32
    · rw [if_pos h95_]
      refine (congrArg (fun q => zWP (d + 1) 241 40 [some (.ref 900), some (.ref 0), some (.ref 127), some (.ref 169), some (.int i4), none, none] (.int q :: []) (ia, la, zRA pl dr cp cw rp) K) h95_).trans ?_
      refine (Q_tsw (tgt := 1409) zm_241 (Or.inr (by decide)) D241_40 rfl (by decide)).trans ?_
      refine (Q_aload_n zm_241 (Or.inr (by decide)) D241_1409 rfl).trans ?_
      exact Q_callv (as := []) (b := 0) (rest := []) zm_241 (Or.inr (by decide)) D241_1410 zc_11_163 rfl zk_0.1 (by decide) (by decide +kernel) (by decide) (by simp [zcat, Value.category]) zm_124 rfl
    rw [if_neg h95_]
    by_cases h96_ : ((ia 900 (i4).toNatClampNeg) &&& (63 : Int32)) = 33
    · rw [if_pos h96_]
      refine (congrArg (fun q => zWP (d + 1) 241 40 [some (.ref 900), some (.ref 0), some (.ref 127), some (.ref 169), some (.int i4), none, none] (.int q :: []) (ia, la, zRA pl dr cp cw rp) K) h96_).trans ?_
      refine (Q_tsw (tgt := 1422) zm_241 (Or.inr (by decide)) D241_40 rfl (by decide)).trans ?_
      refine (Q_aload_n zm_241 (Or.inr (by decide)) D241_1422 rfl).trans ?_
      exact Q_callv (as := []) (b := 0) (rest := []) zm_241 (Or.inr (by decide)) D241_1423 zc_11_167 rfl zk_0.1 (by decide) (by decide +kernel) (by decide) (by simp [zcat, Value.category]) zm_125 rfl
    rw [if_neg h96_]
    by_cases h97_ : ((ia 900 (i4).toNatClampNeg) &&& (63 : Int32)) = 34
    · rw [if_pos h97_]
      refine (congrArg (fun q => zWP (d + 1) 241 40 [some (.ref 900), some (.ref 0), some (.ref 127), some (.ref 169), some (.int i4), none, none] (.int q :: []) (ia, la, zRA pl dr cp cw rp) K) h97_).trans ?_
      refine (Q_tsw (tgt := 1435) zm_241 (Or.inr (by decide)) D241_40 rfl (by decide)).trans ?_
      refine (Q_aload_n zm_241 (Or.inr (by decide)) D241_1435 rfl).trans ?_
      exact Q_callv (as := []) (b := 0) (rest := []) zm_241 (Or.inr (by decide)) D241_1436 zc_11_171 rfl zk_0.1 (by decide) (by decide +kernel) (by decide) (by simp [zcat, Value.category]) zm_126 rfl
    rw [if_neg h97_]
    by_cases h98_ : ((ia 900 (i4).toNatClampNeg) &&& (63 : Int32)) = 35
    · rw [if_pos h98_]
      refine (congrArg (fun q => zWP (d + 1) 241 40 [some (.ref 900), some (.ref 0), some (.ref 127), some (.ref 169), some (.int i4), none, none] (.int q :: []) (ia, la, zRA pl dr cp cw rp) K) h98_).trans ?_
      refine (Q_tsw (tgt := 1448) zm_241 (Or.inr (by decide)) D241_40 rfl (by decide)).trans ?_
      refine (Q_aload_n zm_241 (Or.inr (by decide)) D241_1448 rfl).trans ?_
      refine (Q_aload_n zm_241 (Or.inr (by decide)) D241_1449 rfl).trans ?_
      refine (Q_iload zm_241 (Or.inr (by decide)) D241_1450 rfl).trans ?_
      refine (Q_iconst (v := 1) zm_241 (Or.inr (by decide)) D241_1452 (by decide)).trans ?_
      refine (Q_iadd zm_241 (Or.inr (by decide)) D241_1453).trans ?_
      refine (Q_sld zm_241 (Or.inr (by decide)) D241_1454 rfl).trans ?_
      refine zand_c (fun h99_ => ?_)
      exact Q_callv (as := [.int (ia 900 ((i4 + (1 : Int32))).toNatClampNeg)]) (b := 0) (rest := []) zm_241 (Or.inr (by decide)) D241_1455 zc_11_175 rfl zk_0.1 (by decide) (by decide +kernel) (by decide) (by simp [zcat, Value.category]) zm_127 rfl
    rw [if_neg h98_]
    refine (Q_tsw (tgt := 1473) zm_241 (Or.inr (by decide)) D241_40 (zsw_out (n := 36) (by decide) (fun q hq => ?_)) (by decide)).trans ?_
    · rcases (show q = 0 ∨ q = 1 ∨ q = 2 ∨ q = 3 ∨ q = 4 ∨ q = 5 ∨ q = 6 ∨ q = 7 ∨ q = 8 ∨ q = 9 ∨ q = 10 ∨ q = 11 ∨ q = 12 ∨ q = 13 ∨ q = 14 ∨ q = 15 ∨ q = 16 ∨ q = 17 ∨ q = 18 ∨ q = 19 ∨ q = 20 ∨ q = 21 ∨ q = 22 ∨ q = 23 ∨ q = 24 ∨ q = 25 ∨ q = 26 ∨ q = 27 ∨ q = 28 ∨ q = 29 ∨ q = 30 ∨ q = 31 ∨ q = 32 ∨ q = 33 ∨ q = 34 ∨ q = 35 by omega) with rfl | rfl | rfl | rfl | rfl | rfl | rfl | rfl | rfl | rfl | rfl | rfl | rfl | rfl | rfl | rfl | rfl | rfl | rfl | rfl | rfl | rfl | rfl | rfl | rfl | rfl | rfl | rfl | rfl | rfl | rfl | rfl | rfl | rfl | rfl | rfl
      · exact h2_
      · exact h8_
      · exact h10_
      · exact h12_
      · exact h14_
      · exact h15_
      · exact h18_
      · exact h21_
      · exact h26_
      · exact h31_
      · exact h33_
      · exact h35_
      · exact h37_
      · exact h41_
      · exact h43_
      · exact h46_
      · exact h48_
      · exact h51_
      · exact h53_
      · exact h56_
      · exact h57_
      · exact h60_
      · exact h62_
      · exact h65_
      · exact h69_
      · exact h72_
      · exact h79_
      · exact h81_
      · exact h83_
      · exact h84_
      · exact h87_
      · exact h91_
      · exact h95_
      · exact h96_
      · exact h97_
      · exact h98_
    rfl

theorem b241_234 {d : Nat} {i4 : Int32} {s0 : Int32} {ia : Nat → Nat → Int32} {la : Nat → Nat → Int64} {pl dr : Nat} {cp : Option Nat} {cw : Option Nat} {rp : Option Nat} {K : Option Value → zHP → Prop}  : zWP (d + 1) 241 234 [some (.ref 900), some (.ref 0), some (.ref 127), some (.ref 169), some (.int i4), none, none] [.int s0] (ia, la, zRA pl dr cp cw rp) K = (vp_in (i4 + (1 : Int32)) (ia 901 0).toNatClampNeg ∧ (vp_in (i4 + (2 : Int32)) (ia 901 0).toNatClampNeg ∧ (vp_in (i4 + (3 : Int32)) (ia 901 0).toNatClampNeg ∧ (vp_in (i4 + (4 : Int32)) (ia 901 0).toNatClampNeg ∧ (vp_in (i4 + (5 : Int32)) (ia 901 0).toNatClampNeg ∧ zWM d 129 [.ref 127, .int (ia 900 ((i4 + (1 : Int32))).toNatClampNeg), .int (ia 900 ((i4 + (2 : Int32))).toNatClampNeg), .int (ia 900 ((i4 + (3 : Int32))).toNatClampNeg), .int (ia 900 ((i4 + (4 : Int32))).toNatClampNeg), .int (ia 900 ((i4 + (5 : Int32))).toNatClampNeg)] (ia, la, zRA pl dr cp cw rp) (zK (d + 1) 241 268 [some (.ref 900), some (.ref 0), some (.ref 127), some (.ref 169), some (.int i4), none, none] [.int s0] K)))))) := by
  refine (Q_aload_n zm_241 (Or.inr (by decide)) D241_234 rfl).trans ?_
  refine (Q_aload_n zm_241 (Or.inr (by decide)) D241_235 rfl).trans ?_
  refine (Q_iload zm_241 (Or.inr (by decide)) D241_236 rfl).trans ?_
  refine (Q_iconst (v := 1) zm_241 (Or.inr (by decide)) D241_238 (by decide)).trans ?_
  refine (Q_iadd zm_241 (Or.inr (by decide)) D241_239).trans ?_
  refine (Q_sld zm_241 (Or.inr (by decide)) D241_240 rfl).trans ?_
  refine zand_c (fun h0_ => ?_)
  refine (Q_aload_n zm_241 (Or.inr (by decide)) D241_241 rfl).trans ?_
  refine (Q_iload zm_241 (Or.inr (by decide)) D241_242 rfl).trans ?_
  refine (Q_iconst (v := 2) zm_241 (Or.inr (by decide)) D241_244 (by decide)).trans ?_
  refine (Q_iadd zm_241 (Or.inr (by decide)) D241_245).trans ?_
  refine (Q_sld zm_241 (Or.inr (by decide)) D241_246 rfl).trans ?_
  refine zand_c (fun h1_ => ?_)
  refine (Q_aload_n zm_241 (Or.inr (by decide)) D241_247 rfl).trans ?_
  refine (Q_iload zm_241 (Or.inr (by decide)) D241_248 rfl).trans ?_
  refine (Q_iconst (v := 3) zm_241 (Or.inr (by decide)) D241_250 (by decide)).trans ?_
  refine (Q_iadd zm_241 (Or.inr (by decide)) D241_251).trans ?_
  refine (Q_sld zm_241 (Or.inr (by decide)) D241_252 rfl).trans ?_
  refine zand_c (fun h2_ => ?_)
  refine (Q_aload_n zm_241 (Or.inr (by decide)) D241_253 rfl).trans ?_
  refine (Q_iload zm_241 (Or.inr (by decide)) D241_254 rfl).trans ?_
  refine (Q_iconst (v := 4) zm_241 (Or.inr (by decide)) D241_256 (by decide)).trans ?_
  refine (Q_iadd zm_241 (Or.inr (by decide)) D241_257).trans ?_
  refine (Q_sld zm_241 (Or.inr (by decide)) D241_258 rfl).trans ?_
  refine zand_c (fun h3_ => ?_)
  refine (Q_aload_n zm_241 (Or.inr (by decide)) D241_259 rfl).trans ?_
  refine (Q_iload zm_241 (Or.inr (by decide)) D241_260 rfl).trans ?_
  refine (Q_iconst (v := 5) zm_241 (Or.inr (by decide)) D241_262 (by decide)).trans ?_
  refine (Q_iadd zm_241 (Or.inr (by decide)) D241_263).trans ?_
  refine (Q_sld zm_241 (Or.inr (by decide)) D241_264 rfl).trans ?_
  refine zand_c (fun h4_ => ?_)
  exact Q_callv (as := [.int (ia 900 ((i4 + (1 : Int32))).toNatClampNeg), .int (ia 900 ((i4 + (2 : Int32))).toNatClampNeg), .int (ia 900 ((i4 + (3 : Int32))).toNatClampNeg), .int (ia 900 ((i4 + (4 : Int32))).toNatClampNeg), .int (ia 900 ((i4 + (5 : Int32))).toNatClampNeg)]) (b := 127) (rest := [.int s0]) zm_241 (Or.inr (by decide)) D241_265 zc_11_25 rfl zk_127.1 (by decide) (by decide +kernel) (by decide) (by simp [zcat, Value.category]) zm_129 rfl

theorem b241_283 {d : Nat} {i4 : Int32} {s0 : Int32} {ia : Nat → Nat → Int32} {la : Nat → Nat → Int64} {pl dr : Nat} {cp : Option Nat} {cw : Option Nat} {rp : Option Nat} {K : Option Value → zHP → Prop}  : zWP (d + 1) 241 283 [some (.ref 900), some (.ref 0), some (.ref 127), some (.ref 169), some (.int i4), none, none] [.int s0] (ia, la, zRA pl dr cp cw rp) K = (vp_in (i4 + (1 : Int32)) (ia 901 0).toNatClampNeg ∧ zWM d 161 [.ref 127, .int (ia 900 ((i4 + (1 : Int32))).toNatClampNeg)] (ia, la, zRA pl dr cp cw rp) (zK (d + 1) 241 293 [some (.ref 900), some (.ref 0), some (.ref 127), some (.ref 169), some (.int i4), none, none] [.int s0] K)) := by
  refine (Q_aload_n zm_241 (Or.inr (by decide)) D241_283 rfl).trans ?_
  refine (Q_aload_n zm_241 (Or.inr (by decide)) D241_284 rfl).trans ?_
  refine (Q_iload zm_241 (Or.inr (by decide)) D241_285 rfl).trans ?_
  refine (Q_iconst (v := 1) zm_241 (Or.inr (by decide)) D241_287 (by decide)).trans ?_
  refine (Q_iadd zm_241 (Or.inr (by decide)) D241_288).trans ?_
  refine (Q_sld zm_241 (Or.inr (by decide)) D241_289 rfl).trans ?_
  refine zand_c (fun h0_ => ?_)
  exact Q_callv (as := [.int (ia 900 ((i4 + (1 : Int32))).toNatClampNeg)]) (b := 127) (rest := [.int s0]) zm_241 (Or.inr (by decide)) D241_290 zc_11_30 rfl zk_127.1 (by decide) (by decide +kernel) (by decide) (by simp [zcat, Value.category]) zm_161 rfl

theorem b241_308 {d : Nat} {i4 : Int32} {s0 : Int32} {ia : Nat → Nat → Int32} {la : Nat → Nat → Int64} {pl dr : Nat} {cp : Option Nat} {cw : Option Nat} {rp : Option Nat} {K : Option Value → zHP → Prop}  : zWP (d + 1) 241 308 [some (.ref 900), some (.ref 0), some (.ref 127), some (.ref 169), some (.int i4), none, none] [.int s0] (ia, la, zRA pl dr cp cw rp) K = (vp_in (i4 + (1 : Int32)) (ia 901 0).toNatClampNeg ∧ zWM d 162 [.ref 127, .int (ia 900 ((i4 + (1 : Int32))).toNatClampNeg)] (ia, la, zRA pl dr cp cw rp) (zK (d + 1) 241 318 [some (.ref 900), some (.ref 0), some (.ref 127), some (.ref 169), some (.int i4), none, none] [.int s0] K)) := by
  refine (Q_aload_n zm_241 (Or.inr (by decide)) D241_308 rfl).trans ?_
  refine (Q_aload_n zm_241 (Or.inr (by decide)) D241_309 rfl).trans ?_
  refine (Q_iload zm_241 (Or.inr (by decide)) D241_310 rfl).trans ?_
  refine (Q_iconst (v := 1) zm_241 (Or.inr (by decide)) D241_312 (by decide)).trans ?_
  refine (Q_iadd zm_241 (Or.inr (by decide)) D241_313).trans ?_
  refine (Q_sld zm_241 (Or.inr (by decide)) D241_314 rfl).trans ?_
  refine zand_c (fun h0_ => ?_)
  exact Q_callv (as := [.int (ia 900 ((i4 + (1 : Int32))).toNatClampNeg)]) (b := 127) (rest := [.int s0]) zm_241 (Or.inr (by decide)) D241_315 zc_11_34 rfl zk_127.1 (by decide) (by decide +kernel) (by decide) (by simp [zcat, Value.category]) zm_162 rfl

theorem b241_333 {d : Nat} {i4 : Int32} {s0 : Int32} {ia : Nat → Nat → Int32} {la : Nat → Nat → Int64} {pl dr : Nat} {cp : Option Nat} {cw : Option Nat} {rp : Option Nat} {K : Option Value → zHP → Prop}  : zWP (d + 1) 241 333 [some (.ref 900), some (.ref 0), some (.ref 127), some (.ref 169), some (.int i4), none, none] [.int s0] (ia, la, zRA pl dr cp cw rp) K = (vp_in (i4 + (1 : Int32)) (ia 901 0).toNatClampNeg ∧ zWM d 163 [.ref 127, .int (ia 900 ((i4 + (1 : Int32))).toNatClampNeg)] (ia, la, zRA pl dr cp cw rp) (zK (d + 1) 241 343 [some (.ref 900), some (.ref 0), some (.ref 127), some (.ref 169), some (.int i4), none, none] [.int s0] K)) := by
  refine (Q_aload_n zm_241 (Or.inr (by decide)) D241_333 rfl).trans ?_
  refine (Q_aload_n zm_241 (Or.inr (by decide)) D241_334 rfl).trans ?_
  refine (Q_iload zm_241 (Or.inr (by decide)) D241_335 rfl).trans ?_
  refine (Q_iconst (v := 1) zm_241 (Or.inr (by decide)) D241_337 (by decide)).trans ?_
  refine (Q_iadd zm_241 (Or.inr (by decide)) D241_338).trans ?_
  refine (Q_sld zm_241 (Or.inr (by decide)) D241_339 rfl).trans ?_
  refine zand_c (fun h0_ => ?_)
  exact Q_callv (as := [.int (ia 900 ((i4 + (1 : Int32))).toNatClampNeg)]) (b := 127) (rest := [.int s0]) zm_241 (Or.inr (by decide)) D241_340 zc_11_38 rfl zk_127.1 (by decide) (by decide +kernel) (by decide) (by simp [zcat, Value.category]) zm_163 rfl

theorem b241_432 {d : Nat} {i4 : Int32} {s0 : Int32} {ia : Nat → Nat → Int32} {la : Nat → Nat → Int64} {pl dr : Nat} {cp : Option Nat} {cw : Option Nat} {rp : Option Nat} {K : Option Value → zHP → Prop}  : zWP (d + 1) 241 432 [some (.ref 900), some (.ref 0), some (.ref 127), some (.ref 169), some (.int i4), none, none] [.int s0] (ia, la, zRA pl dr cp cw rp) K = (vp_in (i4 + (1 : Int32)) (ia 901 0).toNatClampNeg ∧ (vp_in (i4 + (2 : Int32)) (ia 901 0).toNatClampNeg ∧ zWM d 193 [.ref 127, .int (ia 900 ((i4 + (1 : Int32))).toNatClampNeg), .int (ia 900 ((i4 + (2 : Int32))).toNatClampNeg)] (ia, la, zRA pl dr cp cw rp) (zK (d + 1) 241 448 [some (.ref 900), some (.ref 0), some (.ref 127), some (.ref 169), some (.int i4), none, none] [.int s0] K))) := by
  refine (Q_aload_n zm_241 (Or.inr (by decide)) D241_432 rfl).trans ?_
  refine (Q_aload_n zm_241 (Or.inr (by decide)) D241_433 rfl).trans ?_
  refine (Q_iload zm_241 (Or.inr (by decide)) D241_434 rfl).trans ?_
  refine (Q_iconst (v := 1) zm_241 (Or.inr (by decide)) D241_436 (by decide)).trans ?_
  refine (Q_iadd zm_241 (Or.inr (by decide)) D241_437).trans ?_
  refine (Q_sld zm_241 (Or.inr (by decide)) D241_438 rfl).trans ?_
  refine zand_c (fun h0_ => ?_)
  refine (Q_aload_n zm_241 (Or.inr (by decide)) D241_439 rfl).trans ?_
  refine (Q_iload zm_241 (Or.inr (by decide)) D241_440 rfl).trans ?_
  refine (Q_iconst (v := 2) zm_241 (Or.inr (by decide)) D241_442 (by decide)).trans ?_
  refine (Q_iadd zm_241 (Or.inr (by decide)) D241_443).trans ?_
  refine (Q_sld zm_241 (Or.inr (by decide)) D241_444 rfl).trans ?_
  refine zand_c (fun h1_ => ?_)
  exact Q_callv (as := [.int (ia 900 ((i4 + (1 : Int32))).toNatClampNeg), .int (ia 900 ((i4 + (2 : Int32))).toNatClampNeg)]) (b := 127) (rest := [.int s0]) zm_241 (Or.inr (by decide)) D241_445 zc_11_52 rfl zk_127.1 (by decide) (by decide +kernel) (by decide) (by simp [zcat, Value.category]) zm_193 rfl

theorem b241_469 {d : Nat} {i4 : Int32} {s0 : Int32} {ia : Nat → Nat → Int32} {la : Nat → Nat → Int64} {pl dr : Nat} {cp : Option Nat} {cw : Option Nat} {rp : Option Nat} {K : Option Value → zHP → Prop}  : zWP (d + 1) 241 469 [some (.ref 900), some (.ref 0), some (.ref 127), some (.ref 169), some (.int i4), none, none] [.int s0] (ia, la, zRA pl dr cp cw rp) K = (vp_in (i4 + (1 : Int32)) (ia 901 0).toNatClampNeg ∧ (vp_in (i4 + (2 : Int32)) (ia 901 0).toNatClampNeg ∧ zWM d 194 [.ref 127, .int (ia 900 ((i4 + (1 : Int32))).toNatClampNeg), .int (ia 900 ((i4 + (2 : Int32))).toNatClampNeg)] (ia, la, zRA pl dr cp cw rp) (zK (d + 1) 241 485 [some (.ref 900), some (.ref 0), some (.ref 127), some (.ref 169), some (.int i4), none, none] [.int s0] K))) := by
  refine (Q_aload_n zm_241 (Or.inr (by decide)) D241_469 rfl).trans ?_
  refine (Q_aload_n zm_241 (Or.inr (by decide)) D241_470 rfl).trans ?_
  refine (Q_iload zm_241 (Or.inr (by decide)) D241_471 rfl).trans ?_
  refine (Q_iconst (v := 1) zm_241 (Or.inr (by decide)) D241_473 (by decide)).trans ?_
  refine (Q_iadd zm_241 (Or.inr (by decide)) D241_474).trans ?_
  refine (Q_sld zm_241 (Or.inr (by decide)) D241_475 rfl).trans ?_
  refine zand_c (fun h0_ => ?_)
  refine (Q_aload_n zm_241 (Or.inr (by decide)) D241_476 rfl).trans ?_
  refine (Q_iload zm_241 (Or.inr (by decide)) D241_477 rfl).trans ?_
  refine (Q_iconst (v := 2) zm_241 (Or.inr (by decide)) D241_479 (by decide)).trans ?_
  refine (Q_iadd zm_241 (Or.inr (by decide)) D241_480).trans ?_
  refine (Q_sld zm_241 (Or.inr (by decide)) D241_481 rfl).trans ?_
  refine zand_c (fun h1_ => ?_)
  exact Q_callv (as := [.int (ia 900 ((i4 + (1 : Int32))).toNatClampNeg), .int (ia 900 ((i4 + (2 : Int32))).toNatClampNeg)]) (b := 127) (rest := [.int s0]) zm_241 (Or.inr (by decide)) D241_482 zc_11_56 rfl zk_127.1 (by decide) (by decide +kernel) (by decide) (by simp [zcat, Value.category]) zm_194 rfl

theorem b241_518 {d : Nat} {i4 : Int32} {t0 : Int64} {ia : Nat → Nat → Int32} {la : Nat → Nat → Int64} {pl dr : Nat} {cp : Option Nat} {cw : Option Nat} {rp : Option Nat} {K : Option Value → zHP → Prop}  : zWP (d + 1) 241 518 [some (.ref 900), some (.ref 0), some (.ref 127), some (.ref 169), some (.int i4), none, none] [.long t0] (ia, la, zRA pl dr cp cw rp) K = (vp_in (i4 + (1 : Int32)) (ia 901 0).toNatClampNeg ∧ (vp_in (i4 + (2 : Int32)) (ia 901 0).toNatClampNeg ∧ (vp_in (i4 + (3 : Int32)) (ia 901 0).toNatClampNeg ∧ (vp_in (i4 + (4 : Int32)) (ia 901 0).toNatClampNeg ∧ zWM d 195 [.ref 127, .int (ia 900 ((i4 + (1 : Int32))).toNatClampNeg), .int (ia 900 ((i4 + (2 : Int32))).toNatClampNeg), .int (ia 900 ((i4 + (3 : Int32))).toNatClampNeg), .int (ia 900 ((i4 + (4 : Int32))).toNatClampNeg)] (ia, la, zRA pl dr cp cw rp) (zK (d + 1) 241 546 [some (.ref 900), some (.ref 0), some (.ref 127), some (.ref 169), some (.int i4), none, none] [.long t0] K))))) := by
  refine (Q_aload_n zm_241 (Or.inr (by decide)) D241_518 rfl).trans ?_
  refine (Q_aload_n zm_241 (Or.inr (by decide)) D241_519 rfl).trans ?_
  refine (Q_iload zm_241 (Or.inr (by decide)) D241_520 rfl).trans ?_
  refine (Q_iconst (v := 1) zm_241 (Or.inr (by decide)) D241_522 (by decide)).trans ?_
  refine (Q_iadd zm_241 (Or.inr (by decide)) D241_523).trans ?_
  refine (Q_sld zm_241 (Or.inr (by decide)) D241_524 rfl).trans ?_
  refine zand_c (fun h0_ => ?_)
  refine (Q_aload_n zm_241 (Or.inr (by decide)) D241_525 rfl).trans ?_
  refine (Q_iload zm_241 (Or.inr (by decide)) D241_526 rfl).trans ?_
  refine (Q_iconst (v := 2) zm_241 (Or.inr (by decide)) D241_528 (by decide)).trans ?_
  refine (Q_iadd zm_241 (Or.inr (by decide)) D241_529).trans ?_
  refine (Q_sld zm_241 (Or.inr (by decide)) D241_530 rfl).trans ?_
  refine zand_c (fun h1_ => ?_)
  refine (Q_aload_n zm_241 (Or.inr (by decide)) D241_531 rfl).trans ?_
  refine (Q_iload zm_241 (Or.inr (by decide)) D241_532 rfl).trans ?_
  refine (Q_iconst (v := 3) zm_241 (Or.inr (by decide)) D241_534 (by decide)).trans ?_
  refine (Q_iadd zm_241 (Or.inr (by decide)) D241_535).trans ?_
  refine (Q_sld zm_241 (Or.inr (by decide)) D241_536 rfl).trans ?_
  refine zand_c (fun h2_ => ?_)
  refine (Q_aload_n zm_241 (Or.inr (by decide)) D241_537 rfl).trans ?_
  refine (Q_iload zm_241 (Or.inr (by decide)) D241_538 rfl).trans ?_
  refine (Q_iconst (v := 4) zm_241 (Or.inr (by decide)) D241_540 (by decide)).trans ?_
  refine (Q_iadd zm_241 (Or.inr (by decide)) D241_541).trans ?_
  refine (Q_sld zm_241 (Or.inr (by decide)) D241_542 rfl).trans ?_
  refine zand_c (fun h3_ => ?_)
  exact Q_callv (as := [.int (ia 900 ((i4 + (1 : Int32))).toNatClampNeg), .int (ia 900 ((i4 + (2 : Int32))).toNatClampNeg), .int (ia 900 ((i4 + (3 : Int32))).toNatClampNeg), .int (ia 900 ((i4 + (4 : Int32))).toNatClampNeg)]) (b := 127) (rest := [.long t0]) zm_241 (Or.inr (by decide)) D241_543 zc_11_61 rfl zk_127.1 (by decide) (by decide +kernel) (by decide) (by simp [zcat, Value.category]) zm_195 rfl

theorem b241_580 {d : Nat} {i4 : Int32} {s0 : Int32} {ia : Nat → Nat → Int32} {la : Nat → Nat → Int64} {pl dr : Nat} {cp : Option Nat} {cw : Option Nat} {rp : Option Nat} {K : Option Value → zHP → Prop}  : zWP (d + 1) 241 580 [some (.ref 900), some (.ref 0), some (.ref 127), some (.ref 169), some (.int i4), none, none] [.int s0] (ia, la, zRA pl dr cp cw rp) K = (vp_in (i4 + (1 : Int32)) (ia 901 0).toNatClampNeg ∧ (vp_in (i4 + (2 : Int32)) (ia 901 0).toNatClampNeg ∧ (vp_in (i4 + (3 : Int32)) (ia 901 0).toNatClampNeg ∧ (vp_in (i4 + (4 : Int32)) (ia 901 0).toNatClampNeg ∧ zWM d 197 [.ref 127, .int (ia 900 ((i4 + (1 : Int32))).toNatClampNeg), .int (ia 900 ((i4 + (2 : Int32))).toNatClampNeg), .int (ia 900 ((i4 + (3 : Int32))).toNatClampNeg), .int (ia 900 ((i4 + (4 : Int32))).toNatClampNeg)] (ia, la, zRA pl dr cp cw rp) (zK (d + 1) 241 608 [some (.ref 900), some (.ref 0), some (.ref 127), some (.ref 169), some (.int i4), none, none] [.int s0] K))))) := by
  refine (Q_aload_n zm_241 (Or.inr (by decide)) D241_580 rfl).trans ?_
  refine (Q_aload_n zm_241 (Or.inr (by decide)) D241_581 rfl).trans ?_
  refine (Q_iload zm_241 (Or.inr (by decide)) D241_582 rfl).trans ?_
  refine (Q_iconst (v := 1) zm_241 (Or.inr (by decide)) D241_584 (by decide)).trans ?_
  refine (Q_iadd zm_241 (Or.inr (by decide)) D241_585).trans ?_
  refine (Q_sld zm_241 (Or.inr (by decide)) D241_586 rfl).trans ?_
  refine zand_c (fun h0_ => ?_)
  refine (Q_aload_n zm_241 (Or.inr (by decide)) D241_587 rfl).trans ?_
  refine (Q_iload zm_241 (Or.inr (by decide)) D241_588 rfl).trans ?_
  refine (Q_iconst (v := 2) zm_241 (Or.inr (by decide)) D241_590 (by decide)).trans ?_
  refine (Q_iadd zm_241 (Or.inr (by decide)) D241_591).trans ?_
  refine (Q_sld zm_241 (Or.inr (by decide)) D241_592 rfl).trans ?_
  refine zand_c (fun h1_ => ?_)
  refine (Q_aload_n zm_241 (Or.inr (by decide)) D241_593 rfl).trans ?_
  refine (Q_iload zm_241 (Or.inr (by decide)) D241_594 rfl).trans ?_
  refine (Q_iconst (v := 3) zm_241 (Or.inr (by decide)) D241_596 (by decide)).trans ?_
  refine (Q_iadd zm_241 (Or.inr (by decide)) D241_597).trans ?_
  refine (Q_sld zm_241 (Or.inr (by decide)) D241_598 rfl).trans ?_
  refine zand_c (fun h2_ => ?_)
  refine (Q_aload_n zm_241 (Or.inr (by decide)) D241_599 rfl).trans ?_
  refine (Q_iload zm_241 (Or.inr (by decide)) D241_600 rfl).trans ?_
  refine (Q_iconst (v := 4) zm_241 (Or.inr (by decide)) D241_602 (by decide)).trans ?_
  refine (Q_iadd zm_241 (Or.inr (by decide)) D241_603).trans ?_
  refine (Q_sld zm_241 (Or.inr (by decide)) D241_604 rfl).trans ?_
  refine zand_c (fun h3_ => ?_)
  exact Q_callv (as := [.int (ia 900 ((i4 + (1 : Int32))).toNatClampNeg), .int (ia 900 ((i4 + (2 : Int32))).toNatClampNeg), .int (ia 900 ((i4 + (3 : Int32))).toNatClampNeg), .int (ia 900 ((i4 + (4 : Int32))).toNatClampNeg)]) (b := 127) (rest := [.int s0]) zm_241 (Or.inr (by decide)) D241_605 zc_11_66 rfl zk_127.1 (by decide) (by decide +kernel) (by decide) (by simp [zcat, Value.category]) zm_197 rfl

theorem b241_623 {d : Nat} {i4 : Int32} {s0 : Int32} {ia : Nat → Nat → Int32} {la : Nat → Nat → Int64} {pl dr : Nat} {cp : Option Nat} {cw : Option Nat} {rp : Option Nat} {K : Option Value → zHP → Prop}  : zWP (d + 1) 241 623 [some (.ref 900), some (.ref 0), some (.ref 127), some (.ref 169), some (.int i4), none, none] [.int s0] (ia, la, zRA pl dr cp cw rp) K = (vp_in (i4 + (1 : Int32)) (ia 901 0).toNatClampNeg ∧ zWM d 198 [.ref 127, .int (ia 900 ((i4 + (1 : Int32))).toNatClampNeg)] (ia, la, zRA pl dr cp cw rp) (zK (d + 1) 241 633 [some (.ref 900), some (.ref 0), some (.ref 127), some (.ref 169), some (.int i4), none, none] [.int s0] K)) := by
  refine (Q_aload_n zm_241 (Or.inr (by decide)) D241_623 rfl).trans ?_
  refine (Q_aload_n zm_241 (Or.inr (by decide)) D241_624 rfl).trans ?_
  refine (Q_iload zm_241 (Or.inr (by decide)) D241_625 rfl).trans ?_
  refine (Q_iconst (v := 1) zm_241 (Or.inr (by decide)) D241_627 (by decide)).trans ?_
  refine (Q_iadd zm_241 (Or.inr (by decide)) D241_628).trans ?_
  refine (Q_sld zm_241 (Or.inr (by decide)) D241_629 rfl).trans ?_
  refine zand_c (fun h0_ => ?_)
  exact Q_callv (as := [.int (ia 900 ((i4 + (1 : Int32))).toNatClampNeg)]) (b := 127) (rest := [.int s0]) zm_241 (Or.inr (by decide)) D241_630 zc_11_70 rfl zk_127.1 (by decide) (by decide +kernel) (by decide) (by simp [zcat, Value.category]) zm_198 rfl

theorem b241_648 {d : Nat} {i4 : Int32} {s0 : Int32} {ia : Nat → Nat → Int32} {la : Nat → Nat → Int64} {pl dr : Nat} {cp : Option Nat} {cw : Option Nat} {rp : Option Nat} {K : Option Value → zHP → Prop}  : zWP (d + 1) 241 648 [some (.ref 900), some (.ref 0), some (.ref 127), some (.ref 169), some (.int i4), none, none] [.int s0] (ia, la, zRA pl dr cp cw rp) K = (vp_in (i4 + (1 : Int32)) (ia 901 0).toNatClampNeg ∧ zWM d 200 [.ref 127, .int (ia 900 ((i4 + (1 : Int32))).toNatClampNeg)] (ia, la, zRA pl dr cp cw rp) (zK (d + 1) 241 658 [some (.ref 900), some (.ref 0), some (.ref 127), some (.ref 169), some (.int i4), none, none] [.int s0] K)) := by
  refine (Q_aload_n zm_241 (Or.inr (by decide)) D241_648 rfl).trans ?_
  refine (Q_aload_n zm_241 (Or.inr (by decide)) D241_649 rfl).trans ?_
  refine (Q_iload zm_241 (Or.inr (by decide)) D241_650 rfl).trans ?_
  refine (Q_iconst (v := 1) zm_241 (Or.inr (by decide)) D241_652 (by decide)).trans ?_
  refine (Q_iadd zm_241 (Or.inr (by decide)) D241_653).trans ?_
  refine (Q_sld zm_241 (Or.inr (by decide)) D241_654 rfl).trans ?_
  refine zand_c (fun h0_ => ?_)
  exact Q_callv (as := [.int (ia 900 ((i4 + (1 : Int32))).toNatClampNeg)]) (b := 127) (rest := [.int s0]) zm_241 (Or.inr (by decide)) D241_655 zc_11_74 rfl zk_127.1 (by decide) (by decide +kernel) (by decide) (by simp [zcat, Value.category]) zm_200 rfl

theorem b241_673 {d : Nat} {i4 : Int32} {s0 : Int32} {ia : Nat → Nat → Int32} {la : Nat → Nat → Int64} {pl dr : Nat} {cp : Option Nat} {cw : Option Nat} {rp : Option Nat} {K : Option Value → zHP → Prop}  : zWP (d + 1) 241 673 [some (.ref 900), some (.ref 0), some (.ref 127), some (.ref 169), some (.int i4), none, none] [.int s0] (ia, la, zRA pl dr cp cw rp) K = (vp_in (i4 + (1 : Int32)) (ia 901 0).toNatClampNeg ∧ zWM d 201 [.ref 127, .int (ia 900 ((i4 + (1 : Int32))).toNatClampNeg)] (ia, la, zRA pl dr cp cw rp) (zK (d + 1) 241 683 [some (.ref 900), some (.ref 0), some (.ref 127), some (.ref 169), some (.int i4), none, none] [.int s0] K)) := by
  refine (Q_aload_n zm_241 (Or.inr (by decide)) D241_673 rfl).trans ?_
  refine (Q_aload_n zm_241 (Or.inr (by decide)) D241_674 rfl).trans ?_
  refine (Q_iload zm_241 (Or.inr (by decide)) D241_675 rfl).trans ?_
  refine (Q_iconst (v := 1) zm_241 (Or.inr (by decide)) D241_677 (by decide)).trans ?_
  refine (Q_iadd zm_241 (Or.inr (by decide)) D241_678).trans ?_
  refine (Q_sld zm_241 (Or.inr (by decide)) D241_679 rfl).trans ?_
  refine zand_c (fun h0_ => ?_)
  exact Q_callv (as := [.int (ia 900 ((i4 + (1 : Int32))).toNatClampNeg)]) (b := 127) (rest := [.int s0]) zm_241 (Or.inr (by decide)) D241_680 zc_11_78 rfl zk_127.1 (by decide) (by decide +kernel) (by decide) (by simp [zcat, Value.category]) zm_201 rfl

theorem b241_710 {d : Nat} {i4 : Int32} {s0 : Int32} {ia : Nat → Nat → Int32} {la : Nat → Nat → Int64} {pl dr : Nat} {cp : Option Nat} {cw : Option Nat} {rp : Option Nat} {K : Option Value → zHP → Prop}  : zWP (d + 1) 241 710 [some (.ref 900), some (.ref 0), some (.ref 127), some (.ref 169), some (.int i4), none, none] [.int s0] (ia, la, zRA pl dr cp cw rp) K = (vp_in (i4 + (1 : Int32)) (ia 901 0).toNatClampNeg ∧ (vp_in (i4 + (2 : Int32)) (ia 901 0).toNatClampNeg ∧ (vp_in (i4 + (3 : Int32)) (ia 901 0).toNatClampNeg ∧ zWM d 202 [.ref 127, .int (ia 900 ((i4 + (1 : Int32))).toNatClampNeg), .int (ia 900 ((i4 + (2 : Int32))).toNatClampNeg), .int (ia 900 ((i4 + (3 : Int32))).toNatClampNeg)] (ia, la, zRA pl dr cp cw rp) (zK (d + 1) 241 732 [some (.ref 900), some (.ref 0), some (.ref 127), some (.ref 169), some (.int i4), none, none] [.int s0] K)))) := by
  refine (Q_aload_n zm_241 (Or.inr (by decide)) D241_710 rfl).trans ?_
  refine (Q_aload_n zm_241 (Or.inr (by decide)) D241_711 rfl).trans ?_
  refine (Q_iload zm_241 (Or.inr (by decide)) D241_712 rfl).trans ?_
  refine (Q_iconst (v := 1) zm_241 (Or.inr (by decide)) D241_714 (by decide)).trans ?_
  refine (Q_iadd zm_241 (Or.inr (by decide)) D241_715).trans ?_
  refine (Q_sld zm_241 (Or.inr (by decide)) D241_716 rfl).trans ?_
  refine zand_c (fun h0_ => ?_)
  refine (Q_aload_n zm_241 (Or.inr (by decide)) D241_717 rfl).trans ?_
  refine (Q_iload zm_241 (Or.inr (by decide)) D241_718 rfl).trans ?_
  refine (Q_iconst (v := 2) zm_241 (Or.inr (by decide)) D241_720 (by decide)).trans ?_
  refine (Q_iadd zm_241 (Or.inr (by decide)) D241_721).trans ?_
  refine (Q_sld zm_241 (Or.inr (by decide)) D241_722 rfl).trans ?_
  refine zand_c (fun h1_ => ?_)
  refine (Q_aload_n zm_241 (Or.inr (by decide)) D241_723 rfl).trans ?_
  refine (Q_iload zm_241 (Or.inr (by decide)) D241_724 rfl).trans ?_
  refine (Q_iconst (v := 3) zm_241 (Or.inr (by decide)) D241_726 (by decide)).trans ?_
  refine (Q_iadd zm_241 (Or.inr (by decide)) D241_727).trans ?_
  refine (Q_sld zm_241 (Or.inr (by decide)) D241_728 rfl).trans ?_
  refine zand_c (fun h2_ => ?_)
  exact Q_callv (as := [.int (ia 900 ((i4 + (1 : Int32))).toNatClampNeg), .int (ia 900 ((i4 + (2 : Int32))).toNatClampNeg), .int (ia 900 ((i4 + (3 : Int32))).toNatClampNeg)]) (b := 127) (rest := [.int s0]) zm_241 (Or.inr (by decide)) D241_729 zc_11_83 rfl zk_127.1 (by decide) (by decide +kernel) (by decide) (by simp [zcat, Value.category]) zm_202 rfl

theorem b241_747 {d : Nat} {i4 : Int32} {s0 : Int32} {ia : Nat → Nat → Int32} {la : Nat → Nat → Int64} {pl dr : Nat} {cp : Option Nat} {cw : Option Nat} {rp : Option Nat} {K : Option Value → zHP → Prop}  : zWP (d + 1) 241 747 [some (.ref 900), some (.ref 0), some (.ref 127), some (.ref 169), some (.int i4), none, none] [.int s0] (ia, la, zRA pl dr cp cw rp) K = (vp_in (i4 + (1 : Int32)) (ia 901 0).toNatClampNeg ∧ zWM d 203 [.ref 127, .int (ia 900 ((i4 + (1 : Int32))).toNatClampNeg)] (ia, la, zRA pl dr cp cw rp) (zK (d + 1) 241 757 [some (.ref 900), some (.ref 0), some (.ref 127), some (.ref 169), some (.int i4), none, none] [.int s0] K)) := by
  refine (Q_aload_n zm_241 (Or.inr (by decide)) D241_747 rfl).trans ?_
  refine (Q_aload_n zm_241 (Or.inr (by decide)) D241_748 rfl).trans ?_
  refine (Q_iload zm_241 (Or.inr (by decide)) D241_749 rfl).trans ?_
  refine (Q_iconst (v := 1) zm_241 (Or.inr (by decide)) D241_751 (by decide)).trans ?_
  refine (Q_iadd zm_241 (Or.inr (by decide)) D241_752).trans ?_
  refine (Q_sld zm_241 (Or.inr (by decide)) D241_753 rfl).trans ?_
  refine zand_c (fun h0_ => ?_)
  exact Q_callv (as := [.int (ia 900 ((i4 + (1 : Int32))).toNatClampNeg)]) (b := 127) (rest := [.int s0]) zm_241 (Or.inr (by decide)) D241_754 zc_11_87 rfl zk_127.1 (by decide) (by decide +kernel) (by decide) (by simp [zcat, Value.category]) zm_203 rfl

theorem b241_778 {d : Nat} {i4 : Int32} {s0 : Int32} {ia : Nat → Nat → Int32} {la : Nat → Nat → Int64} {pl dr : Nat} {cp : Option Nat} {cw : Option Nat} {rp : Option Nat} {K : Option Value → zHP → Prop}  : zWP (d + 1) 241 778 [some (.ref 900), some (.ref 0), some (.ref 127), some (.ref 169), some (.int i4), none, none] [.int s0] (ia, la, zRA pl dr cp cw rp) K = (vp_in (i4 + (1 : Int32)) (ia 901 0).toNatClampNeg ∧ (vp_in (i4 + (2 : Int32)) (ia 901 0).toNatClampNeg ∧ zWM d 204 [.ref 127, .int (ia 900 ((i4 + (1 : Int32))).toNatClampNeg), .int (ia 900 ((i4 + (2 : Int32))).toNatClampNeg)] (ia, la, zRA pl dr cp cw rp) (zK (d + 1) 241 794 [some (.ref 900), some (.ref 0), some (.ref 127), some (.ref 169), some (.int i4), none, none] [.int s0] K))) := by
  refine (Q_aload_n zm_241 (Or.inr (by decide)) D241_778 rfl).trans ?_
  refine (Q_aload_n zm_241 (Or.inr (by decide)) D241_779 rfl).trans ?_
  refine (Q_iload zm_241 (Or.inr (by decide)) D241_780 rfl).trans ?_
  refine (Q_iconst (v := 1) zm_241 (Or.inr (by decide)) D241_782 (by decide)).trans ?_
  refine (Q_iadd zm_241 (Or.inr (by decide)) D241_783).trans ?_
  refine (Q_sld zm_241 (Or.inr (by decide)) D241_784 rfl).trans ?_
  refine zand_c (fun h0_ => ?_)
  refine (Q_aload_n zm_241 (Or.inr (by decide)) D241_785 rfl).trans ?_
  refine (Q_iload zm_241 (Or.inr (by decide)) D241_786 rfl).trans ?_
  refine (Q_iconst (v := 2) zm_241 (Or.inr (by decide)) D241_788 (by decide)).trans ?_
  refine (Q_iadd zm_241 (Or.inr (by decide)) D241_789).trans ?_
  refine (Q_sld zm_241 (Or.inr (by decide)) D241_790 rfl).trans ?_
  refine zand_c (fun h1_ => ?_)
  exact Q_callv (as := [.int (ia 900 ((i4 + (1 : Int32))).toNatClampNeg), .int (ia 900 ((i4 + (2 : Int32))).toNatClampNeg)]) (b := 127) (rest := [.int s0]) zm_241 (Or.inr (by decide)) D241_791 zc_11_91 rfl zk_127.1 (by decide) (by decide +kernel) (by decide) (by simp [zcat, Value.category]) zm_204 rfl

theorem b241_809 {d : Nat} {i4 : Int32} {s0 : Int32} {ia : Nat → Nat → Int32} {la : Nat → Nat → Int64} {pl dr : Nat} {cp : Option Nat} {cw : Option Nat} {rp : Option Nat} {K : Option Value → zHP → Prop}  : zWP (d + 1) 241 809 [some (.ref 900), some (.ref 0), some (.ref 127), some (.ref 169), some (.int i4), none, none] [.int s0] (ia, la, zRA pl dr cp cw rp) K = (vp_in (i4 + (1 : Int32)) (ia 901 0).toNatClampNeg ∧ zWM d 205 [.ref 127, .int (ia 900 ((i4 + (1 : Int32))).toNatClampNeg)] (ia, la, zRA pl dr cp cw rp) (zK (d + 1) 241 819 [some (.ref 900), some (.ref 0), some (.ref 127), some (.ref 169), some (.int i4), none, none] [.int s0] K)) := by
  refine (Q_aload_n zm_241 (Or.inr (by decide)) D241_809 rfl).trans ?_
  refine (Q_aload_n zm_241 (Or.inr (by decide)) D241_810 rfl).trans ?_
  refine (Q_iload zm_241 (Or.inr (by decide)) D241_811 rfl).trans ?_
  refine (Q_iconst (v := 1) zm_241 (Or.inr (by decide)) D241_813 (by decide)).trans ?_
  refine (Q_iadd zm_241 (Or.inr (by decide)) D241_814).trans ?_
  refine (Q_sld zm_241 (Or.inr (by decide)) D241_815 rfl).trans ?_
  refine zand_c (fun h0_ => ?_)
  exact Q_callv (as := [.int (ia 900 ((i4 + (1 : Int32))).toNatClampNeg)]) (b := 127) (rest := [.int s0]) zm_241 (Or.inr (by decide)) D241_816 zc_11_95 rfl zk_127.1 (by decide) (by decide +kernel) (by decide) (by simp [zcat, Value.category]) zm_205 rfl

theorem b241_840 {d : Nat} {i4 : Int32} {s0 : Int32} {ia : Nat → Nat → Int32} {la : Nat → Nat → Int64} {pl dr : Nat} {cp : Option Nat} {cw : Option Nat} {rp : Option Nat} {K : Option Value → zHP → Prop}  : zWP (d + 1) 241 840 [some (.ref 900), some (.ref 0), some (.ref 127), some (.ref 169), some (.int i4), none, none] [.int s0] (ia, la, zRA pl dr cp cw rp) K = (vp_in (i4 + (1 : Int32)) (ia 901 0).toNatClampNeg ∧ (vp_in (i4 + (2 : Int32)) (ia 901 0).toNatClampNeg ∧ zWM d 206 [.ref 127, .int (ia 900 ((i4 + (1 : Int32))).toNatClampNeg), .int (ia 900 ((i4 + (2 : Int32))).toNatClampNeg)] (ia, la, zRA pl dr cp cw rp) (zK (d + 1) 241 856 [some (.ref 900), some (.ref 0), some (.ref 127), some (.ref 169), some (.int i4), none, none] [.int s0] K))) := by
  refine (Q_aload_n zm_241 (Or.inr (by decide)) D241_840 rfl).trans ?_
  refine (Q_aload_n zm_241 (Or.inr (by decide)) D241_841 rfl).trans ?_
  refine (Q_iload zm_241 (Or.inr (by decide)) D241_842 rfl).trans ?_
  refine (Q_iconst (v := 1) zm_241 (Or.inr (by decide)) D241_844 (by decide)).trans ?_
  refine (Q_iadd zm_241 (Or.inr (by decide)) D241_845).trans ?_
  refine (Q_sld zm_241 (Or.inr (by decide)) D241_846 rfl).trans ?_
  refine zand_c (fun h0_ => ?_)
  refine (Q_aload_n zm_241 (Or.inr (by decide)) D241_847 rfl).trans ?_
  refine (Q_iload zm_241 (Or.inr (by decide)) D241_848 rfl).trans ?_
  refine (Q_iconst (v := 2) zm_241 (Or.inr (by decide)) D241_850 (by decide)).trans ?_
  refine (Q_iadd zm_241 (Or.inr (by decide)) D241_851).trans ?_
  refine (Q_sld zm_241 (Or.inr (by decide)) D241_852 rfl).trans ?_
  refine zand_c (fun h1_ => ?_)
  exact Q_callv (as := [.int (ia 900 ((i4 + (1 : Int32))).toNatClampNeg), .int (ia 900 ((i4 + (2 : Int32))).toNatClampNeg)]) (b := 127) (rest := [.int s0]) zm_241 (Or.inr (by decide)) D241_853 zc_11_99 rfl zk_127.1 (by decide) (by decide +kernel) (by decide) (by simp [zcat, Value.category]) zm_206 rfl

theorem b241_871 {d : Nat} {i4 : Int32} {s0 : Int32} {ia : Nat → Nat → Int32} {la : Nat → Nat → Int64} {pl dr : Nat} {cp : Option Nat} {cw : Option Nat} {rp : Option Nat} {K : Option Value → zHP → Prop}  : zWP (d + 1) 241 871 [some (.ref 900), some (.ref 0), some (.ref 127), some (.ref 169), some (.int i4), none, none] [.int s0] (ia, la, zRA pl dr cp cw rp) K = (vp_in (i4 + (1 : Int32)) (ia 901 0).toNatClampNeg ∧ zWM d 208 [.ref 127, .int (ia 900 ((i4 + (1 : Int32))).toNatClampNeg)] (ia, la, zRA pl dr cp cw rp) (zK (d + 1) 241 881 [some (.ref 900), some (.ref 0), some (.ref 127), some (.ref 169), some (.int i4), none, none] [.int s0] K)) := by
  refine (Q_aload_n zm_241 (Or.inr (by decide)) D241_871 rfl).trans ?_
  refine (Q_aload_n zm_241 (Or.inr (by decide)) D241_872 rfl).trans ?_
  refine (Q_iload zm_241 (Or.inr (by decide)) D241_873 rfl).trans ?_
  refine (Q_iconst (v := 1) zm_241 (Or.inr (by decide)) D241_875 (by decide)).trans ?_
  refine (Q_iadd zm_241 (Or.inr (by decide)) D241_876).trans ?_
  refine (Q_sld zm_241 (Or.inr (by decide)) D241_877 rfl).trans ?_
  refine zand_c (fun h0_ => ?_)
  exact Q_callv (as := [.int (ia 900 ((i4 + (1 : Int32))).toNatClampNeg)]) (b := 127) (rest := [.int s0]) zm_241 (Or.inr (by decide)) D241_878 zc_11_103 rfl zk_127.1 (by decide) (by decide +kernel) (by decide) (by simp [zcat, Value.category]) zm_208 rfl

theorem b241_902 {d : Nat} {i4 : Int32} {s0 : Int32} {ia : Nat → Nat → Int32} {la : Nat → Nat → Int64} {pl dr : Nat} {cp : Option Nat} {cw : Option Nat} {rp : Option Nat} {K : Option Value → zHP → Prop}  : zWP (d + 1) 241 902 [some (.ref 900), some (.ref 0), some (.ref 127), some (.ref 169), some (.int i4), none, none] [.int s0] (ia, la, zRA pl dr cp cw rp) K = (vp_in (i4 + (1 : Int32)) (ia 901 0).toNatClampNeg ∧ (vp_in (i4 + (2 : Int32)) (ia 901 0).toNatClampNeg ∧ zWM d 210 [.ref 127, .int (ia 900 ((i4 + (1 : Int32))).toNatClampNeg), .int (ia 900 ((i4 + (2 : Int32))).toNatClampNeg)] (ia, la, zRA pl dr cp cw rp) (zK (d + 1) 241 918 [some (.ref 900), some (.ref 0), some (.ref 127), some (.ref 169), some (.int i4), none, none] [.int s0] K))) := by
  refine (Q_aload_n zm_241 (Or.inr (by decide)) D241_902 rfl).trans ?_
  refine (Q_aload_n zm_241 (Or.inr (by decide)) D241_903 rfl).trans ?_
  refine (Q_iload zm_241 (Or.inr (by decide)) D241_904 rfl).trans ?_
  refine (Q_iconst (v := 1) zm_241 (Or.inr (by decide)) D241_906 (by decide)).trans ?_
  refine (Q_iadd zm_241 (Or.inr (by decide)) D241_907).trans ?_
  refine (Q_sld zm_241 (Or.inr (by decide)) D241_908 rfl).trans ?_
  refine zand_c (fun h0_ => ?_)
  refine (Q_aload_n zm_241 (Or.inr (by decide)) D241_909 rfl).trans ?_
  refine (Q_iload zm_241 (Or.inr (by decide)) D241_910 rfl).trans ?_
  refine (Q_iconst (v := 2) zm_241 (Or.inr (by decide)) D241_912 (by decide)).trans ?_
  refine (Q_iadd zm_241 (Or.inr (by decide)) D241_913).trans ?_
  refine (Q_sld zm_241 (Or.inr (by decide)) D241_914 rfl).trans ?_
  refine zand_c (fun h1_ => ?_)
  exact Q_callv (as := [.int (ia 900 ((i4 + (1 : Int32))).toNatClampNeg), .int (ia 900 ((i4 + (2 : Int32))).toNatClampNeg)]) (b := 127) (rest := [.int s0]) zm_241 (Or.inr (by decide)) D241_915 zc_11_107 rfl zk_127.1 (by decide) (by decide +kernel) (by decide) (by simp [zcat, Value.category]) zm_210 rfl

theorem b241_927 {d : Nat} {i4 : Int32} {s0 : Int32} {ia : Nat → Nat → Int32} {la : Nat → Nat → Int64} {pl dr : Nat} {cp : Option Nat} {cw : Option Nat} {rp : Option Nat} {K : Option Value → zHP → Prop}  : zWP (d + 1) 241 927 [some (.ref 900), some (.ref 0), some (.ref 127), some (.ref 169), some (.int i4), none, none] [.int s0] (ia, la, zRA pl dr cp cw rp) K = zWM d 212 [.ref 127] (ia, la, zRA pl dr cp cw rp) (zK (d + 1) 241 931 [some (.ref 900), some (.ref 0), some (.ref 127), some (.ref 169), some (.int i4), none, none] [.int s0] K) := by
  refine (Q_aload_n zm_241 (Or.inr (by decide)) D241_927 rfl).trans ?_
  exact Q_callv (as := []) (b := 127) (rest := [.int s0]) zm_241 (Or.inr (by decide)) D241_928 zc_11_111 rfl zk_127.1 (by decide) (by decide +kernel) (by decide) (by simp [zcat, Value.category]) zm_212 rfl

theorem b241_952 {d : Nat} {i4 : Int32} {s0 : Int32} {ia : Nat → Nat → Int32} {la : Nat → Nat → Int64} {pl dr : Nat} {cp : Option Nat} {cw : Option Nat} {rp : Option Nat} {K : Option Value → zHP → Prop}  : zWP (d + 1) 241 952 [some (.ref 900), some (.ref 0), some (.ref 127), some (.ref 169), some (.int i4), none, none] [.int s0] (ia, la, zRA pl dr cp cw rp) K = (vp_in (i4 + (1 : Int32)) (ia 901 0).toNatClampNeg ∧ (vp_in (i4 + (2 : Int32)) (ia 901 0).toNatClampNeg ∧ zWM d 213 [.ref 127, .int (ia 900 ((i4 + (1 : Int32))).toNatClampNeg), .int (ia 900 ((i4 + (2 : Int32))).toNatClampNeg)] (ia, la, zRA pl dr cp cw rp) (zK (d + 1) 241 968 [some (.ref 900), some (.ref 0), some (.ref 127), some (.ref 169), some (.int i4), none, none] [.int s0] K))) := by
  refine (Q_aload_n zm_241 (Or.inr (by decide)) D241_952 rfl).trans ?_
  refine (Q_aload_n zm_241 (Or.inr (by decide)) D241_953 rfl).trans ?_
  refine (Q_iload zm_241 (Or.inr (by decide)) D241_954 rfl).trans ?_
  refine (Q_iconst (v := 1) zm_241 (Or.inr (by decide)) D241_956 (by decide)).trans ?_
  refine (Q_iadd zm_241 (Or.inr (by decide)) D241_957).trans ?_
  refine (Q_sld zm_241 (Or.inr (by decide)) D241_958 rfl).trans ?_
  refine zand_c (fun h0_ => ?_)
  refine (Q_aload_n zm_241 (Or.inr (by decide)) D241_959 rfl).trans ?_
  refine (Q_iload zm_241 (Or.inr (by decide)) D241_960 rfl).trans ?_
  refine (Q_iconst (v := 2) zm_241 (Or.inr (by decide)) D241_962 (by decide)).trans ?_
  refine (Q_iadd zm_241 (Or.inr (by decide)) D241_963).trans ?_
  refine (Q_sld zm_241 (Or.inr (by decide)) D241_964 rfl).trans ?_
  refine zand_c (fun h1_ => ?_)
  exact Q_callv (as := [.int (ia 900 ((i4 + (1 : Int32))).toNatClampNeg), .int (ia 900 ((i4 + (2 : Int32))).toNatClampNeg)]) (b := 127) (rest := [.int s0]) zm_241 (Or.inr (by decide)) D241_965 zc_11_115 rfl zk_127.1 (by decide) (by decide +kernel) (by decide) (by simp [zcat, Value.category]) zm_213 rfl

theorem b241_983 {d : Nat} {i4 : Int32} {s0 : Int32} {ia : Nat → Nat → Int32} {la : Nat → Nat → Int64} {pl dr : Nat} {cp : Option Nat} {cw : Option Nat} {rp : Option Nat} {K : Option Value → zHP → Prop}  : zWP (d + 1) 241 983 [some (.ref 900), some (.ref 0), some (.ref 127), some (.ref 169), some (.int i4), none, none] [.int s0] (ia, la, zRA pl dr cp cw rp) K = (vp_in (i4 + (1 : Int32)) (ia 901 0).toNatClampNeg ∧ zWM d 215 [.ref 127, .int (ia 900 ((i4 + (1 : Int32))).toNatClampNeg)] (ia, la, zRA pl dr cp cw rp) (zK (d + 1) 241 993 [some (.ref 900), some (.ref 0), some (.ref 127), some (.ref 169), some (.int i4), none, none] [.int s0] K)) := by
  refine (Q_aload_n zm_241 (Or.inr (by decide)) D241_983 rfl).trans ?_
  refine (Q_aload_n zm_241 (Or.inr (by decide)) D241_984 rfl).trans ?_
  refine (Q_iload zm_241 (Or.inr (by decide)) D241_985 rfl).trans ?_
  refine (Q_iconst (v := 1) zm_241 (Or.inr (by decide)) D241_987 (by decide)).trans ?_
  refine (Q_iadd zm_241 (Or.inr (by decide)) D241_988).trans ?_
  refine (Q_sld zm_241 (Or.inr (by decide)) D241_989 rfl).trans ?_
  refine zand_c (fun h0_ => ?_)
  exact Q_callv (as := [.int (ia 900 ((i4 + (1 : Int32))).toNatClampNeg)]) (b := 127) (rest := [.int s0]) zm_241 (Or.inr (by decide)) D241_990 zc_11_119 rfl zk_127.1 (by decide) (by decide +kernel) (by decide) (by simp [zcat, Value.category]) zm_215 rfl

theorem b241_1014 {d : Nat} {i4 : Int32} {s0 : Int32} {ia : Nat → Nat → Int32} {la : Nat → Nat → Int64} {pl dr : Nat} {cp : Option Nat} {cw : Option Nat} {rp : Option Nat} {K : Option Value → zHP → Prop}  : zWP (d + 1) 241 1014 [some (.ref 900), some (.ref 0), some (.ref 127), some (.ref 169), some (.int i4), none, none] [.int s0] (ia, la, zRA pl dr cp cw rp) K = (vp_in (i4 + (1 : Int32)) (ia 901 0).toNatClampNeg ∧ (vp_in (i4 + (2 : Int32)) (ia 901 0).toNatClampNeg ∧ zWM d 220 [.ref 127, .int (ia 900 ((i4 + (1 : Int32))).toNatClampNeg), .int (ia 900 ((i4 + (2 : Int32))).toNatClampNeg)] (ia, la, zRA pl dr cp cw rp) (zK (d + 1) 241 1030 [some (.ref 900), some (.ref 0), some (.ref 127), some (.ref 169), some (.int i4), none, none] [.int s0] K))) := by
  refine (Q_aload_n zm_241 (Or.inr (by decide)) D241_1014 rfl).trans ?_
  refine (Q_aload_n zm_241 (Or.inr (by decide)) D241_1015 rfl).trans ?_
  refine (Q_iload zm_241 (Or.inr (by decide)) D241_1016 rfl).trans ?_
  refine (Q_iconst (v := 1) zm_241 (Or.inr (by decide)) D241_1018 (by decide)).trans ?_
  refine (Q_iadd zm_241 (Or.inr (by decide)) D241_1019).trans ?_
  refine (Q_sld zm_241 (Or.inr (by decide)) D241_1020 rfl).trans ?_
  refine zand_c (fun h0_ => ?_)
  refine (Q_aload_n zm_241 (Or.inr (by decide)) D241_1021 rfl).trans ?_
  refine (Q_iload zm_241 (Or.inr (by decide)) D241_1022 rfl).trans ?_
  refine (Q_iconst (v := 2) zm_241 (Or.inr (by decide)) D241_1024 (by decide)).trans ?_
  refine (Q_iadd zm_241 (Or.inr (by decide)) D241_1025).trans ?_
  refine (Q_sld zm_241 (Or.inr (by decide)) D241_1026 rfl).trans ?_
  refine zand_c (fun h1_ => ?_)
  exact Q_callv (as := [.int (ia 900 ((i4 + (1 : Int32))).toNatClampNeg), .int (ia 900 ((i4 + (2 : Int32))).toNatClampNeg)]) (b := 127) (rest := [.int s0]) zm_241 (Or.inr (by decide)) D241_1027 zc_11_123 rfl zk_127.1 (by decide) (by decide +kernel) (by decide) (by simp [zcat, Value.category]) zm_220 rfl

theorem b241_1057 {d : Nat} {i4 : Int32} {s0 : Int32} {ia : Nat → Nat → Int32} {la : Nat → Nat → Int64} {pl dr : Nat} {cp : Option Nat} {cw : Option Nat} {rp : Option Nat} {K : Option Value → zHP → Prop}  : zWP (d + 1) 241 1057 [some (.ref 900), some (.ref 0), some (.ref 127), some (.ref 169), some (.int i4), none, none] [.int s0] (ia, la, zRA pl dr cp cw rp) K = (vp_in (i4 + (1 : Int32)) (ia 901 0).toNatClampNeg ∧ (vp_in (i4 + (2 : Int32)) (ia 901 0).toNatClampNeg ∧ (vp_in (i4 + (3 : Int32)) (ia 901 0).toNatClampNeg ∧ zWM d 221 [.ref 127, .int (ia 900 ((i4 + (1 : Int32))).toNatClampNeg), .int (ia 900 ((i4 + (2 : Int32))).toNatClampNeg), .int (ia 900 ((i4 + (3 : Int32))).toNatClampNeg)] (ia, la, zRA pl dr cp cw rp) (zK (d + 1) 241 1079 [some (.ref 900), some (.ref 0), some (.ref 127), some (.ref 169), some (.int i4), none, none] [.int s0] K)))) := by
  refine (Q_aload_n zm_241 (Or.inr (by decide)) D241_1057 rfl).trans ?_
  refine (Q_aload_n zm_241 (Or.inr (by decide)) D241_1058 rfl).trans ?_
  refine (Q_iload zm_241 (Or.inr (by decide)) D241_1059 rfl).trans ?_
  refine (Q_iconst (v := 1) zm_241 (Or.inr (by decide)) D241_1061 (by decide)).trans ?_
  refine (Q_iadd zm_241 (Or.inr (by decide)) D241_1062).trans ?_
  refine (Q_sld zm_241 (Or.inr (by decide)) D241_1063 rfl).trans ?_
  refine zand_c (fun h0_ => ?_)
  refine (Q_aload_n zm_241 (Or.inr (by decide)) D241_1064 rfl).trans ?_
  refine (Q_iload zm_241 (Or.inr (by decide)) D241_1065 rfl).trans ?_
  refine (Q_iconst (v := 2) zm_241 (Or.inr (by decide)) D241_1067 (by decide)).trans ?_
  refine (Q_iadd zm_241 (Or.inr (by decide)) D241_1068).trans ?_
  refine (Q_sld zm_241 (Or.inr (by decide)) D241_1069 rfl).trans ?_
  refine zand_c (fun h1_ => ?_)
  refine (Q_aload_n zm_241 (Or.inr (by decide)) D241_1070 rfl).trans ?_
  refine (Q_iload zm_241 (Or.inr (by decide)) D241_1071 rfl).trans ?_
  refine (Q_iconst (v := 3) zm_241 (Or.inr (by decide)) D241_1073 (by decide)).trans ?_
  refine (Q_iadd zm_241 (Or.inr (by decide)) D241_1074).trans ?_
  refine (Q_sld zm_241 (Or.inr (by decide)) D241_1075 rfl).trans ?_
  refine zand_c (fun h2_ => ?_)
  exact Q_callv (as := [.int (ia 900 ((i4 + (1 : Int32))).toNatClampNeg), .int (ia 900 ((i4 + (2 : Int32))).toNatClampNeg), .int (ia 900 ((i4 + (3 : Int32))).toNatClampNeg)]) (b := 127) (rest := [.int s0]) zm_241 (Or.inr (by decide)) D241_1076 zc_11_127 rfl zk_127.1 (by decide) (by decide +kernel) (by decide) (by simp [zcat, Value.category]) zm_221 rfl

theorem b241_1100 {d : Nat} {i4 : Int32} {t0 : Int64} {ia : Nat → Nat → Int32} {la : Nat → Nat → Int64} {pl dr : Nat} {cp : Option Nat} {cw : Option Nat} {rp : Option Nat} {K : Option Value → zHP → Prop}  : zWP (d + 1) 241 1100 [some (.ref 900), some (.ref 0), some (.ref 127), some (.ref 169), some (.int i4), none, none] [.long t0] (ia, la, zRA pl dr cp cw rp) K = (vp_in (i4 + (1 : Int32)) (ia 901 0).toNatClampNeg ∧ (vp_in (i4 + (2 : Int32)) (ia 901 0).toNatClampNeg ∧ zWM d 223 [.ref 127, .int (ia 900 ((i4 + (1 : Int32))).toNatClampNeg), .int (ia 900 ((i4 + (2 : Int32))).toNatClampNeg)] (ia, la, zRA pl dr cp cw rp) (zK (d + 1) 241 1116 [some (.ref 900), some (.ref 0), some (.ref 127), some (.ref 169), some (.int i4), none, none] [.long t0] K))) := by
  refine (Q_aload_n zm_241 (Or.inr (by decide)) D241_1100 rfl).trans ?_
  refine (Q_aload_n zm_241 (Or.inr (by decide)) D241_1101 rfl).trans ?_
  refine (Q_iload zm_241 (Or.inr (by decide)) D241_1102 rfl).trans ?_
  refine (Q_iconst (v := 1) zm_241 (Or.inr (by decide)) D241_1104 (by decide)).trans ?_
  refine (Q_iadd zm_241 (Or.inr (by decide)) D241_1105).trans ?_
  refine (Q_sld zm_241 (Or.inr (by decide)) D241_1106 rfl).trans ?_
  refine zand_c (fun h0_ => ?_)
  refine (Q_aload_n zm_241 (Or.inr (by decide)) D241_1107 rfl).trans ?_
  refine (Q_iload zm_241 (Or.inr (by decide)) D241_1108 rfl).trans ?_
  refine (Q_iconst (v := 2) zm_241 (Or.inr (by decide)) D241_1110 (by decide)).trans ?_
  refine (Q_iadd zm_241 (Or.inr (by decide)) D241_1111).trans ?_
  refine (Q_sld zm_241 (Or.inr (by decide)) D241_1112 rfl).trans ?_
  refine zand_c (fun h1_ => ?_)
  exact Q_callv (as := [.int (ia 900 ((i4 + (1 : Int32))).toNatClampNeg), .int (ia 900 ((i4 + (2 : Int32))).toNatClampNeg)]) (b := 127) (rest := [.long t0]) zm_241 (Or.inr (by decide)) D241_1113 zc_11_132 rfl zk_127.1 (by decide) (by decide +kernel) (by decide) (by simp [zcat, Value.category]) zm_223 rfl

theorem b241_1164 {d : Nat} {i4 : Int32} {s0 : Int32} {ia : Nat → Nat → Int32} {la : Nat → Nat → Int64} {pl dr : Nat} {cp : Option Nat} {cw : Option Nat} {rp : Option Nat} {K : Option Value → zHP → Prop}  : zWP (d + 1) 241 1164 [some (.ref 900), some (.ref 0), some (.ref 127), some (.ref 169), some (.int i4), none, none] [.int s0] (ia, la, zRA pl dr cp cw rp) K = (vp_in (i4 + (1 : Int32)) (ia 901 0).toNatClampNeg ∧ (vp_in (i4 + (2 : Int32)) (ia 901 0).toNatClampNeg ∧ (vp_in (i4 + (3 : Int32)) (ia 901 0).toNatClampNeg ∧ (vp_in (i4 + (4 : Int32)) (ia 901 0).toNatClampNeg ∧ (vp_in (i4 + (5 : Int32)) (ia 901 0).toNatClampNeg ∧ (if (ia 900 ((i4 + (5 : Int32))).toNatClampNeg) = 0 then zWM d 224 [.ref 127, .int (ia 900 ((i4 + (1 : Int32))).toNatClampNeg), .int (ia 900 ((i4 + (2 : Int32))).toNatClampNeg), .int (ia 900 ((i4 + (3 : Int32))).toNatClampNeg), .int (ia 900 ((i4 + (4 : Int32))).toNatClampNeg), .int (0 : Int32)] (ia, la, zRA pl dr cp cw rp) (zK (d + 1) 241 1206 [some (.ref 900), some (.ref 0), some (.ref 127), some (.ref 169), some (.int i4), none, none] [.int s0] K) else zWM d 224 [.ref 127, .int (ia 900 ((i4 + (1 : Int32))).toNatClampNeg), .int (ia 900 ((i4 + (2 : Int32))).toNatClampNeg), .int (ia 900 ((i4 + (3 : Int32))).toNatClampNeg), .int (ia 900 ((i4 + (4 : Int32))).toNatClampNeg), .int (1 : Int32)] (ia, la, zRA pl dr cp cw rp) (zK (d + 1) 241 1206 [some (.ref 900), some (.ref 0), some (.ref 127), some (.ref 169), some (.int i4), none, none] [.int s0] K))))))) := by
  refine (Q_aload_n zm_241 (Or.inr (by decide)) D241_1164 rfl).trans ?_
  refine (Q_aload_n zm_241 (Or.inr (by decide)) D241_1165 rfl).trans ?_
  refine (Q_iload zm_241 (Or.inr (by decide)) D241_1166 rfl).trans ?_
  refine (Q_iconst (v := 1) zm_241 (Or.inr (by decide)) D241_1168 (by decide)).trans ?_
  refine (Q_iadd zm_241 (Or.inr (by decide)) D241_1169).trans ?_
  refine (Q_sld zm_241 (Or.inr (by decide)) D241_1170 rfl).trans ?_
  refine zand_c (fun h0_ => ?_)
  refine (Q_aload_n zm_241 (Or.inr (by decide)) D241_1171 rfl).trans ?_
  refine (Q_iload zm_241 (Or.inr (by decide)) D241_1172 rfl).trans ?_
  refine (Q_iconst (v := 2) zm_241 (Or.inr (by decide)) D241_1174 (by decide)).trans ?_
  refine (Q_iadd zm_241 (Or.inr (by decide)) D241_1175).trans ?_
  refine (Q_sld zm_241 (Or.inr (by decide)) D241_1176 rfl).trans ?_
  refine zand_c (fun h1_ => ?_)
  refine (Q_aload_n zm_241 (Or.inr (by decide)) D241_1177 rfl).trans ?_
  refine (Q_iload zm_241 (Or.inr (by decide)) D241_1178 rfl).trans ?_
  refine (Q_iconst (v := 3) zm_241 (Or.inr (by decide)) D241_1180 (by decide)).trans ?_
  refine (Q_iadd zm_241 (Or.inr (by decide)) D241_1181).trans ?_
  refine (Q_sld zm_241 (Or.inr (by decide)) D241_1182 rfl).trans ?_
  refine zand_c (fun h2_ => ?_)
  refine (Q_aload_n zm_241 (Or.inr (by decide)) D241_1183 rfl).trans ?_
  refine (Q_iload zm_241 (Or.inr (by decide)) D241_1184 rfl).trans ?_
  refine (Q_iconst (v := 4) zm_241 (Or.inr (by decide)) D241_1186 (by decide)).trans ?_
  refine (Q_iadd zm_241 (Or.inr (by decide)) D241_1187).trans ?_
  refine (Q_sld zm_241 (Or.inr (by decide)) D241_1188 rfl).trans ?_
  refine zand_c (fun h3_ => ?_)
  refine (Q_aload_n zm_241 (Or.inr (by decide)) D241_1189 rfl).trans ?_
  refine (Q_iload zm_241 (Or.inr (by decide)) D241_1190 rfl).trans ?_
  refine (Q_iconst (v := 5) zm_241 (Or.inr (by decide)) D241_1192 (by decide)).trans ?_
  refine (Q_iadd zm_241 (Or.inr (by decide)) D241_1193).trans ?_
  refine (Q_sld zm_241 (Or.inr (by decide)) D241_1194 rfl).trans ?_
  refine zand_c (fun h4_ => ?_)
  refine (Q_if_eq (tgt := 1202) zm_241 (Or.inr (by decide)) D241_1195 (by decide)).trans ?_
  refine zif_c (fun h5_ => ?_) (fun h5_ => ?_)
  · refine (Q_iconst (v := 0) zm_241 (Or.inr (by decide)) D241_1202 (by decide)).trans ?_
    exact Q_callv (as := [.int (ia 900 ((i4 + (1 : Int32))).toNatClampNeg), .int (ia 900 ((i4 + (2 : Int32))).toNatClampNeg), .int (ia 900 ((i4 + (3 : Int32))).toNatClampNeg), .int (ia 900 ((i4 + (4 : Int32))).toNatClampNeg), .int (0 : Int32)]) (b := 127) (rest := [.int s0]) zm_241 (Or.inr (by decide)) D241_1203 zc_11_137 rfl zk_127.1 (by decide) (by decide +kernel) (by decide) (by simp [zcat, Value.category]) zm_224 rfl
  · refine (Q_iconst (v := 1) zm_241 (Or.inr (by decide)) D241_1198 (by decide)).trans ?_
    refine (Q_goto (tgt := 1203) zm_241 (Or.inr (by decide)) D241_1199 (by decide)).trans ?_
    exact Q_callv (as := [.int (ia 900 ((i4 + (1 : Int32))).toNatClampNeg), .int (ia 900 ((i4 + (2 : Int32))).toNatClampNeg), .int (ia 900 ((i4 + (3 : Int32))).toNatClampNeg), .int (ia 900 ((i4 + (4 : Int32))).toNatClampNeg), .int (1 : Int32)]) (b := 127) (rest := [.int s0]) zm_241 (Or.inr (by decide)) D241_1203 zc_11_137 rfl zk_127.1 (by decide) (by decide +kernel) (by decide) (by simp [zcat, Value.category]) zm_224 rfl

theorem b241_1221 {d : Nat} {i4 : Int32} {s0 : Int32} {ia : Nat → Nat → Int32} {la : Nat → Nat → Int64} {pl dr : Nat} {cp : Option Nat} {cw : Option Nat} {rp : Option Nat} {K : Option Value → zHP → Prop}  : zWP (d + 1) 241 1221 [some (.ref 900), some (.ref 0), some (.ref 127), some (.ref 169), some (.int i4), none, none] [.int s0] (ia, la, zRA pl dr cp cw rp) K = (vp_in (i4 + (1 : Int32)) (ia 901 0).toNatClampNeg ∧ zWM d 225 [.ref 127, .int (ia 900 ((i4 + (1 : Int32))).toNatClampNeg)] (ia, la, zRA pl dr cp cw rp) (zK (d + 1) 241 1231 [some (.ref 900), some (.ref 0), some (.ref 127), some (.ref 169), some (.int i4), none, none] [.int s0] K)) := by
  refine (Q_aload_n zm_241 (Or.inr (by decide)) D241_1221 rfl).trans ?_
  refine (Q_aload_n zm_241 (Or.inr (by decide)) D241_1222 rfl).trans ?_
  refine (Q_iload zm_241 (Or.inr (by decide)) D241_1223 rfl).trans ?_
  refine (Q_iconst (v := 1) zm_241 (Or.inr (by decide)) D241_1225 (by decide)).trans ?_
  refine (Q_iadd zm_241 (Or.inr (by decide)) D241_1226).trans ?_
  refine (Q_sld zm_241 (Or.inr (by decide)) D241_1227 rfl).trans ?_
  refine zand_c (fun h0_ => ?_)
  exact Q_callv (as := [.int (ia 900 ((i4 + (1 : Int32))).toNatClampNeg)]) (b := 127) (rest := [.int s0]) zm_241 (Or.inr (by decide)) D241_1228 zc_11_141 rfl zk_127.1 (by decide) (by decide +kernel) (by decide) (by simp [zcat, Value.category]) zm_225 rfl

theorem b241_1246 {d : Nat} {i4 : Int32} {s0 : Int32} {ia : Nat → Nat → Int32} {la : Nat → Nat → Int64} {pl dr : Nat} {cp : Option Nat} {cw : Option Nat} {rp : Option Nat} {K : Option Value → zHP → Prop}  : zWP (d + 1) 241 1246 [some (.ref 900), some (.ref 0), some (.ref 127), some (.ref 169), some (.int i4), none, none] [.int s0] (ia, la, zRA pl dr cp cw rp) K = (vp_in (i4 + (1 : Int32)) (ia 901 0).toNatClampNeg ∧ zWM d 226 [.ref 127, .int (ia 900 ((i4 + (1 : Int32))).toNatClampNeg)] (ia, la, zRA pl dr cp cw rp) (zK (d + 1) 241 1256 [some (.ref 900), some (.ref 0), some (.ref 127), some (.ref 169), some (.int i4), none, none] [.int s0] K)) := by
  refine (Q_aload_n zm_241 (Or.inr (by decide)) D241_1246 rfl).trans ?_
  refine (Q_aload_n zm_241 (Or.inr (by decide)) D241_1247 rfl).trans ?_
  refine (Q_iload zm_241 (Or.inr (by decide)) D241_1248 rfl).trans ?_
  refine (Q_iconst (v := 1) zm_241 (Or.inr (by decide)) D241_1250 (by decide)).trans ?_
  refine (Q_iadd zm_241 (Or.inr (by decide)) D241_1251).trans ?_
  refine (Q_sld zm_241 (Or.inr (by decide)) D241_1252 rfl).trans ?_
  refine zand_c (fun h0_ => ?_)
  exact Q_callv (as := [.int (ia 900 ((i4 + (1 : Int32))).toNatClampNeg)]) (b := 127) (rest := [.int s0]) zm_241 (Or.inr (by decide)) D241_1253 zc_11_146 rfl zk_127.1 (by decide) (by decide +kernel) (by decide) (by simp [zcat, Value.category]) zm_226 rfl

theorem b241_1265 {d : Nat} {i4 : Int32} {s0 : Int32} {ia : Nat → Nat → Int32} {la : Nat → Nat → Int64} {pl dr : Nat} {cp : Option Nat} {cw : Option Nat} {rp : Option Nat} {K : Option Value → zHP → Prop}  : zWP (d + 1) 241 1265 [some (.ref 900), some (.ref 0), some (.ref 127), some (.ref 169), some (.int i4), none, none] [.int s0] (ia, la, zRA pl dr cp cw rp) K = zWM d 231 [.ref 127] (ia, la, zRA pl dr cp cw rp) (zK (d + 1) 241 1269 [some (.ref 900), some (.ref 0), some (.ref 127), some (.ref 169), some (.int i4), none, none] [.int s0] K) := by
  refine (Q_aload_n zm_241 (Or.inr (by decide)) D241_1265 rfl).trans ?_
  exact Q_callv (as := []) (b := 127) (rest := [.int s0]) zm_241 (Or.inr (by decide)) D241_1266 zc_11_150 rfl zk_127.1 (by decide) (by decide +kernel) (by decide) (by simp [zcat, Value.category]) zm_231 rfl

theorem b241_1290 {d : Nat} {i4 : Int32} {s0 : Int32} {ia : Nat → Nat → Int32} {la : Nat → Nat → Int64} {pl dr : Nat} {cp : Option Nat} {cw : Option Nat} {rp : Option Nat} {K : Option Value → zHP → Prop}  : zWP (d + 1) 241 1290 [some (.ref 900), some (.ref 0), some (.ref 127), some (.ref 169), some (.int i4), none, none] [.int s0] (ia, la, zRA pl dr cp cw rp) K = (vp_in (i4 + (1 : Int32)) (ia 901 0).toNatClampNeg ∧ (vp_in (i4 + (2 : Int32)) (ia 901 0).toNatClampNeg ∧ zWM d 232 [.ref 127, .int (ia 900 ((i4 + (1 : Int32))).toNatClampNeg), .int (ia 900 ((i4 + (2 : Int32))).toNatClampNeg)] (ia, la, zRA pl dr cp cw rp) (zK (d + 1) 241 1306 [some (.ref 900), some (.ref 0), some (.ref 127), some (.ref 169), some (.int i4), none, none] [.int s0] K))) := by
  refine (Q_aload_n zm_241 (Or.inr (by decide)) D241_1290 rfl).trans ?_
  refine (Q_aload_n zm_241 (Or.inr (by decide)) D241_1291 rfl).trans ?_
  refine (Q_iload zm_241 (Or.inr (by decide)) D241_1292 rfl).trans ?_
  refine (Q_iconst (v := 1) zm_241 (Or.inr (by decide)) D241_1294 (by decide)).trans ?_
  refine (Q_iadd zm_241 (Or.inr (by decide)) D241_1295).trans ?_
  refine (Q_sld zm_241 (Or.inr (by decide)) D241_1296 rfl).trans ?_
  refine zand_c (fun h0_ => ?_)
  refine (Q_aload_n zm_241 (Or.inr (by decide)) D241_1297 rfl).trans ?_
  refine (Q_iload zm_241 (Or.inr (by decide)) D241_1298 rfl).trans ?_
  refine (Q_iconst (v := 2) zm_241 (Or.inr (by decide)) D241_1300 (by decide)).trans ?_
  refine (Q_iadd zm_241 (Or.inr (by decide)) D241_1301).trans ?_
  refine (Q_sld zm_241 (Or.inr (by decide)) D241_1302 rfl).trans ?_
  refine zand_c (fun h1_ => ?_)
  exact Q_callv (as := [.int (ia 900 ((i4 + (1 : Int32))).toNatClampNeg), .int (ia 900 ((i4 + (2 : Int32))).toNatClampNeg)]) (b := 127) (rest := [.int s0]) zm_241 (Or.inr (by decide)) D241_1303 zc_11_154 rfl zk_127.1 (by decide) (by decide +kernel) (by decide) (by simp [zcat, Value.category]) zm_232 rfl

theorem b241_1333 {d : Nat} {i4 : Int32} {s0 : Int32} {ia : Nat → Nat → Int32} {la : Nat → Nat → Int64} {pl dr : Nat} {cp : Option Nat} {cw : Option Nat} {rp : Option Nat} {K : Option Value → zHP → Prop}  : zWP (d + 1) 241 1333 [some (.ref 900), some (.ref 0), some (.ref 127), some (.ref 169), some (.int i4), none, none] [.int s0] (ia, la, zRA pl dr cp cw rp) K = (vp_in (i4 + (1 : Int32)) (ia 901 0).toNatClampNeg ∧ (vp_in (i4 + (2 : Int32)) (ia 901 0).toNatClampNeg ∧ (vp_in (i4 + (3 : Int32)) (ia 901 0).toNatClampNeg ∧ zWM d 233 [.ref 127, .int (ia 900 ((i4 + (1 : Int32))).toNatClampNeg), .int (ia 900 ((i4 + (2 : Int32))).toNatClampNeg), .int (ia 900 ((i4 + (3 : Int32))).toNatClampNeg)] (ia, la, zRA pl dr cp cw rp) (zK (d + 1) 241 1355 [some (.ref 900), some (.ref 0), some (.ref 127), some (.ref 169), some (.int i4), none, none] [.int s0] K)))) := by
  refine (Q_aload_n zm_241 (Or.inr (by decide)) D241_1333 rfl).trans ?_
  refine (Q_aload_n zm_241 (Or.inr (by decide)) D241_1334 rfl).trans ?_
  refine (Q_iload zm_241 (Or.inr (by decide)) D241_1335 rfl).trans ?_
  refine (Q_iconst (v := 1) zm_241 (Or.inr (by decide)) D241_1337 (by decide)).trans ?_
  refine (Q_iadd zm_241 (Or.inr (by decide)) D241_1338).trans ?_
  refine (Q_sld zm_241 (Or.inr (by decide)) D241_1339 rfl).trans ?_
  refine zand_c (fun h0_ => ?_)
  refine (Q_aload_n zm_241 (Or.inr (by decide)) D241_1340 rfl).trans ?_
  refine (Q_iload zm_241 (Or.inr (by decide)) D241_1341 rfl).trans ?_
  refine (Q_iconst (v := 2) zm_241 (Or.inr (by decide)) D241_1343 (by decide)).trans ?_
  refine (Q_iadd zm_241 (Or.inr (by decide)) D241_1344).trans ?_
  refine (Q_sld zm_241 (Or.inr (by decide)) D241_1345 rfl).trans ?_
  refine zand_c (fun h1_ => ?_)
  refine (Q_aload_n zm_241 (Or.inr (by decide)) D241_1346 rfl).trans ?_
  refine (Q_iload zm_241 (Or.inr (by decide)) D241_1347 rfl).trans ?_
  refine (Q_iconst (v := 3) zm_241 (Or.inr (by decide)) D241_1349 (by decide)).trans ?_
  refine (Q_iadd zm_241 (Or.inr (by decide)) D241_1350).trans ?_
  refine (Q_sld zm_241 (Or.inr (by decide)) D241_1351 rfl).trans ?_
  refine zand_c (fun h2_ => ?_)
  exact Q_callv (as := [.int (ia 900 ((i4 + (1 : Int32))).toNatClampNeg), .int (ia 900 ((i4 + (2 : Int32))).toNatClampNeg), .int (ia 900 ((i4 + (3 : Int32))).toNatClampNeg)]) (b := 127) (rest := [.int s0]) zm_241 (Or.inr (by decide)) D241_1352 zc_11_158 rfl zk_127.1 (by decide) (by decide +kernel) (by decide) (by simp [zcat, Value.category]) zm_233 rfl

theorem b241_1382 {d : Nat} {i4 : Int32} {s0 : Int32} {ia : Nat → Nat → Int32} {la : Nat → Nat → Int64} {pl dr : Nat} {cp : Option Nat} {cw : Option Nat} {rp : Option Nat} {K : Option Value → zHP → Prop}  : zWP (d + 1) 241 1382 [some (.ref 900), some (.ref 0), some (.ref 127), some (.ref 169), some (.int i4), none, none] [.int s0] (ia, la, zRA pl dr cp cw rp) K = (vp_in (i4 + (1 : Int32)) (ia 901 0).toNatClampNeg ∧ (vp_in (i4 + (2 : Int32)) (ia 901 0).toNatClampNeg ∧ (vp_in (i4 + (3 : Int32)) (ia 901 0).toNatClampNeg ∧ zWM d 234 [.ref 127, .int (ia 900 ((i4 + (1 : Int32))).toNatClampNeg), .int (ia 900 ((i4 + (2 : Int32))).toNatClampNeg), .int (ia 900 ((i4 + (3 : Int32))).toNatClampNeg)] (ia, la, zRA pl dr cp cw rp) (zK (d + 1) 241 1404 [some (.ref 900), some (.ref 0), some (.ref 127), some (.ref 169), some (.int i4), none, none] [.int s0] K)))) := by
  refine (Q_aload_n zm_241 (Or.inr (by decide)) D241_1382 rfl).trans ?_
  refine (Q_aload_n zm_241 (Or.inr (by decide)) D241_1383 rfl).trans ?_
  refine (Q_iload zm_241 (Or.inr (by decide)) D241_1384 rfl).trans ?_
  refine (Q_iconst (v := 1) zm_241 (Or.inr (by decide)) D241_1386 (by decide)).trans ?_
  refine (Q_iadd zm_241 (Or.inr (by decide)) D241_1387).trans ?_
  refine (Q_sld zm_241 (Or.inr (by decide)) D241_1388 rfl).trans ?_
  refine zand_c (fun h0_ => ?_)
  refine (Q_aload_n zm_241 (Or.inr (by decide)) D241_1389 rfl).trans ?_
  refine (Q_iload zm_241 (Or.inr (by decide)) D241_1390 rfl).trans ?_
  refine (Q_iconst (v := 2) zm_241 (Or.inr (by decide)) D241_1392 (by decide)).trans ?_
  refine (Q_iadd zm_241 (Or.inr (by decide)) D241_1393).trans ?_
  refine (Q_sld zm_241 (Or.inr (by decide)) D241_1394 rfl).trans ?_
  refine zand_c (fun h1_ => ?_)
  refine (Q_aload_n zm_241 (Or.inr (by decide)) D241_1395 rfl).trans ?_
  refine (Q_iload zm_241 (Or.inr (by decide)) D241_1396 rfl).trans ?_
  refine (Q_iconst (v := 3) zm_241 (Or.inr (by decide)) D241_1398 (by decide)).trans ?_
  refine (Q_iadd zm_241 (Or.inr (by decide)) D241_1399).trans ?_
  refine (Q_sld zm_241 (Or.inr (by decide)) D241_1400 rfl).trans ?_
  refine zand_c (fun h2_ => ?_)
  exact Q_callv (as := [.int (ia 900 ((i4 + (1 : Int32))).toNatClampNeg), .int (ia 900 ((i4 + (2 : Int32))).toNatClampNeg), .int (ia 900 ((i4 + (3 : Int32))).toNatClampNeg)]) (b := 127) (rest := [.int s0]) zm_241 (Or.inr (by decide)) D241_1401 zc_11_162 rfl zk_127.1 (by decide) (by decide +kernel) (by decide) (by simp [zcat, Value.category]) zm_234 rfl

theorem b241_1413 {d : Nat} {i4 : Int32} {s0 : Int32} {ia : Nat → Nat → Int32} {la : Nat → Nat → Int64} {pl dr : Nat} {cp : Option Nat} {cw : Option Nat} {rp : Option Nat} {K : Option Value → zHP → Prop}  : zWP (d + 1) 241 1413 [some (.ref 900), some (.ref 0), some (.ref 127), some (.ref 169), some (.int i4), none, none] [.int s0] (ia, la, zRA pl dr cp cw rp) K = zWM d 235 [.ref 127] (ia, la, zRA pl dr cp cw rp) (zK (d + 1) 241 1417 [some (.ref 900), some (.ref 0), some (.ref 127), some (.ref 169), some (.int i4), none, none] [.int s0] K) := by
  refine (Q_aload_n zm_241 (Or.inr (by decide)) D241_1413 rfl).trans ?_
  exact Q_callv (as := []) (b := 127) (rest := [.int s0]) zm_241 (Or.inr (by decide)) D241_1414 zc_11_166 rfl zk_127.1 (by decide) (by decide +kernel) (by decide) (by simp [zcat, Value.category]) zm_235 rfl

theorem b241_1426 {d : Nat} {i4 : Int32} {s0 : Int32} {ia : Nat → Nat → Int32} {la : Nat → Nat → Int64} {pl dr : Nat} {cp : Option Nat} {cw : Option Nat} {rp : Option Nat} {K : Option Value → zHP → Prop}  : zWP (d + 1) 241 1426 [some (.ref 900), some (.ref 0), some (.ref 127), some (.ref 169), some (.int i4), none, none] [.int s0] (ia, la, zRA pl dr cp cw rp) K = zWM d 236 [.ref 127] (ia, la, zRA pl dr cp cw rp) (zK (d + 1) 241 1430 [some (.ref 900), some (.ref 0), some (.ref 127), some (.ref 169), some (.int i4), none, none] [.int s0] K) := by
  refine (Q_aload_n zm_241 (Or.inr (by decide)) D241_1426 rfl).trans ?_
  exact Q_callv (as := []) (b := 127) (rest := [.int s0]) zm_241 (Or.inr (by decide)) D241_1427 zc_11_170 rfl zk_127.1 (by decide) (by decide +kernel) (by decide) (by simp [zcat, Value.category]) zm_236 rfl

theorem b241_1439 {d : Nat} {i4 : Int32} {s0 : Int32} {ia : Nat → Nat → Int32} {la : Nat → Nat → Int64} {pl dr : Nat} {cp : Option Nat} {cw : Option Nat} {rp : Option Nat} {K : Option Value → zHP → Prop}  : zWP (d + 1) 241 1439 [some (.ref 900), some (.ref 0), some (.ref 127), some (.ref 169), some (.int i4), none, none] [.int s0] (ia, la, zRA pl dr cp cw rp) K = zWM d 237 [.ref 127] (ia, la, zRA pl dr cp cw rp) (zK (d + 1) 241 1443 [some (.ref 900), some (.ref 0), some (.ref 127), some (.ref 169), some (.int i4), none, none] [.int s0] K) := by
  refine (Q_aload_n zm_241 (Or.inr (by decide)) D241_1439 rfl).trans ?_
  exact Q_callv (as := []) (b := 127) (rest := [.int s0]) zm_241 (Or.inr (by decide)) D241_1440 zc_11_174 rfl zk_127.1 (by decide) (by decide +kernel) (by decide) (by simp [zcat, Value.category]) zm_237 rfl

theorem b241_1458 {d : Nat} {i4 : Int32} {s0 : Int32} {ia : Nat → Nat → Int32} {la : Nat → Nat → Int64} {pl dr : Nat} {cp : Option Nat} {cw : Option Nat} {rp : Option Nat} {K : Option Value → zHP → Prop}  : zWP (d + 1) 241 1458 [some (.ref 900), some (.ref 0), some (.ref 127), some (.ref 169), some (.int i4), none, none] [.int s0] (ia, la, zRA pl dr cp cw rp) K = (vp_in (i4 + (1 : Int32)) (ia 901 0).toNatClampNeg ∧ zWM d 239 [.ref 127, .int (ia 900 ((i4 + (1 : Int32))).toNatClampNeg)] (ia, la, zRA pl dr cp cw rp) (zK (d + 1) 241 1468 [some (.ref 900), some (.ref 0), some (.ref 127), some (.ref 169), some (.int i4), none, none] [.int s0] K)) := by
  refine (Q_aload_n zm_241 (Or.inr (by decide)) D241_1458 rfl).trans ?_
  refine (Q_aload_n zm_241 (Or.inr (by decide)) D241_1459 rfl).trans ?_
  refine (Q_iload zm_241 (Or.inr (by decide)) D241_1460 rfl).trans ?_
  refine (Q_iconst (v := 1) zm_241 (Or.inr (by decide)) D241_1462 (by decide)).trans ?_
  refine (Q_iadd zm_241 (Or.inr (by decide)) D241_1463).trans ?_
  refine (Q_sld zm_241 (Or.inr (by decide)) D241_1464 rfl).trans ?_
  refine zand_c (fun h0_ => ?_)
  exact Q_callv (as := [.int (ia 900 ((i4 + (1 : Int32))).toNatClampNeg)]) (b := 127) (rest := [.int s0]) zm_241 (Or.inr (by decide)) D241_1465 zc_11_178 rfl zk_127.1 (by decide) (by decide +kernel) (by decide) (by simp [zcat, Value.category]) zm_239 rfl

theorem b241_268 {d : Nat} {i4 : Int32} {s0 : Int32} {s1 : Int32} {ia : Nat → Nat → Int32} {la : Nat → Nat → Int64} {pl dr : Nat} {cp : Option Nat} {cw : Option Nat} {rp : Option Nat} {K : Option Value → zHP → Prop}  : zWP d 241 268 [some (.ref 900), some (.ref 0), some (.ref 127), some (.ref 169), some (.int i4), none, none] [.int s1, .int s0] (ia, la, zRA pl dr cp cw rp) K = (if s0 = s1 then zWP d 241 1473 [some (.ref 900), some (.ref 0), some (.ref 127), some (.ref 169), some (.int i4), none, none] [] (ia, la, zRA pl dr cp cw rp) K else K (some (.int (0 : Int32))) (ia, la, zRA pl dr cp cw rp)) := by
  refine (Q_ic_eq (tgt := 1473) zm_241 (Or.inr (by decide)) D241_268 (by decide)).trans ?_
  refine zif_c (fun h0_ => ?_) (fun h0_ => ?_)
  · rfl
  · refine (Q_iconst (v := 0) zm_241 (Or.inr (by decide)) D241_271 (by decide)).trans ?_
    exact Q_zreturn zm_241 (Or.inr (by decide)) D241_272 rfl (by decide)

theorem b241_293 {d : Nat} {i4 : Int32} {s0 : Int32} {s1 : Int32} {ia : Nat → Nat → Int32} {la : Nat → Nat → Int64} {pl dr : Nat} {cp : Option Nat} {cw : Option Nat} {rp : Option Nat} {K : Option Value → zHP → Prop}  : zWP d 241 293 [some (.ref 900), some (.ref 0), some (.ref 127), some (.ref 169), some (.int i4), none, none] [.int s1, .int s0] (ia, la, zRA pl dr cp cw rp) K = (if s0 = s1 then zWP d 241 1473 [some (.ref 900), some (.ref 0), some (.ref 127), some (.ref 169), some (.int i4), none, none] [] (ia, la, zRA pl dr cp cw rp) K else K (some (.int (0 : Int32))) (ia, la, zRA pl dr cp cw rp)) := by
  refine (Q_ic_eq (tgt := 1473) zm_241 (Or.inr (by decide)) D241_293 (by decide)).trans ?_
  refine zif_c (fun h0_ => ?_) (fun h0_ => ?_)
  · rfl
  · refine (Q_iconst (v := 0) zm_241 (Or.inr (by decide)) D241_296 (by decide)).trans ?_
    exact Q_zreturn zm_241 (Or.inr (by decide)) D241_297 rfl (by decide)

theorem b241_318 {d : Nat} {i4 : Int32} {s0 : Int32} {s1 : Int32} {ia : Nat → Nat → Int32} {la : Nat → Nat → Int64} {pl dr : Nat} {cp : Option Nat} {cw : Option Nat} {rp : Option Nat} {K : Option Value → zHP → Prop}  : zWP d 241 318 [some (.ref 900), some (.ref 0), some (.ref 127), some (.ref 169), some (.int i4), none, none] [.int s1, .int s0] (ia, la, zRA pl dr cp cw rp) K = (if s0 = s1 then zWP d 241 1473 [some (.ref 900), some (.ref 0), some (.ref 127), some (.ref 169), some (.int i4), none, none] [] (ia, la, zRA pl dr cp cw rp) K else K (some (.int (0 : Int32))) (ia, la, zRA pl dr cp cw rp)) := by
  refine (Q_ic_eq (tgt := 1473) zm_241 (Or.inr (by decide)) D241_318 (by decide)).trans ?_
  refine zif_c (fun h0_ => ?_) (fun h0_ => ?_)
  · rfl
  · refine (Q_iconst (v := 0) zm_241 (Or.inr (by decide)) D241_321 (by decide)).trans ?_
    exact Q_zreturn zm_241 (Or.inr (by decide)) D241_322 rfl (by decide)

theorem b241_343 {d : Nat} {i4 : Int32} {s0 : Int32} {s1 : Int32} {ia : Nat → Nat → Int32} {la : Nat → Nat → Int64} {pl dr : Nat} {cp : Option Nat} {cw : Option Nat} {rp : Option Nat} {K : Option Value → zHP → Prop}  : zWP d 241 343 [some (.ref 900), some (.ref 0), some (.ref 127), some (.ref 169), some (.int i4), none, none] [.int s1, .int s0] (ia, la, zRA pl dr cp cw rp) K = (if s0 = s1 then zWP d 241 1473 [some (.ref 900), some (.ref 0), some (.ref 127), some (.ref 169), some (.int i4), none, none] [] (ia, la, zRA pl dr cp cw rp) K else K (some (.int (0 : Int32))) (ia, la, zRA pl dr cp cw rp)) := by
  refine (Q_ic_eq (tgt := 1473) zm_241 (Or.inr (by decide)) D241_343 (by decide)).trans ?_
  refine zif_c (fun h0_ => ?_) (fun h0_ => ?_)
  · rfl
  · refine (Q_iconst (v := 0) zm_241 (Or.inr (by decide)) D241_346 (by decide)).trans ?_
    exact Q_zreturn zm_241 (Or.inr (by decide)) D241_347 rfl (by decide)

theorem b241_448 {d : Nat} {i4 : Int32} {s0 : Int32} {s1 : Int32} {ia : Nat → Nat → Int32} {la : Nat → Nat → Int64} {pl dr : Nat} {cp : Option Nat} {cw : Option Nat} {rp : Option Nat} {K : Option Value → zHP → Prop}  : zWP d 241 448 [some (.ref 900), some (.ref 0), some (.ref 127), some (.ref 169), some (.int i4), none, none] [.int s1, .int s0] (ia, la, zRA pl dr cp cw rp) K = (if s0 = s1 then zWP d 241 1473 [some (.ref 900), some (.ref 0), some (.ref 127), some (.ref 169), some (.int i4), none, none] [] (ia, la, zRA pl dr cp cw rp) K else K (some (.int (0 : Int32))) (ia, la, zRA pl dr cp cw rp)) := by
  refine (Q_ic_eq (tgt := 1473) zm_241 (Or.inr (by decide)) D241_448 (by decide)).trans ?_
  refine zif_c (fun h0_ => ?_) (fun h0_ => ?_)
  · rfl
  · refine (Q_iconst (v := 0) zm_241 (Or.inr (by decide)) D241_451 (by decide)).trans ?_
    exact Q_zreturn zm_241 (Or.inr (by decide)) D241_452 rfl (by decide)

theorem b241_485 {d : Nat} {i4 : Int32} {s0 : Int32} {s1 : Int32} {ia : Nat → Nat → Int32} {la : Nat → Nat → Int64} {pl dr : Nat} {cp : Option Nat} {cw : Option Nat} {rp : Option Nat} {K : Option Value → zHP → Prop}  : zWP d 241 485 [some (.ref 900), some (.ref 0), some (.ref 127), some (.ref 169), some (.int i4), none, none] [.int s1, .int s0] (ia, la, zRA pl dr cp cw rp) K = (if s0 = s1 then zWP d 241 1473 [some (.ref 900), some (.ref 0), some (.ref 127), some (.ref 169), some (.int i4), none, none] [] (ia, la, zRA pl dr cp cw rp) K else K (some (.int (0 : Int32))) (ia, la, zRA pl dr cp cw rp)) := by
  refine (Q_ic_eq (tgt := 1473) zm_241 (Or.inr (by decide)) D241_485 (by decide)).trans ?_
  refine zif_c (fun h0_ => ?_) (fun h0_ => ?_)
  · rfl
  · refine (Q_iconst (v := 0) zm_241 (Or.inr (by decide)) D241_488 (by decide)).trans ?_
    exact Q_zreturn zm_241 (Or.inr (by decide)) D241_489 rfl (by decide)

theorem b241_546 {d : Nat} {i4 : Int32} {t0 : Int64} {t1 : Int64} {ia : Nat → Nat → Int32} {la : Nat → Nat → Int64} {pl dr : Nat} {cp : Option Nat} {cw : Option Nat} {rp : Option Nat} {K : Option Value → zHP → Prop}  : zWP d 241 546 [some (.ref 900), some (.ref 0), some (.ref 127), some (.ref 169), some (.int i4), none, none] [.long t1, .long t0] (ia, la, zRA pl dr cp cw rp) K = (if (lg_cmp t0 t1) = 0 then zWP d 241 1473 [some (.ref 900), some (.ref 0), some (.ref 127), some (.ref 169), some (.int i4), none, none] [] (ia, la, zRA pl dr cp cw rp) K else K (some (.int (0 : Int32))) (ia, la, zRA pl dr cp cw rp)) := by
  refine (Q_lcmp zm_241 (Or.inr (by decide)) D241_546).trans ?_
  refine (Q_if_eq (tgt := 1473) zm_241 (Or.inr (by decide)) D241_547 (by decide)).trans ?_
  refine zif_c (fun h0_ => ?_) (fun h0_ => ?_)
  · rfl
  · refine (Q_iconst (v := 0) zm_241 (Or.inr (by decide)) D241_550 (by decide)).trans ?_
    exact Q_zreturn zm_241 (Or.inr (by decide)) D241_551 rfl (by decide)

theorem b241_608 {d : Nat} {i4 : Int32} {s0 : Int32} {s1 : Int32} {ia : Nat → Nat → Int32} {la : Nat → Nat → Int64} {pl dr : Nat} {cp : Option Nat} {cw : Option Nat} {rp : Option Nat} {K : Option Value → zHP → Prop}  : zWP d 241 608 [some (.ref 900), some (.ref 0), some (.ref 127), some (.ref 169), some (.int i4), none, none] [.int s1, .int s0] (ia, la, zRA pl dr cp cw rp) K = (if s0 = s1 then zWP d 241 1473 [some (.ref 900), some (.ref 0), some (.ref 127), some (.ref 169), some (.int i4), none, none] [] (ia, la, zRA pl dr cp cw rp) K else K (some (.int (0 : Int32))) (ia, la, zRA pl dr cp cw rp)) := by
  refine (Q_ic_eq (tgt := 1473) zm_241 (Or.inr (by decide)) D241_608 (by decide)).trans ?_
  refine zif_c (fun h0_ => ?_) (fun h0_ => ?_)
  · rfl
  · refine (Q_iconst (v := 0) zm_241 (Or.inr (by decide)) D241_611 (by decide)).trans ?_
    exact Q_zreturn zm_241 (Or.inr (by decide)) D241_612 rfl (by decide)

theorem b241_633 {d : Nat} {i4 : Int32} {s0 : Int32} {s1 : Int32} {ia : Nat → Nat → Int32} {la : Nat → Nat → Int64} {pl dr : Nat} {cp : Option Nat} {cw : Option Nat} {rp : Option Nat} {K : Option Value → zHP → Prop}  : zWP d 241 633 [some (.ref 900), some (.ref 0), some (.ref 127), some (.ref 169), some (.int i4), none, none] [.int s1, .int s0] (ia, la, zRA pl dr cp cw rp) K = (if s0 = s1 then zWP d 241 1473 [some (.ref 900), some (.ref 0), some (.ref 127), some (.ref 169), some (.int i4), none, none] [] (ia, la, zRA pl dr cp cw rp) K else K (some (.int (0 : Int32))) (ia, la, zRA pl dr cp cw rp)) := by
  refine (Q_ic_eq (tgt := 1473) zm_241 (Or.inr (by decide)) D241_633 (by decide)).trans ?_
  refine zif_c (fun h0_ => ?_) (fun h0_ => ?_)
  · rfl
  · refine (Q_iconst (v := 0) zm_241 (Or.inr (by decide)) D241_636 (by decide)).trans ?_
    exact Q_zreturn zm_241 (Or.inr (by decide)) D241_637 rfl (by decide)

theorem b241_658 {d : Nat} {i4 : Int32} {s0 : Int32} {s1 : Int32} {ia : Nat → Nat → Int32} {la : Nat → Nat → Int64} {pl dr : Nat} {cp : Option Nat} {cw : Option Nat} {rp : Option Nat} {K : Option Value → zHP → Prop}  : zWP d 241 658 [some (.ref 900), some (.ref 0), some (.ref 127), some (.ref 169), some (.int i4), none, none] [.int s1, .int s0] (ia, la, zRA pl dr cp cw rp) K = (if s0 = s1 then zWP d 241 1473 [some (.ref 900), some (.ref 0), some (.ref 127), some (.ref 169), some (.int i4), none, none] [] (ia, la, zRA pl dr cp cw rp) K else K (some (.int (0 : Int32))) (ia, la, zRA pl dr cp cw rp)) := by
  refine (Q_ic_eq (tgt := 1473) zm_241 (Or.inr (by decide)) D241_658 (by decide)).trans ?_
  refine zif_c (fun h0_ => ?_) (fun h0_ => ?_)
  · rfl
  · refine (Q_iconst (v := 0) zm_241 (Or.inr (by decide)) D241_661 (by decide)).trans ?_
    exact Q_zreturn zm_241 (Or.inr (by decide)) D241_662 rfl (by decide)

theorem b241_683 {d : Nat} {i4 : Int32} {s0 : Int32} {s1 : Int32} {ia : Nat → Nat → Int32} {la : Nat → Nat → Int64} {pl dr : Nat} {cp : Option Nat} {cw : Option Nat} {rp : Option Nat} {K : Option Value → zHP → Prop}  : zWP d 241 683 [some (.ref 900), some (.ref 0), some (.ref 127), some (.ref 169), some (.int i4), none, none] [.int s1, .int s0] (ia, la, zRA pl dr cp cw rp) K = (if s0 = s1 then zWP d 241 1473 [some (.ref 900), some (.ref 0), some (.ref 127), some (.ref 169), some (.int i4), none, none] [] (ia, la, zRA pl dr cp cw rp) K else K (some (.int (0 : Int32))) (ia, la, zRA pl dr cp cw rp)) := by
  refine (Q_ic_eq (tgt := 1473) zm_241 (Or.inr (by decide)) D241_683 (by decide)).trans ?_
  refine zif_c (fun h0_ => ?_) (fun h0_ => ?_)
  · rfl
  · refine (Q_iconst (v := 0) zm_241 (Or.inr (by decide)) D241_686 (by decide)).trans ?_
    exact Q_zreturn zm_241 (Or.inr (by decide)) D241_687 rfl (by decide)

theorem b241_732 {d : Nat} {i4 : Int32} {s0 : Int32} {s1 : Int32} {ia : Nat → Nat → Int32} {la : Nat → Nat → Int64} {pl dr : Nat} {cp : Option Nat} {cw : Option Nat} {rp : Option Nat} {K : Option Value → zHP → Prop}  : zWP d 241 732 [some (.ref 900), some (.ref 0), some (.ref 127), some (.ref 169), some (.int i4), none, none] [.int s1, .int s0] (ia, la, zRA pl dr cp cw rp) K = (if s0 = s1 then zWP d 241 1473 [some (.ref 900), some (.ref 0), some (.ref 127), some (.ref 169), some (.int i4), none, none] [] (ia, la, zRA pl dr cp cw rp) K else K (some (.int (0 : Int32))) (ia, la, zRA pl dr cp cw rp)) := by
  refine (Q_ic_eq (tgt := 1473) zm_241 (Or.inr (by decide)) D241_732 (by decide)).trans ?_
  refine zif_c (fun h0_ => ?_) (fun h0_ => ?_)
  · rfl
  · refine (Q_iconst (v := 0) zm_241 (Or.inr (by decide)) D241_735 (by decide)).trans ?_
    exact Q_zreturn zm_241 (Or.inr (by decide)) D241_736 rfl (by decide)

theorem b241_757 {d : Nat} {i4 : Int32} {s0 : Int32} {s1 : Int32} {ia : Nat → Nat → Int32} {la : Nat → Nat → Int64} {pl dr : Nat} {cp : Option Nat} {cw : Option Nat} {rp : Option Nat} {K : Option Value → zHP → Prop}  : zWP d 241 757 [some (.ref 900), some (.ref 0), some (.ref 127), some (.ref 169), some (.int i4), none, none] [.int s1, .int s0] (ia, la, zRA pl dr cp cw rp) K = (if s0 = s1 then zWP d 241 1473 [some (.ref 900), some (.ref 0), some (.ref 127), some (.ref 169), some (.int i4), none, none] [] (ia, la, zRA pl dr cp cw rp) K else K (some (.int (0 : Int32))) (ia, la, zRA pl dr cp cw rp)) := by
  refine (Q_ic_eq (tgt := 1473) zm_241 (Or.inr (by decide)) D241_757 (by decide)).trans ?_
  refine zif_c (fun h0_ => ?_) (fun h0_ => ?_)
  · rfl
  · refine (Q_iconst (v := 0) zm_241 (Or.inr (by decide)) D241_760 (by decide)).trans ?_
    exact Q_zreturn zm_241 (Or.inr (by decide)) D241_761 rfl (by decide)

theorem b241_794 {d : Nat} {i4 : Int32} {s0 : Int32} {s1 : Int32} {ia : Nat → Nat → Int32} {la : Nat → Nat → Int64} {pl dr : Nat} {cp : Option Nat} {cw : Option Nat} {rp : Option Nat} {K : Option Value → zHP → Prop}  : zWP d 241 794 [some (.ref 900), some (.ref 0), some (.ref 127), some (.ref 169), some (.int i4), none, none] [.int s1, .int s0] (ia, la, zRA pl dr cp cw rp) K = (if s0 = s1 then zWP d 241 1473 [some (.ref 900), some (.ref 0), some (.ref 127), some (.ref 169), some (.int i4), none, none] [] (ia, la, zRA pl dr cp cw rp) K else K (some (.int (0 : Int32))) (ia, la, zRA pl dr cp cw rp)) := by
  refine (Q_ic_eq (tgt := 1473) zm_241 (Or.inr (by decide)) D241_794 (by decide)).trans ?_
  refine zif_c (fun h0_ => ?_) (fun h0_ => ?_)
  · rfl
  · refine (Q_iconst (v := 0) zm_241 (Or.inr (by decide)) D241_797 (by decide)).trans ?_
    exact Q_zreturn zm_241 (Or.inr (by decide)) D241_798 rfl (by decide)

theorem b241_819 {d : Nat} {i4 : Int32} {s0 : Int32} {s1 : Int32} {ia : Nat → Nat → Int32} {la : Nat → Nat → Int64} {pl dr : Nat} {cp : Option Nat} {cw : Option Nat} {rp : Option Nat} {K : Option Value → zHP → Prop}  : zWP d 241 819 [some (.ref 900), some (.ref 0), some (.ref 127), some (.ref 169), some (.int i4), none, none] [.int s1, .int s0] (ia, la, zRA pl dr cp cw rp) K = (if s0 = s1 then zWP d 241 1473 [some (.ref 900), some (.ref 0), some (.ref 127), some (.ref 169), some (.int i4), none, none] [] (ia, la, zRA pl dr cp cw rp) K else K (some (.int (0 : Int32))) (ia, la, zRA pl dr cp cw rp)) := by
  refine (Q_ic_eq (tgt := 1473) zm_241 (Or.inr (by decide)) D241_819 (by decide)).trans ?_
  refine zif_c (fun h0_ => ?_) (fun h0_ => ?_)
  · rfl
  · refine (Q_iconst (v := 0) zm_241 (Or.inr (by decide)) D241_822 (by decide)).trans ?_
    exact Q_zreturn zm_241 (Or.inr (by decide)) D241_823 rfl (by decide)

theorem b241_856 {d : Nat} {i4 : Int32} {s0 : Int32} {s1 : Int32} {ia : Nat → Nat → Int32} {la : Nat → Nat → Int64} {pl dr : Nat} {cp : Option Nat} {cw : Option Nat} {rp : Option Nat} {K : Option Value → zHP → Prop}  : zWP d 241 856 [some (.ref 900), some (.ref 0), some (.ref 127), some (.ref 169), some (.int i4), none, none] [.int s1, .int s0] (ia, la, zRA pl dr cp cw rp) K = (if s0 = s1 then zWP d 241 1473 [some (.ref 900), some (.ref 0), some (.ref 127), some (.ref 169), some (.int i4), none, none] [] (ia, la, zRA pl dr cp cw rp) K else K (some (.int (0 : Int32))) (ia, la, zRA pl dr cp cw rp)) := by
  refine (Q_ic_eq (tgt := 1473) zm_241 (Or.inr (by decide)) D241_856 (by decide)).trans ?_
  refine zif_c (fun h0_ => ?_) (fun h0_ => ?_)
  · rfl
  · refine (Q_iconst (v := 0) zm_241 (Or.inr (by decide)) D241_859 (by decide)).trans ?_
    exact Q_zreturn zm_241 (Or.inr (by decide)) D241_860 rfl (by decide)

theorem b241_881 {d : Nat} {i4 : Int32} {s0 : Int32} {s1 : Int32} {ia : Nat → Nat → Int32} {la : Nat → Nat → Int64} {pl dr : Nat} {cp : Option Nat} {cw : Option Nat} {rp : Option Nat} {K : Option Value → zHP → Prop}  : zWP d 241 881 [some (.ref 900), some (.ref 0), some (.ref 127), some (.ref 169), some (.int i4), none, none] [.int s1, .int s0] (ia, la, zRA pl dr cp cw rp) K = (if s0 = s1 then zWP d 241 1473 [some (.ref 900), some (.ref 0), some (.ref 127), some (.ref 169), some (.int i4), none, none] [] (ia, la, zRA pl dr cp cw rp) K else K (some (.int (0 : Int32))) (ia, la, zRA pl dr cp cw rp)) := by
  refine (Q_ic_eq (tgt := 1473) zm_241 (Or.inr (by decide)) D241_881 (by decide)).trans ?_
  refine zif_c (fun h0_ => ?_) (fun h0_ => ?_)
  · rfl
  · refine (Q_iconst (v := 0) zm_241 (Or.inr (by decide)) D241_884 (by decide)).trans ?_
    exact Q_zreturn zm_241 (Or.inr (by decide)) D241_885 rfl (by decide)

theorem b241_918 {d : Nat} {i4 : Int32} {s0 : Int32} {s1 : Int32} {ia : Nat → Nat → Int32} {la : Nat → Nat → Int64} {pl dr : Nat} {cp : Option Nat} {cw : Option Nat} {rp : Option Nat} {K : Option Value → zHP → Prop}  : zWP d 241 918 [some (.ref 900), some (.ref 0), some (.ref 127), some (.ref 169), some (.int i4), none, none] [.int s1, .int s0] (ia, la, zRA pl dr cp cw rp) K = (if s0 = s1 then zWP d 241 1473 [some (.ref 900), some (.ref 0), some (.ref 127), some (.ref 169), some (.int i4), none, none] [] (ia, la, zRA pl dr cp cw rp) K else K (some (.int (0 : Int32))) (ia, la, zRA pl dr cp cw rp)) := by
  refine (Q_ic_eq (tgt := 1473) zm_241 (Or.inr (by decide)) D241_918 (by decide)).trans ?_
  refine zif_c (fun h0_ => ?_) (fun h0_ => ?_)
  · rfl
  · refine (Q_iconst (v := 0) zm_241 (Or.inr (by decide)) D241_921 (by decide)).trans ?_
    exact Q_zreturn zm_241 (Or.inr (by decide)) D241_922 rfl (by decide)

theorem b241_931 {d : Nat} {i4 : Int32} {s0 : Int32} {s1 : Int32} {ia : Nat → Nat → Int32} {la : Nat → Nat → Int64} {pl dr : Nat} {cp : Option Nat} {cw : Option Nat} {rp : Option Nat} {K : Option Value → zHP → Prop}  : zWP d 241 931 [some (.ref 900), some (.ref 0), some (.ref 127), some (.ref 169), some (.int i4), none, none] [.int s1, .int s0] (ia, la, zRA pl dr cp cw rp) K = (if s0 = s1 then zWP d 241 1473 [some (.ref 900), some (.ref 0), some (.ref 127), some (.ref 169), some (.int i4), none, none] [] (ia, la, zRA pl dr cp cw rp) K else K (some (.int (0 : Int32))) (ia, la, zRA pl dr cp cw rp)) := by
  refine (Q_ic_eq (tgt := 1473) zm_241 (Or.inr (by decide)) D241_931 (by decide)).trans ?_
  refine zif_c (fun h0_ => ?_) (fun h0_ => ?_)
  · rfl
  · refine (Q_iconst (v := 0) zm_241 (Or.inr (by decide)) D241_934 (by decide)).trans ?_
    exact Q_zreturn zm_241 (Or.inr (by decide)) D241_935 rfl (by decide)

theorem b241_968 {d : Nat} {i4 : Int32} {s0 : Int32} {s1 : Int32} {ia : Nat → Nat → Int32} {la : Nat → Nat → Int64} {pl dr : Nat} {cp : Option Nat} {cw : Option Nat} {rp : Option Nat} {K : Option Value → zHP → Prop}  : zWP d 241 968 [some (.ref 900), some (.ref 0), some (.ref 127), some (.ref 169), some (.int i4), none, none] [.int s1, .int s0] (ia, la, zRA pl dr cp cw rp) K = (if s0 = s1 then zWP d 241 1473 [some (.ref 900), some (.ref 0), some (.ref 127), some (.ref 169), some (.int i4), none, none] [] (ia, la, zRA pl dr cp cw rp) K else K (some (.int (0 : Int32))) (ia, la, zRA pl dr cp cw rp)) := by
  refine (Q_ic_eq (tgt := 1473) zm_241 (Or.inr (by decide)) D241_968 (by decide)).trans ?_
  refine zif_c (fun h0_ => ?_) (fun h0_ => ?_)
  · rfl
  · refine (Q_iconst (v := 0) zm_241 (Or.inr (by decide)) D241_971 (by decide)).trans ?_
    exact Q_zreturn zm_241 (Or.inr (by decide)) D241_972 rfl (by decide)

theorem b241_993 {d : Nat} {i4 : Int32} {s0 : Int32} {s1 : Int32} {ia : Nat → Nat → Int32} {la : Nat → Nat → Int64} {pl dr : Nat} {cp : Option Nat} {cw : Option Nat} {rp : Option Nat} {K : Option Value → zHP → Prop}  : zWP d 241 993 [some (.ref 900), some (.ref 0), some (.ref 127), some (.ref 169), some (.int i4), none, none] [.int s1, .int s0] (ia, la, zRA pl dr cp cw rp) K = (if s0 = s1 then zWP d 241 1473 [some (.ref 900), some (.ref 0), some (.ref 127), some (.ref 169), some (.int i4), none, none] [] (ia, la, zRA pl dr cp cw rp) K else K (some (.int (0 : Int32))) (ia, la, zRA pl dr cp cw rp)) := by
  refine (Q_ic_eq (tgt := 1473) zm_241 (Or.inr (by decide)) D241_993 (by decide)).trans ?_
  refine zif_c (fun h0_ => ?_) (fun h0_ => ?_)
  · rfl
  · refine (Q_iconst (v := 0) zm_241 (Or.inr (by decide)) D241_996 (by decide)).trans ?_
    exact Q_zreturn zm_241 (Or.inr (by decide)) D241_997 rfl (by decide)

theorem b241_1030 {d : Nat} {i4 : Int32} {s0 : Int32} {s1 : Int32} {ia : Nat → Nat → Int32} {la : Nat → Nat → Int64} {pl dr : Nat} {cp : Option Nat} {cw : Option Nat} {rp : Option Nat} {K : Option Value → zHP → Prop}  : zWP d 241 1030 [some (.ref 900), some (.ref 0), some (.ref 127), some (.ref 169), some (.int i4), none, none] [.int s1, .int s0] (ia, la, zRA pl dr cp cw rp) K = (if s0 = s1 then zWP d 241 1473 [some (.ref 900), some (.ref 0), some (.ref 127), some (.ref 169), some (.int i4), none, none] [] (ia, la, zRA pl dr cp cw rp) K else K (some (.int (0 : Int32))) (ia, la, zRA pl dr cp cw rp)) := by
  refine (Q_ic_eq (tgt := 1473) zm_241 (Or.inr (by decide)) D241_1030 (by decide)).trans ?_
  refine zif_c (fun h0_ => ?_) (fun h0_ => ?_)
  · rfl
  · refine (Q_iconst (v := 0) zm_241 (Or.inr (by decide)) D241_1033 (by decide)).trans ?_
    exact Q_zreturn zm_241 (Or.inr (by decide)) D241_1034 rfl (by decide)

theorem b241_1079 {d : Nat} {i4 : Int32} {s0 : Int32} {s1 : Int32} {ia : Nat → Nat → Int32} {la : Nat → Nat → Int64} {pl dr : Nat} {cp : Option Nat} {cw : Option Nat} {rp : Option Nat} {K : Option Value → zHP → Prop}  : zWP d 241 1079 [some (.ref 900), some (.ref 0), some (.ref 127), some (.ref 169), some (.int i4), none, none] [.int s1, .int s0] (ia, la, zRA pl dr cp cw rp) K = (if s0 = s1 then zWP d 241 1473 [some (.ref 900), some (.ref 0), some (.ref 127), some (.ref 169), some (.int i4), none, none] [] (ia, la, zRA pl dr cp cw rp) K else K (some (.int (0 : Int32))) (ia, la, zRA pl dr cp cw rp)) := by
  refine (Q_ic_eq (tgt := 1473) zm_241 (Or.inr (by decide)) D241_1079 (by decide)).trans ?_
  refine zif_c (fun h0_ => ?_) (fun h0_ => ?_)
  · rfl
  · refine (Q_iconst (v := 0) zm_241 (Or.inr (by decide)) D241_1082 (by decide)).trans ?_
    exact Q_zreturn zm_241 (Or.inr (by decide)) D241_1083 rfl (by decide)

theorem b241_1116 {d : Nat} {i4 : Int32} {t0 : Int64} {t1 : Int64} {ia : Nat → Nat → Int32} {la : Nat → Nat → Int64} {pl dr : Nat} {cp : Option Nat} {cw : Option Nat} {rp : Option Nat} {K : Option Value → zHP → Prop}  : zWP d 241 1116 [some (.ref 900), some (.ref 0), some (.ref 127), some (.ref 169), some (.int i4), none, none] [.long t1, .long t0] (ia, la, zRA pl dr cp cw rp) K = (if (lg_cmp t0 t1) = 0 then zWP d 241 1473 [some (.ref 900), some (.ref 0), some (.ref 127), some (.ref 169), some (.int i4), none, none] [] (ia, la, zRA pl dr cp cw rp) K else K (some (.int (0 : Int32))) (ia, la, zRA pl dr cp cw rp)) := by
  refine (Q_lcmp zm_241 (Or.inr (by decide)) D241_1116).trans ?_
  refine (Q_if_eq (tgt := 1473) zm_241 (Or.inr (by decide)) D241_1117 (by decide)).trans ?_
  refine zif_c (fun h0_ => ?_) (fun h0_ => ?_)
  · rfl
  · refine (Q_iconst (v := 0) zm_241 (Or.inr (by decide)) D241_1120 (by decide)).trans ?_
    exact Q_zreturn zm_241 (Or.inr (by decide)) D241_1121 rfl (by decide)

theorem b241_1206 {d : Nat} {i4 : Int32} {s0 : Int32} {s1 : Int32} {ia : Nat → Nat → Int32} {la : Nat → Nat → Int64} {pl dr : Nat} {cp : Option Nat} {cw : Option Nat} {rp : Option Nat} {K : Option Value → zHP → Prop}  : zWP d 241 1206 [some (.ref 900), some (.ref 0), some (.ref 127), some (.ref 169), some (.int i4), none, none] [.int s1, .int s0] (ia, la, zRA pl dr cp cw rp) K = (if s0 = s1 then zWP d 241 1473 [some (.ref 900), some (.ref 0), some (.ref 127), some (.ref 169), some (.int i4), none, none] [] (ia, la, zRA pl dr cp cw rp) K else K (some (.int (0 : Int32))) (ia, la, zRA pl dr cp cw rp)) := by
  refine (Q_ic_eq (tgt := 1473) zm_241 (Or.inr (by decide)) D241_1206 (by decide)).trans ?_
  refine zif_c (fun h0_ => ?_) (fun h0_ => ?_)
  · rfl
  · refine (Q_iconst (v := 0) zm_241 (Or.inr (by decide)) D241_1209 (by decide)).trans ?_
    exact Q_zreturn zm_241 (Or.inr (by decide)) D241_1210 rfl (by decide)

theorem b241_1231 {d : Nat} {i4 : Int32} {s0 : Int32} {s1 : Int32} {ia : Nat → Nat → Int32} {la : Nat → Nat → Int64} {pl dr : Nat} {cp : Option Nat} {cw : Option Nat} {rp : Option Nat} {K : Option Value → zHP → Prop}  : zWP d 241 1231 [some (.ref 900), some (.ref 0), some (.ref 127), some (.ref 169), some (.int i4), none, none] [.int s1, .int s0] (ia, la, zRA pl dr cp cw rp) K = (if s0 = s1 then zWP d 241 1473 [some (.ref 900), some (.ref 0), some (.ref 127), some (.ref 169), some (.int i4), none, none] [] (ia, la, zRA pl dr cp cw rp) K else K (some (.int (0 : Int32))) (ia, la, zRA pl dr cp cw rp)) := by
  refine (Q_ic_eq (tgt := 1473) zm_241 (Or.inr (by decide)) D241_1231 (by decide)).trans ?_
  refine zif_c (fun h0_ => ?_) (fun h0_ => ?_)
  · rfl
  · refine (Q_iconst (v := 0) zm_241 (Or.inr (by decide)) D241_1234 (by decide)).trans ?_
    exact Q_zreturn zm_241 (Or.inr (by decide)) D241_1235 rfl (by decide)

theorem b241_1256 {d : Nat} {i4 : Int32} {s0 : Int32} {s1 : Int32} {ia : Nat → Nat → Int32} {la : Nat → Nat → Int64} {pl dr : Nat} {cp : Option Nat} {cw : Option Nat} {rp : Option Nat} {K : Option Value → zHP → Prop}  : zWP d 241 1256 [some (.ref 900), some (.ref 0), some (.ref 127), some (.ref 169), some (.int i4), none, none] [.int s1, .int s0] (ia, la, zRA pl dr cp cw rp) K = (if s0 = s1 then zWP d 241 1473 [some (.ref 900), some (.ref 0), some (.ref 127), some (.ref 169), some (.int i4), none, none] [] (ia, la, zRA pl dr cp cw rp) K else K (some (.int (0 : Int32))) (ia, la, zRA pl dr cp cw rp)) := by
  refine (Q_ic_eq (tgt := 1473) zm_241 (Or.inr (by decide)) D241_1256 (by decide)).trans ?_
  refine zif_c (fun h0_ => ?_) (fun h0_ => ?_)
  · rfl
  · refine (Q_iconst (v := 0) zm_241 (Or.inr (by decide)) D241_1259 (by decide)).trans ?_
    exact Q_zreturn zm_241 (Or.inr (by decide)) D241_1260 rfl (by decide)

theorem b241_1269 {d : Nat} {i4 : Int32} {s0 : Int32} {s1 : Int32} {ia : Nat → Nat → Int32} {la : Nat → Nat → Int64} {pl dr : Nat} {cp : Option Nat} {cw : Option Nat} {rp : Option Nat} {K : Option Value → zHP → Prop}  : zWP d 241 1269 [some (.ref 900), some (.ref 0), some (.ref 127), some (.ref 169), some (.int i4), none, none] [.int s1, .int s0] (ia, la, zRA pl dr cp cw rp) K = (if s0 = s1 then zWP d 241 1473 [some (.ref 900), some (.ref 0), some (.ref 127), some (.ref 169), some (.int i4), none, none] [] (ia, la, zRA pl dr cp cw rp) K else K (some (.int (0 : Int32))) (ia, la, zRA pl dr cp cw rp)) := by
  refine (Q_ic_eq (tgt := 1473) zm_241 (Or.inr (by decide)) D241_1269 (by decide)).trans ?_
  refine zif_c (fun h0_ => ?_) (fun h0_ => ?_)
  · rfl
  · refine (Q_iconst (v := 0) zm_241 (Or.inr (by decide)) D241_1272 (by decide)).trans ?_
    exact Q_zreturn zm_241 (Or.inr (by decide)) D241_1273 rfl (by decide)

theorem b241_1306 {d : Nat} {i4 : Int32} {s0 : Int32} {s1 : Int32} {ia : Nat → Nat → Int32} {la : Nat → Nat → Int64} {pl dr : Nat} {cp : Option Nat} {cw : Option Nat} {rp : Option Nat} {K : Option Value → zHP → Prop}  : zWP d 241 1306 [some (.ref 900), some (.ref 0), some (.ref 127), some (.ref 169), some (.int i4), none, none] [.int s1, .int s0] (ia, la, zRA pl dr cp cw rp) K = (if s0 = s1 then zWP d 241 1473 [some (.ref 900), some (.ref 0), some (.ref 127), some (.ref 169), some (.int i4), none, none] [] (ia, la, zRA pl dr cp cw rp) K else K (some (.int (0 : Int32))) (ia, la, zRA pl dr cp cw rp)) := by
  refine (Q_ic_eq (tgt := 1473) zm_241 (Or.inr (by decide)) D241_1306 (by decide)).trans ?_
  refine zif_c (fun h0_ => ?_) (fun h0_ => ?_)
  · rfl
  · refine (Q_iconst (v := 0) zm_241 (Or.inr (by decide)) D241_1309 (by decide)).trans ?_
    exact Q_zreturn zm_241 (Or.inr (by decide)) D241_1310 rfl (by decide)

theorem b241_1355 {d : Nat} {i4 : Int32} {s0 : Int32} {s1 : Int32} {ia : Nat → Nat → Int32} {la : Nat → Nat → Int64} {pl dr : Nat} {cp : Option Nat} {cw : Option Nat} {rp : Option Nat} {K : Option Value → zHP → Prop}  : zWP d 241 1355 [some (.ref 900), some (.ref 0), some (.ref 127), some (.ref 169), some (.int i4), none, none] [.int s1, .int s0] (ia, la, zRA pl dr cp cw rp) K = (if s0 = s1 then zWP d 241 1473 [some (.ref 900), some (.ref 0), some (.ref 127), some (.ref 169), some (.int i4), none, none] [] (ia, la, zRA pl dr cp cw rp) K else K (some (.int (0 : Int32))) (ia, la, zRA pl dr cp cw rp)) := by
  refine (Q_ic_eq (tgt := 1473) zm_241 (Or.inr (by decide)) D241_1355 (by decide)).trans ?_
  refine zif_c (fun h0_ => ?_) (fun h0_ => ?_)
  · rfl
  · refine (Q_iconst (v := 0) zm_241 (Or.inr (by decide)) D241_1358 (by decide)).trans ?_
    exact Q_zreturn zm_241 (Or.inr (by decide)) D241_1359 rfl (by decide)

theorem b241_1404 {d : Nat} {i4 : Int32} {s0 : Int32} {s1 : Int32} {ia : Nat → Nat → Int32} {la : Nat → Nat → Int64} {pl dr : Nat} {cp : Option Nat} {cw : Option Nat} {rp : Option Nat} {K : Option Value → zHP → Prop}  : zWP d 241 1404 [some (.ref 900), some (.ref 0), some (.ref 127), some (.ref 169), some (.int i4), none, none] [.int s1, .int s0] (ia, la, zRA pl dr cp cw rp) K = (if s0 = s1 then zWP d 241 1473 [some (.ref 900), some (.ref 0), some (.ref 127), some (.ref 169), some (.int i4), none, none] [] (ia, la, zRA pl dr cp cw rp) K else K (some (.int (0 : Int32))) (ia, la, zRA pl dr cp cw rp)) := by
  refine (Q_ic_eq (tgt := 1473) zm_241 (Or.inr (by decide)) D241_1404 (by decide)).trans ?_
  refine zif_c (fun h0_ => ?_) (fun h0_ => ?_)
  · rfl
  · refine (Q_iconst (v := 0) zm_241 (Or.inr (by decide)) D241_1407 (by decide)).trans ?_
    exact Q_zreturn zm_241 (Or.inr (by decide)) D241_1408 rfl (by decide)

theorem b241_1417 {d : Nat} {i4 : Int32} {s0 : Int32} {s1 : Int32} {ia : Nat → Nat → Int32} {la : Nat → Nat → Int64} {pl dr : Nat} {cp : Option Nat} {cw : Option Nat} {rp : Option Nat} {K : Option Value → zHP → Prop}  : zWP d 241 1417 [some (.ref 900), some (.ref 0), some (.ref 127), some (.ref 169), some (.int i4), none, none] [.int s1, .int s0] (ia, la, zRA pl dr cp cw rp) K = (if s0 = s1 then zWP d 241 1473 [some (.ref 900), some (.ref 0), some (.ref 127), some (.ref 169), some (.int i4), none, none] [] (ia, la, zRA pl dr cp cw rp) K else K (some (.int (0 : Int32))) (ia, la, zRA pl dr cp cw rp)) := by
  refine (Q_ic_eq (tgt := 1473) zm_241 (Or.inr (by decide)) D241_1417 (by decide)).trans ?_
  refine zif_c (fun h0_ => ?_) (fun h0_ => ?_)
  · rfl
  · refine (Q_iconst (v := 0) zm_241 (Or.inr (by decide)) D241_1420 (by decide)).trans ?_
    exact Q_zreturn zm_241 (Or.inr (by decide)) D241_1421 rfl (by decide)

theorem b241_1430 {d : Nat} {i4 : Int32} {s0 : Int32} {s1 : Int32} {ia : Nat → Nat → Int32} {la : Nat → Nat → Int64} {pl dr : Nat} {cp : Option Nat} {cw : Option Nat} {rp : Option Nat} {K : Option Value → zHP → Prop}  : zWP d 241 1430 [some (.ref 900), some (.ref 0), some (.ref 127), some (.ref 169), some (.int i4), none, none] [.int s1, .int s0] (ia, la, zRA pl dr cp cw rp) K = (if s0 = s1 then zWP d 241 1473 [some (.ref 900), some (.ref 0), some (.ref 127), some (.ref 169), some (.int i4), none, none] [] (ia, la, zRA pl dr cp cw rp) K else K (some (.int (0 : Int32))) (ia, la, zRA pl dr cp cw rp)) := by
  refine (Q_ic_eq (tgt := 1473) zm_241 (Or.inr (by decide)) D241_1430 (by decide)).trans ?_
  refine zif_c (fun h0_ => ?_) (fun h0_ => ?_)
  · rfl
  · refine (Q_iconst (v := 0) zm_241 (Or.inr (by decide)) D241_1433 (by decide)).trans ?_
    exact Q_zreturn zm_241 (Or.inr (by decide)) D241_1434 rfl (by decide)

theorem b241_1443 {d : Nat} {i4 : Int32} {s0 : Int32} {s1 : Int32} {ia : Nat → Nat → Int32} {la : Nat → Nat → Int64} {pl dr : Nat} {cp : Option Nat} {cw : Option Nat} {rp : Option Nat} {K : Option Value → zHP → Prop}  : zWP d 241 1443 [some (.ref 900), some (.ref 0), some (.ref 127), some (.ref 169), some (.int i4), none, none] [.int s1, .int s0] (ia, la, zRA pl dr cp cw rp) K = (if s0 = s1 then zWP d 241 1473 [some (.ref 900), some (.ref 0), some (.ref 127), some (.ref 169), some (.int i4), none, none] [] (ia, la, zRA pl dr cp cw rp) K else K (some (.int (0 : Int32))) (ia, la, zRA pl dr cp cw rp)) := by
  refine (Q_ic_eq (tgt := 1473) zm_241 (Or.inr (by decide)) D241_1443 (by decide)).trans ?_
  refine zif_c (fun h0_ => ?_) (fun h0_ => ?_)
  · rfl
  · refine (Q_iconst (v := 0) zm_241 (Or.inr (by decide)) D241_1446 (by decide)).trans ?_
    exact Q_zreturn zm_241 (Or.inr (by decide)) D241_1447 rfl (by decide)

theorem b241_1468 {d : Nat} {i4 : Int32} {s0 : Int32} {s1 : Int32} {ia : Nat → Nat → Int32} {la : Nat → Nat → Int64} {pl dr : Nat} {cp : Option Nat} {cw : Option Nat} {rp : Option Nat} {K : Option Value → zHP → Prop}  : zWP d 241 1468 [some (.ref 900), some (.ref 0), some (.ref 127), some (.ref 169), some (.int i4), none, none] [.int s1, .int s0] (ia, la, zRA pl dr cp cw rp) K = (if s0 = s1 then zWP d 241 1473 [some (.ref 900), some (.ref 0), some (.ref 127), some (.ref 169), some (.int i4), none, none] [] (ia, la, zRA pl dr cp cw rp) K else K (some (.int (0 : Int32))) (ia, la, zRA pl dr cp cw rp)) := by
  refine (Q_ic_eq (tgt := 1473) zm_241 (Or.inr (by decide)) D241_1468 (by decide)).trans ?_
  refine zif_c (fun h0_ => ?_) (fun h0_ => ?_)
  · rfl
  · refine (Q_iconst (v := 0) zm_241 (Or.inr (by decide)) D241_1471 (by decide)).trans ?_
    exact Q_zreturn zm_241 (Or.inr (by decide)) D241_1472 rfl (by decide)
