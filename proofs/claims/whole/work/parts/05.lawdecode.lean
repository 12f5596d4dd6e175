theorem dL_0 : decode code 0 = .ok (.new 7, 3) := by decide +kernel
theorem dL_3 : decode code 3 = .ok (.dup, 1) := by decide +kernel
theorem dL_4 : decode code 4 = .ok (.invokespecial 9, 3) := by decide +kernel
theorem dL_7 : decode code 7 = .ok (.astore_n 1, 1) := by decide +kernel
theorem dL_8 : decode code 8 = .ok (.new 10, 3) := by decide +kernel
theorem dL_11 : decode code 11 = .ok (.dup, 1) := by decide +kernel
theorem dL_12 : decode code 12 = .ok (.invokespecial 12, 3) := by decide +kernel
theorem dL_15 : decode code 15 = .ok (.astore_n 2, 1) := by decide +kernel
theorem dL_16 : decode code 16 = .ok (.iconst 0, 1) := by decide +kernel
theorem dL_17 : decode code 17 = .ok (.istore_n 3, 1) := by decide +kernel
theorem dL_18 : decode code 18 = .ok (.iload_n 3, 1) := by decide +kernel
theorem dL_19 : decode code 19 = .ok (.aload_n 0, 1) := by decide +kernel
theorem dL_20 : decode code 20 = .ok (.arraylength, 1) := by decide +kernel
theorem dL_21 : decode code 21 = .ok (.bipush 6, 2) := by decide +kernel
theorem dL_23 : decode code 23 = .ok (.isub, 1) := by decide +kernel
theorem dL_24 : decode code 24 = .ok (.if_icmp .gt 1291, 3) := by decide +kernel
theorem dL_27 : decode code 27 = .ok (.aload_n 0, 1) := by decide +kernel
theorem dL_28 : decode code 28 = .ok (.iload_n 3, 1) := by decide +kernel
theorem dL_29 : decode code 29 = .ok (.iaload, 1) := by decide +kernel
theorem dL_30 : decode code 30 = .ok (.bipush 63, 2) := by decide +kernel
theorem dL_32 : decode code 32 = .ok (.iand, 1) := by decide +kernel
theorem dL_33 : decode code 33 = .ok (.tableswitch 1276 0 44 #[195, 258, 301, 360, 383, 406, 429, 452, 475, 488, 511, 524, 537, 550, 563, 576, 589, 602, 615, 628, 651, 674, 697, 720, 743, 766, 789, 812, 835, 858, 881, 904, 927, 950, 973, 996, 1029, 1062, 1085, 1098, 1121, 1154, 1187, 1210, 1243], 195) := by decide +kernel
theorem dL_228 : decode code 228 = .ok (.aload_n 1, 1) := by decide +kernel
theorem dL_229 : decode code 229 = .ok (.aload_n 0, 1) := by decide +kernel
theorem dL_230 : decode code 230 = .ok (.iload_n 3, 1) := by decide +kernel
theorem dL_231 : decode code 231 = .ok (.iconst 1, 1) := by decide +kernel
theorem dL_232 : decode code 232 = .ok (.iadd, 1) := by decide +kernel
theorem dL_233 : decode code 233 = .ok (.iaload, 1) := by decide +kernel
theorem dL_234 : decode code 234 = .ok (.aload_n 0, 1) := by decide +kernel
theorem dL_235 : decode code 235 = .ok (.iload_n 3, 1) := by decide +kernel
theorem dL_236 : decode code 236 = .ok (.iconst 2, 1) := by decide +kernel
theorem dL_237 : decode code 237 = .ok (.iadd, 1) := by decide +kernel
theorem dL_238 : decode code 238 = .ok (.iaload, 1) := by decide +kernel
theorem dL_239 : decode code 239 = .ok (.aload_n 0, 1) := by decide +kernel
theorem dL_240 : decode code 240 = .ok (.iload_n 3, 1) := by decide +kernel
theorem dL_241 : decode code 241 = .ok (.iconst 3, 1) := by decide +kernel
theorem dL_242 : decode code 242 = .ok (.iadd, 1) := by decide +kernel
theorem dL_243 : decode code 243 = .ok (.iaload, 1) := by decide +kernel
theorem dL_244 : decode code 244 = .ok (.aload_n 0, 1) := by decide +kernel
theorem dL_245 : decode code 245 = .ok (.iload_n 3, 1) := by decide +kernel
theorem dL_246 : decode code 246 = .ok (.iconst 4, 1) := by decide +kernel
theorem dL_247 : decode code 247 = .ok (.iadd, 1) := by decide +kernel
theorem dL_248 : decode code 248 = .ok (.iaload, 1) := by decide +kernel
theorem dL_249 : decode code 249 = .ok (.aload_n 0, 1) := by decide +kernel
theorem dL_250 : decode code 250 = .ok (.iload_n 3, 1) := by decide +kernel
theorem dL_251 : decode code 251 = .ok (.iconst 5, 1) := by decide +kernel
theorem dL_252 : decode code 252 = .ok (.iadd, 1) := by decide +kernel
theorem dL_253 : decode code 253 = .ok (.iaload, 1) := by decide +kernel
theorem dL_254 : decode code 254 = .ok (.invokevirtual 13, 3) := by decide +kernel
theorem dL_257 : decode code 257 = .ok (.aload_n 2, 1) := by decide +kernel
theorem dL_258 : decode code 258 = .ok (.aload_n 0, 1) := by decide +kernel
theorem dL_259 : decode code 259 = .ok (.iload_n 3, 1) := by decide +kernel
theorem dL_260 : decode code 260 = .ok (.iconst 1, 1) := by decide +kernel
theorem dL_261 : decode code 261 = .ok (.iadd, 1) := by decide +kernel
theorem dL_262 : decode code 262 = .ok (.iaload, 1) := by decide +kernel
theorem dL_263 : decode code 263 = .ok (.aload_n 0, 1) := by decide +kernel
theorem dL_264 : decode code 264 = .ok (.iload_n 3, 1) := by decide +kernel
theorem dL_265 : decode code 265 = .ok (.iconst 2, 1) := by decide +kernel
theorem dL_266 : decode code 266 = .ok (.iadd, 1) := by decide +kernel
theorem dL_267 : decode code 267 = .ok (.iaload, 1) := by decide +kernel
theorem dL_268 : decode code 268 = .ok (.aload_n 0, 1) := by decide +kernel
theorem dL_269 : decode code 269 = .ok (.iload_n 3, 1) := by decide +kernel
theorem dL_270 : decode code 270 = .ok (.iconst 3, 1) := by decide +kernel
theorem dL_271 : decode code 271 = .ok (.iadd, 1) := by decide +kernel
theorem dL_272 : decode code 272 = .ok (.iaload, 1) := by decide +kernel
theorem dL_273 : decode code 273 = .ok (.aload_n 0, 1) := by decide +kernel
theorem dL_274 : decode code 274 = .ok (.iload_n 3, 1) := by decide +kernel
theorem dL_275 : decode code 275 = .ok (.iconst 4, 1) := by decide +kernel
theorem dL_276 : decode code 276 = .ok (.iadd, 1) := by decide +kernel
theorem dL_277 : decode code 277 = .ok (.iaload, 1) := by decide +kernel
theorem dL_278 : decode code 278 = .ok (.aload_n 0, 1) := by decide +kernel
theorem dL_279 : decode code 279 = .ok (.iload_n 3, 1) := by decide +kernel
theorem dL_280 : decode code 280 = .ok (.iconst 5, 1) := by decide +kernel
theorem dL_281 : decode code 281 = .ok (.iadd, 1) := by decide +kernel
theorem dL_282 : decode code 282 = .ok (.iaload, 1) := by decide +kernel
theorem dL_283 : decode code 283 = .ok (.invokevirtual 17, 3) := by decide +kernel
theorem dL_286 : decode code 286 = .ok (.if_icmp .eq 1023, 3) := by decide +kernel
theorem dL_289 : decode code 289 = .ok (.iconst 0, 1) := by decide +kernel
theorem dL_290 : decode code 290 = .ok (.ireturn, 1) := by decide +kernel
theorem dL_291 : decode code 291 = .ok (.aload_n 1, 1) := by decide +kernel
theorem dL_292 : decode code 292 = .ok (.aload_n 0, 1) := by decide +kernel
theorem dL_293 : decode code 293 = .ok (.iload_n 3, 1) := by decide +kernel
theorem dL_294 : decode code 294 = .ok (.iconst 1, 1) := by decide +kernel
theorem dL_295 : decode code 295 = .ok (.iadd, 1) := by decide +kernel
theorem dL_296 : decode code 296 = .ok (.iaload, 1) := by decide +kernel
theorem dL_297 : decode code 297 = .ok (.aload_n 0, 1) := by decide +kernel
theorem dL_298 : decode code 298 = .ok (.iload_n 3, 1) := by decide +kernel
theorem dL_299 : decode code 299 = .ok (.iconst 2, 1) := by decide +kernel
theorem dL_300 : decode code 300 = .ok (.iadd, 1) := by decide +kernel
theorem dL_301 : decode code 301 = .ok (.iaload, 1) := by decide +kernel
theorem dL_302 : decode code 302 = .ok (.aload_n 0, 1) := by decide +kernel
theorem dL_303 : decode code 303 = .ok (.iload_n 3, 1) := by decide +kernel
theorem dL_304 : decode code 304 = .ok (.iconst 3, 1) := by decide +kernel
theorem dL_305 : decode code 305 = .ok (.iadd, 1) := by decide +kernel
theorem dL_306 : decode code 306 = .ok (.iaload, 1) := by decide +kernel
theorem dL_307 : decode code 307 = .ok (.invokevirtual 18, 3) := by decide +kernel
theorem dL_310 : decode code 310 = .ok (.aload_n 2, 1) := by decide +kernel
theorem dL_311 : decode code 311 = .ok (.aload_n 0, 1) := by decide +kernel
theorem dL_312 : decode code 312 = .ok (.iload_n 3, 1) := by decide +kernel
theorem dL_313 : decode code 313 = .ok (.iconst 1, 1) := by decide +kernel
theorem dL_314 : decode code 314 = .ok (.iadd, 1) := by decide +kernel
theorem dL_315 : decode code 315 = .ok (.iaload, 1) := by decide +kernel
theorem dL_316 : decode code 316 = .ok (.aload_n 0, 1) := by decide +kernel
theorem dL_317 : decode code 317 = .ok (.iload_n 3, 1) := by decide +kernel
theorem dL_318 : decode code 318 = .ok (.iconst 2, 1) := by decide +kernel
theorem dL_319 : decode code 319 = .ok (.iadd, 1) := by decide +kernel
theorem dL_320 : decode code 320 = .ok (.iaload, 1) := by decide +kernel
theorem dL_321 : decode code 321 = .ok (.aload_n 0, 1) := by decide +kernel
theorem dL_322 : decode code 322 = .ok (.iload_n 3, 1) := by decide +kernel
theorem dL_323 : decode code 323 = .ok (.iconst 3, 1) := by decide +kernel
theorem dL_324 : decode code 324 = .ok (.iadd, 1) := by decide +kernel
theorem dL_325 : decode code 325 = .ok (.iaload, 1) := by decide +kernel
theorem dL_326 : decode code 326 = .ok (.invokevirtual 22, 3) := by decide +kernel
theorem dL_329 : decode code 329 = .ok (.if_icmp .eq 980, 3) := by decide +kernel
theorem dL_332 : decode code 332 = .ok (.iconst 0, 1) := by decide +kernel
theorem dL_333 : decode code 333 = .ok (.ireturn, 1) := by decide +kernel
theorem dL_334 : decode code 334 = .ok (.aload_n 1, 1) := by decide +kernel
theorem dL_335 : decode code 335 = .ok (.aload_n 0, 1) := by decide +kernel
theorem dL_336 : decode code 336 = .ok (.iload_n 3, 1) := by decide +kernel
theorem dL_337 : decode code 337 = .ok (.iconst 1, 1) := by decide +kernel
theorem dL_338 : decode code 338 = .ok (.iadd, 1) := by decide +kernel
theorem dL_339 : decode code 339 = .ok (.iaload, 1) := by decide +kernel
theorem dL_340 : decode code 340 = .ok (.aload_n 0, 1) := by decide +kernel
theorem dL_341 : decode code 341 = .ok (.iload_n 3, 1) := by decide +kernel
theorem dL_342 : decode code 342 = .ok (.iconst 2, 1) := by decide +kernel
theorem dL_343 : decode code 343 = .ok (.iadd, 1) := by decide +kernel
theorem dL_344 : decode code 344 = .ok (.iaload, 1) := by decide +kernel
theorem dL_345 : decode code 345 = .ok (.aload_n 0, 1) := by decide +kernel
theorem dL_346 : decode code 346 = .ok (.iload_n 3, 1) := by decide +kernel
theorem dL_347 : decode code 347 = .ok (.iconst 3, 1) := by decide +kernel
theorem dL_348 : decode code 348 = .ok (.iadd, 1) := by decide +kernel
theorem dL_349 : decode code 349 = .ok (.iaload, 1) := by decide +kernel
theorem dL_350 : decode code 350 = .ok (.ifCond .eq 7, 3) := by decide +kernel
theorem dL_353 : decode code 353 = .ok (.iconst 1, 1) := by decide +kernel
theorem dL_354 : decode code 354 = .ok (.goto 4, 3) := by decide +kernel
theorem dL_357 : decode code 357 = .ok (.iconst 0, 1) := by decide +kernel
theorem dL_358 : decode code 358 = .ok (.invokevirtual 23, 3) := by decide +kernel
theorem dL_361 : decode code 361 = .ok (.aload_n 2, 1) := by decide +kernel
theorem dL_362 : decode code 362 = .ok (.aload_n 0, 1) := by decide +kernel
theorem dL_363 : decode code 363 = .ok (.iload_n 3, 1) := by decide +kernel
theorem dL_364 : decode code 364 = .ok (.iconst 1, 1) := by decide +kernel
theorem dL_365 : decode code 365 = .ok (.iadd, 1) := by decide +kernel
theorem dL_366 : decode code 366 = .ok (.iaload, 1) := by decide +kernel
theorem dL_367 : decode code 367 = .ok (.aload_n 0, 1) := by decide +kernel
theorem dL_368 : decode code 368 = .ok (.iload_n 3, 1) := by decide +kernel
theorem dL_369 : decode code 369 = .ok (.iconst 2, 1) := by decide +kernel
theorem dL_370 : decode code 370 = .ok (.iadd, 1) := by decide +kernel
theorem dL_371 : decode code 371 = .ok (.iaload, 1) := by decide +kernel
theorem dL_372 : decode code 372 = .ok (.aload_n 0, 1) := by decide +kernel
theorem dL_373 : decode code 373 = .ok (.iload_n 3, 1) := by decide +kernel
theorem dL_374 : decode code 374 = .ok (.iconst 3, 1) := by decide +kernel
theorem dL_375 : decode code 375 = .ok (.iadd, 1) := by decide +kernel
theorem dL_376 : decode code 376 = .ok (.iaload, 1) := by decide +kernel
theorem dL_377 : decode code 377 = .ok (.ifCond .eq 7, 3) := by decide +kernel
theorem dL_380 : decode code 380 = .ok (.iconst 1, 1) := by decide +kernel
theorem dL_381 : decode code 381 = .ok (.goto 4, 3) := by decide +kernel
theorem dL_384 : decode code 384 = .ok (.iconst 0, 1) := by decide +kernel
theorem dL_385 : decode code 385 = .ok (.invokevirtual 27, 3) := by decide +kernel
theorem dL_388 : decode code 388 = .ok (.if_icmp .eq 921, 3) := by decide +kernel
theorem dL_391 : decode code 391 = .ok (.iconst 0, 1) := by decide +kernel
theorem dL_392 : decode code 392 = .ok (.ireturn, 1) := by decide +kernel
theorem dL_393 : decode code 393 = .ok (.aload_n 1, 1) := by decide +kernel
theorem dL_394 : decode code 394 = .ok (.aload_n 0, 1) := by decide +kernel
theorem dL_395 : decode code 395 = .ok (.iload_n 3, 1) := by decide +kernel
theorem dL_396 : decode code 396 = .ok (.iconst 1, 1) := by decide +kernel
theorem dL_397 : decode code 397 = .ok (.iadd, 1) := by decide +kernel
theorem dL_398 : decode code 398 = .ok (.iaload, 1) := by decide +kernel
theorem dL_399 : decode code 399 = .ok (.invokevirtual 28, 3) := by decide +kernel
theorem dL_402 : decode code 402 = .ok (.aload_n 2, 1) := by decide +kernel
theorem dL_403 : decode code 403 = .ok (.aload_n 0, 1) := by decide +kernel
theorem dL_404 : decode code 404 = .ok (.iload_n 3, 1) := by decide +kernel
theorem dL_405 : decode code 405 = .ok (.iconst 1, 1) := by decide +kernel
theorem dL_406 : decode code 406 = .ok (.iadd, 1) := by decide +kernel
theorem dL_407 : decode code 407 = .ok (.iaload, 1) := by decide +kernel
theorem dL_408 : decode code 408 = .ok (.invokevirtual 32, 3) := by decide +kernel
theorem dL_411 : decode code 411 = .ok (.if_icmp .eq 898, 3) := by decide +kernel
theorem dL_414 : decode code 414 = .ok (.iconst 0, 1) := by decide +kernel
theorem dL_415 : decode code 415 = .ok (.ireturn, 1) := by decide +kernel
theorem dL_416 : decode code 416 = .ok (.aload_n 1, 1) := by decide +kernel
theorem dL_417 : decode code 417 = .ok (.aload_n 0, 1) := by decide +kernel
theorem dL_418 : decode code 418 = .ok (.iload_n 3, 1) := by decide +kernel
theorem dL_419 : decode code 419 = .ok (.iconst 1, 1) := by decide +kernel
theorem dL_420 : decode code 420 = .ok (.iadd, 1) := by decide +kernel
theorem dL_421 : decode code 421 = .ok (.iaload, 1) := by decide +kernel
theorem dL_422 : decode code 422 = .ok (.invokevirtual 33, 3) := by decide +kernel
theorem dL_425 : decode code 425 = .ok (.aload_n 2, 1) := by decide +kernel
theorem dL_426 : decode code 426 = .ok (.aload_n 0, 1) := by decide +kernel
theorem dL_427 : decode code 427 = .ok (.iload_n 3, 1) := by decide +kernel
theorem dL_428 : decode code 428 = .ok (.iconst 1, 1) := by decide +kernel
theorem dL_429 : decode code 429 = .ok (.iadd, 1) := by decide +kernel
theorem dL_430 : decode code 430 = .ok (.iaload, 1) := by decide +kernel
theorem dL_431 : decode code 431 = .ok (.invokevirtual 36, 3) := by decide +kernel
theorem dL_434 : decode code 434 = .ok (.if_icmp .eq 875, 3) := by decide +kernel
theorem dL_437 : decode code 437 = .ok (.iconst 0, 1) := by decide +kernel
theorem dL_438 : decode code 438 = .ok (.ireturn, 1) := by decide +kernel
theorem dL_439 : decode code 439 = .ok (.aload_n 1, 1) := by decide +kernel
theorem dL_440 : decode code 440 = .ok (.aload_n 0, 1) := by decide +kernel
theorem dL_441 : decode code 441 = .ok (.iload_n 3, 1) := by decide +kernel
theorem dL_442 : decode code 442 = .ok (.iconst 1, 1) := by decide +kernel
theorem dL_443 : decode code 443 = .ok (.iadd, 1) := by decide +kernel
theorem dL_444 : decode code 444 = .ok (.iaload, 1) := by decide +kernel
theorem dL_445 : decode code 445 = .ok (.invokevirtual 37, 3) := by decide +kernel
theorem dL_448 : decode code 448 = .ok (.aload_n 2, 1) := by decide +kernel
theorem dL_449 : decode code 449 = .ok (.aload_n 0, 1) := by decide +kernel
theorem dL_450 : decode code 450 = .ok (.iload_n 3, 1) := by decide +kernel
theorem dL_451 : decode code 451 = .ok (.iconst 1, 1) := by decide +kernel
theorem dL_452 : decode code 452 = .ok (.iadd, 1) := by decide +kernel
theorem dL_453 : decode code 453 = .ok (.iaload, 1) := by decide +kernel
theorem dL_454 : decode code 454 = .ok (.invokevirtual 40, 3) := by decide +kernel
theorem dL_457 : decode code 457 = .ok (.if_icmp .eq 852, 3) := by decide +kernel
theorem dL_460 : decode code 460 = .ok (.iconst 0, 1) := by decide +kernel
theorem dL_461 : decode code 461 = .ok (.ireturn, 1) := by decide +kernel
theorem dL_462 : decode code 462 = .ok (.aload_n 1, 1) := by decide +kernel
theorem dL_463 : decode code 463 = .ok (.aload_n 0, 1) := by decide +kernel
theorem dL_464 : decode code 464 = .ok (.iload_n 3, 1) := by decide +kernel
theorem dL_465 : decode code 465 = .ok (.iconst 1, 1) := by decide +kernel
theorem dL_466 : decode code 466 = .ok (.iadd, 1) := by decide +kernel
theorem dL_467 : decode code 467 = .ok (.iaload, 1) := by decide +kernel
theorem dL_468 : decode code 468 = .ok (.invokevirtual 41, 3) := by decide +kernel
theorem dL_471 : decode code 471 = .ok (.aload_n 2, 1) := by decide +kernel
theorem dL_472 : decode code 472 = .ok (.aload_n 0, 1) := by decide +kernel
theorem dL_473 : decode code 473 = .ok (.iload_n 3, 1) := by decide +kernel
theorem dL_474 : decode code 474 = .ok (.iconst 1, 1) := by decide +kernel
theorem dL_475 : decode code 475 = .ok (.iadd, 1) := by decide +kernel
theorem dL_476 : decode code 476 = .ok (.iaload, 1) := by decide +kernel
theorem dL_477 : decode code 477 = .ok (.invokevirtual 44, 3) := by decide +kernel
theorem dL_480 : decode code 480 = .ok (.if_icmp .eq 829, 3) := by decide +kernel
theorem dL_483 : decode code 483 = .ok (.iconst 0, 1) := by decide +kernel
theorem dL_484 : decode code 484 = .ok (.ireturn, 1) := by decide +kernel
theorem dL_485 : decode code 485 = .ok (.aload_n 1, 1) := by decide +kernel
theorem dL_486 : decode code 486 = .ok (.aload_n 0, 1) := by decide +kernel
theorem dL_487 : decode code 487 = .ok (.iload_n 3, 1) := by decide +kernel
theorem dL_488 : decode code 488 = .ok (.iconst 1, 1) := by decide +kernel
theorem dL_489 : decode code 489 = .ok (.iadd, 1) := by decide +kernel
theorem dL_490 : decode code 490 = .ok (.iaload, 1) := by decide +kernel
theorem dL_491 : decode code 491 = .ok (.invokevirtual 45, 3) := by decide +kernel
theorem dL_494 : decode code 494 = .ok (.aload_n 2, 1) := by decide +kernel
theorem dL_495 : decode code 495 = .ok (.aload_n 0, 1) := by decide +kernel
theorem dL_496 : decode code 496 = .ok (.iload_n 3, 1) := by decide +kernel
theorem dL_497 : decode code 497 = .ok (.iconst 1, 1) := by decide +kernel
theorem dL_498 : decode code 498 = .ok (.iadd, 1) := by decide +kernel
theorem dL_499 : decode code 499 = .ok (.iaload, 1) := by decide +kernel
theorem dL_500 : decode code 500 = .ok (.invokevirtual 48, 3) := by decide +kernel
theorem dL_503 : decode code 503 = .ok (.if_icmp .eq 806, 3) := by decide +kernel
theorem dL_506 : decode code 506 = .ok (.iconst 0, 1) := by decide +kernel
theorem dL_507 : decode code 507 = .ok (.ireturn, 1) := by decide +kernel
theorem dL_508 : decode code 508 = .ok (.aload_n 1, 1) := by decide +kernel
theorem dL_509 : decode code 509 = .ok (.invokevirtual 49, 3) := by decide +kernel
theorem dL_512 : decode code 512 = .ok (.aload_n 2, 1) := by decide +kernel
theorem dL_513 : decode code 513 = .ok (.invokevirtual 53, 3) := by decide +kernel
theorem dL_516 : decode code 516 = .ok (.if_icmp .eq 793, 3) := by decide +kernel
theorem dL_519 : decode code 519 = .ok (.iconst 0, 1) := by decide +kernel
theorem dL_520 : decode code 520 = .ok (.ireturn, 1) := by decide +kernel
theorem dL_521 : decode code 521 = .ok (.aload_n 1, 1) := by decide +kernel
theorem dL_522 : decode code 522 = .ok (.aload_n 0, 1) := by decide +kernel
theorem dL_523 : decode code 523 = .ok (.iload_n 3, 1) := by decide +kernel
theorem dL_524 : decode code 524 = .ok (.iconst 1, 1) := by decide +kernel
theorem dL_525 : decode code 525 = .ok (.iadd, 1) := by decide +kernel
theorem dL_526 : decode code 526 = .ok (.iaload, 1) := by decide +kernel
theorem dL_527 : decode code 527 = .ok (.invokevirtual 54, 3) := by decide +kernel
theorem dL_530 : decode code 530 = .ok (.aload_n 2, 1) := by decide +kernel
theorem dL_531 : decode code 531 = .ok (.aload_n 0, 1) := by decide +kernel
theorem dL_532 : decode code 532 = .ok (.iload_n 3, 1) := by decide +kernel
theorem dL_533 : decode code 533 = .ok (.iconst 1, 1) := by decide +kernel
theorem dL_534 : decode code 534 = .ok (.iadd, 1) := by decide +kernel
theorem dL_535 : decode code 535 = .ok (.iaload, 1) := by decide +kernel
theorem dL_536 : decode code 536 = .ok (.invokevirtual 57, 3) := by decide +kernel
theorem dL_539 : decode code 539 = .ok (.if_icmp .eq 770, 3) := by decide +kernel
theorem dL_542 : decode code 542 = .ok (.iconst 0, 1) := by decide +kernel
theorem dL_543 : decode code 543 = .ok (.ireturn, 1) := by decide +kernel
theorem dL_544 : decode code 544 = .ok (.aload_n 1, 1) := by decide +kernel
theorem dL_545 : decode code 545 = .ok (.invokevirtual 58, 3) := by decide +kernel
theorem dL_548 : decode code 548 = .ok (.aload_n 2, 1) := by decide +kernel
theorem dL_549 : decode code 549 = .ok (.invokevirtual 61, 3) := by decide +kernel
theorem dL_552 : decode code 552 = .ok (.if_icmp .eq 757, 3) := by decide +kernel
theorem dL_555 : decode code 555 = .ok (.iconst 0, 1) := by decide +kernel
theorem dL_556 : decode code 556 = .ok (.ireturn, 1) := by decide +kernel
theorem dL_557 : decode code 557 = .ok (.aload_n 1, 1) := by decide +kernel
theorem dL_558 : decode code 558 = .ok (.invokevirtual 62, 3) := by decide +kernel
theorem dL_561 : decode code 561 = .ok (.aload_n 2, 1) := by decide +kernel
theorem dL_562 : decode code 562 = .ok (.invokevirtual 65, 3) := by decide +kernel
theorem dL_565 : decode code 565 = .ok (.if_icmp .eq 744, 3) := by decide +kernel
theorem dL_568 : decode code 568 = .ok (.iconst 0, 1) := by decide +kernel
theorem dL_569 : decode code 569 = .ok (.ireturn, 1) := by decide +kernel
theorem dL_570 : decode code 570 = .ok (.aload_n 1, 1) := by decide +kernel
theorem dL_571 : decode code 571 = .ok (.invokevirtual 66, 3) := by decide +kernel
theorem dL_574 : decode code 574 = .ok (.aload_n 2, 1) := by decide +kernel
theorem dL_575 : decode code 575 = .ok (.invokevirtual 69, 3) := by decide +kernel
theorem dL_578 : decode code 578 = .ok (.if_icmp .eq 731, 3) := by decide +kernel
theorem dL_581 : decode code 581 = .ok (.iconst 0, 1) := by decide +kernel
theorem dL_582 : decode code 582 = .ok (.ireturn, 1) := by decide +kernel
theorem dL_583 : decode code 583 = .ok (.aload_n 1, 1) := by decide +kernel
theorem dL_584 : decode code 584 = .ok (.invokevirtual 70, 3) := by decide +kernel
theorem dL_587 : decode code 587 = .ok (.aload_n 2, 1) := by decide +kernel
theorem dL_588 : decode code 588 = .ok (.invokevirtual 73, 3) := by decide +kernel
theorem dL_591 : decode code 591 = .ok (.if_icmp .eq 718, 3) := by decide +kernel
theorem dL_594 : decode code 594 = .ok (.iconst 0, 1) := by decide +kernel
theorem dL_595 : decode code 595 = .ok (.ireturn, 1) := by decide +kernel
theorem dL_596 : decode code 596 = .ok (.aload_n 1, 1) := by decide +kernel
theorem dL_597 : decode code 597 = .ok (.invokevirtual 74, 3) := by decide +kernel
theorem dL_600 : decode code 600 = .ok (.aload_n 2, 1) := by decide +kernel
theorem dL_601 : decode code 601 = .ok (.invokevirtual 77, 3) := by decide +kernel
theorem dL_604 : decode code 604 = .ok (.if_icmp .eq 705, 3) := by decide +kernel
theorem dL_607 : decode code 607 = .ok (.iconst 0, 1) := by decide +kernel
theorem dL_608 : decode code 608 = .ok (.ireturn, 1) := by decide +kernel
theorem dL_609 : decode code 609 = .ok (.aload_n 1, 1) := by decide +kernel
theorem dL_610 : decode code 610 = .ok (.invokevirtual 78, 3) := by decide +kernel
theorem dL_613 : decode code 613 = .ok (.aload_n 2, 1) := by decide +kernel
theorem dL_614 : decode code 614 = .ok (.invokevirtual 81, 3) := by decide +kernel
theorem dL_617 : decode code 617 = .ok (.if_icmp .eq 692, 3) := by decide +kernel
theorem dL_620 : decode code 620 = .ok (.iconst 0, 1) := by decide +kernel
theorem dL_621 : decode code 621 = .ok (.ireturn, 1) := by decide +kernel
theorem dL_622 : decode code 622 = .ok (.aload_n 1, 1) := by decide +kernel
theorem dL_623 : decode code 623 = .ok (.invokevirtual 82, 3) := by decide +kernel
theorem dL_626 : decode code 626 = .ok (.aload_n 2, 1) := by decide +kernel
theorem dL_627 : decode code 627 = .ok (.invokevirtual 85, 3) := by decide +kernel
theorem dL_630 : decode code 630 = .ok (.if_icmp .eq 679, 3) := by decide +kernel
theorem dL_633 : decode code 633 = .ok (.iconst 0, 1) := by decide +kernel
theorem dL_634 : decode code 634 = .ok (.ireturn, 1) := by decide +kernel
theorem dL_635 : decode code 635 = .ok (.aload_n 1, 1) := by decide +kernel
theorem dL_636 : decode code 636 = .ok (.invokevirtual 86, 3) := by decide +kernel
theorem dL_639 : decode code 639 = .ok (.aload_n 2, 1) := by decide +kernel
theorem dL_640 : decode code 640 = .ok (.invokevirtual 89, 3) := by decide +kernel
theorem dL_643 : decode code 643 = .ok (.if_icmp .eq 666, 3) := by decide +kernel
theorem dL_646 : decode code 646 = .ok (.iconst 0, 1) := by decide +kernel
theorem dL_647 : decode code 647 = .ok (.ireturn, 1) := by decide +kernel
theorem dL_648 : decode code 648 = .ok (.aload_n 1, 1) := by decide +kernel
theorem dL_649 : decode code 649 = .ok (.invokevirtual 90, 3) := by decide +kernel
theorem dL_652 : decode code 652 = .ok (.aload_n 2, 1) := by decide +kernel
theorem dL_653 : decode code 653 = .ok (.invokevirtual 93, 3) := by decide +kernel
theorem dL_656 : decode code 656 = .ok (.if_icmp .eq 653, 3) := by decide +kernel
theorem dL_659 : decode code 659 = .ok (.iconst 0, 1) := by decide +kernel
theorem dL_660 : decode code 660 = .ok (.ireturn, 1) := by decide +kernel
theorem dL_661 : decode code 661 = .ok (.aload_n 1, 1) := by decide +kernel
theorem dL_662 : decode code 662 = .ok (.aload_n 0, 1) := by decide +kernel
theorem dL_663 : decode code 663 = .ok (.iload_n 3, 1) := by decide +kernel
theorem dL_664 : decode code 664 = .ok (.iconst 1, 1) := by decide +kernel
theorem dL_665 : decode code 665 = .ok (.iadd, 1) := by decide +kernel
theorem dL_666 : decode code 666 = .ok (.iaload, 1) := by decide +kernel
theorem dL_667 : decode code 667 = .ok (.invokevirtual 94, 3) := by decide +kernel
theorem dL_670 : decode code 670 = .ok (.aload_n 2, 1) := by decide +kernel
theorem dL_671 : decode code 671 = .ok (.aload_n 0, 1) := by decide +kernel
theorem dL_672 : decode code 672 = .ok (.iload_n 3, 1) := by decide +kernel
theorem dL_673 : decode code 673 = .ok (.iconst 1, 1) := by decide +kernel
theorem dL_674 : decode code 674 = .ok (.iadd, 1) := by decide +kernel
theorem dL_675 : decode code 675 = .ok (.iaload, 1) := by decide +kernel
theorem dL_676 : decode code 676 = .ok (.invokevirtual 97, 3) := by decide +kernel
theorem dL_679 : decode code 679 = .ok (.if_icmp .eq 630, 3) := by decide +kernel
theorem dL_682 : decode code 682 = .ok (.iconst 0, 1) := by decide +kernel
theorem dL_683 : decode code 683 = .ok (.ireturn, 1) := by decide +kernel
theorem dL_684 : decode code 684 = .ok (.aload_n 1, 1) := by decide +kernel
theorem dL_685 : decode code 685 = .ok (.aload_n 0, 1) := by decide +kernel
theorem dL_686 : decode code 686 = .ok (.iload_n 3, 1) := by decide +kernel
theorem dL_687 : decode code 687 = .ok (.iconst 1, 1) := by decide +kernel
theorem dL_688 : decode code 688 = .ok (.iadd, 1) := by decide +kernel
theorem dL_689 : decode code 689 = .ok (.iaload, 1) := by decide +kernel
theorem dL_690 : decode code 690 = .ok (.invokevirtual 98, 3) := by decide +kernel
theorem dL_693 : decode code 693 = .ok (.aload_n 2, 1) := by decide +kernel
theorem dL_694 : decode code 694 = .ok (.aload_n 0, 1) := by decide +kernel
theorem dL_695 : decode code 695 = .ok (.iload_n 3, 1) := by decide +kernel
theorem dL_696 : decode code 696 = .ok (.iconst 1, 1) := by decide +kernel
theorem dL_697 : decode code 697 = .ok (.iadd, 1) := by decide +kernel
theorem dL_698 : decode code 698 = .ok (.iaload, 1) := by decide +kernel
theorem dL_699 : decode code 699 = .ok (.invokevirtual 101, 3) := by decide +kernel
theorem dL_702 : decode code 702 = .ok (.if_icmp .eq 607, 3) := by decide +kernel
theorem dL_705 : decode code 705 = .ok (.iconst 0, 1) := by decide +kernel
theorem dL_706 : decode code 706 = .ok (.ireturn, 1) := by decide +kernel
theorem dL_707 : decode code 707 = .ok (.aload_n 1, 1) := by decide +kernel
theorem dL_708 : decode code 708 = .ok (.aload_n 0, 1) := by decide +kernel
theorem dL_709 : decode code 709 = .ok (.iload_n 3, 1) := by decide +kernel
theorem dL_710 : decode code 710 = .ok (.iconst 1, 1) := by decide +kernel
theorem dL_711 : decode code 711 = .ok (.iadd, 1) := by decide +kernel
theorem dL_712 : decode code 712 = .ok (.iaload, 1) := by decide +kernel
theorem dL_713 : decode code 713 = .ok (.invokevirtual 102, 3) := by decide +kernel
theorem dL_716 : decode code 716 = .ok (.aload_n 2, 1) := by decide +kernel
theorem dL_717 : decode code 717 = .ok (.aload_n 0, 1) := by decide +kernel
theorem dL_718 : decode code 718 = .ok (.iload_n 3, 1) := by decide +kernel
theorem dL_719 : decode code 719 = .ok (.iconst 1, 1) := by decide +kernel
theorem dL_720 : decode code 720 = .ok (.iadd, 1) := by decide +kernel
theorem dL_721 : decode code 721 = .ok (.iaload, 1) := by decide +kernel
theorem dL_722 : decode code 722 = .ok (.invokevirtual 105, 3) := by decide +kernel
theorem dL_725 : decode code 725 = .ok (.if_icmp .eq 584, 3) := by decide +kernel
theorem dL_728 : decode code 728 = .ok (.iconst 0, 1) := by decide +kernel
theorem dL_729 : decode code 729 = .ok (.ireturn, 1) := by decide +kernel
theorem dL_730 : decode code 730 = .ok (.aload_n 1, 1) := by decide +kernel
theorem dL_731 : decode code 731 = .ok (.aload_n 0, 1) := by decide +kernel
theorem dL_732 : decode code 732 = .ok (.iload_n 3, 1) := by decide +kernel
theorem dL_733 : decode code 733 = .ok (.iconst 1, 1) := by decide +kernel
theorem dL_734 : decode code 734 = .ok (.iadd, 1) := by decide +kernel
theorem dL_735 : decode code 735 = .ok (.iaload, 1) := by decide +kernel
theorem dL_736 : decode code 736 = .ok (.invokevirtual 106, 3) := by decide +kernel
theorem dL_739 : decode code 739 = .ok (.aload_n 2, 1) := by decide +kernel
theorem dL_740 : decode code 740 = .ok (.aload_n 0, 1) := by decide +kernel
theorem dL_741 : decode code 741 = .ok (.iload_n 3, 1) := by decide +kernel
theorem dL_742 : decode code 742 = .ok (.iconst 1, 1) := by decide +kernel
theorem dL_743 : decode code 743 = .ok (.iadd, 1) := by decide +kernel
theorem dL_744 : decode code 744 = .ok (.iaload, 1) := by decide +kernel
theorem dL_745 : decode code 745 = .ok (.invokevirtual 109, 3) := by decide +kernel
theorem dL_748 : decode code 748 = .ok (.if_icmp .eq 561, 3) := by decide +kernel
theorem dL_751 : decode code 751 = .ok (.iconst 0, 1) := by decide +kernel
theorem dL_752 : decode code 752 = .ok (.ireturn, 1) := by decide +kernel
theorem dL_753 : decode code 753 = .ok (.aload_n 1, 1) := by decide +kernel
theorem dL_754 : decode code 754 = .ok (.aload_n 0, 1) := by decide +kernel
theorem dL_755 : decode code 755 = .ok (.iload_n 3, 1) := by decide +kernel
theorem dL_756 : decode code 756 = .ok (.iconst 1, 1) := by decide +kernel
theorem dL_757 : decode code 757 = .ok (.iadd, 1) := by decide +kernel
theorem dL_758 : decode code 758 = .ok (.iaload, 1) := by decide +kernel
theorem dL_759 : decode code 759 = .ok (.invokevirtual 110, 3) := by decide +kernel
theorem dL_762 : decode code 762 = .ok (.aload_n 2, 1) := by decide +kernel
theorem dL_763 : decode code 763 = .ok (.aload_n 0, 1) := by decide +kernel
theorem dL_764 : decode code 764 = .ok (.iload_n 3, 1) := by decide +kernel
theorem dL_765 : decode code 765 = .ok (.iconst 1, 1) := by decide +kernel
theorem dL_766 : decode code 766 = .ok (.iadd, 1) := by decide +kernel
theorem dL_767 : decode code 767 = .ok (.iaload, 1) := by decide +kernel
theorem dL_768 : decode code 768 = .ok (.invokevirtual 113, 3) := by decide +kernel
theorem dL_771 : decode code 771 = .ok (.if_icmp .eq 538, 3) := by decide +kernel
theorem dL_774 : decode code 774 = .ok (.iconst 0, 1) := by decide +kernel
theorem dL_775 : decode code 775 = .ok (.ireturn, 1) := by decide +kernel
theorem dL_776 : decode code 776 = .ok (.aload_n 1, 1) := by decide +kernel
theorem dL_777 : decode code 777 = .ok (.aload_n 0, 1) := by decide +kernel
theorem dL_778 : decode code 778 = .ok (.iload_n 3, 1) := by decide +kernel
theorem dL_779 : decode code 779 = .ok (.iconst 1, 1) := by decide +kernel
theorem dL_780 : decode code 780 = .ok (.iadd, 1) := by decide +kernel
theorem dL_781 : decode code 781 = .ok (.iaload, 1) := by decide +kernel
theorem dL_782 : decode code 782 = .ok (.invokevirtual 114, 3) := by decide +kernel
theorem dL_785 : decode code 785 = .ok (.aload_n 2, 1) := by decide +kernel
theorem dL_786 : decode code 786 = .ok (.aload_n 0, 1) := by decide +kernel
theorem dL_787 : decode code 787 = .ok (.iload_n 3, 1) := by decide +kernel
theorem dL_788 : decode code 788 = .ok (.iconst 1, 1) := by decide +kernel
theorem dL_789 : decode code 789 = .ok (.iadd, 1) := by decide +kernel
theorem dL_790 : decode code 790 = .ok (.iaload, 1) := by decide +kernel
theorem dL_791 : decode code 791 = .ok (.invokevirtual 117, 3) := by decide +kernel
theorem dL_794 : decode code 794 = .ok (.if_icmp .eq 515, 3) := by decide +kernel
theorem dL_797 : decode code 797 = .ok (.iconst 0, 1) := by decide +kernel
theorem dL_798 : decode code 798 = .ok (.ireturn, 1) := by decide +kernel
theorem dL_799 : decode code 799 = .ok (.aload_n 1, 1) := by decide +kernel
theorem dL_800 : decode code 800 = .ok (.aload_n 0, 1) := by decide +kernel
theorem dL_801 : decode code 801 = .ok (.iload_n 3, 1) := by decide +kernel
theorem dL_802 : decode code 802 = .ok (.iconst 1, 1) := by decide +kernel
theorem dL_803 : decode code 803 = .ok (.iadd, 1) := by decide +kernel
theorem dL_804 : decode code 804 = .ok (.iaload, 1) := by decide +kernel
theorem dL_805 : decode code 805 = .ok (.invokevirtual 118, 3) := by decide +kernel
theorem dL_808 : decode code 808 = .ok (.aload_n 2, 1) := by decide +kernel
theorem dL_809 : decode code 809 = .ok (.aload_n 0, 1) := by decide +kernel
theorem dL_810 : decode code 810 = .ok (.iload_n 3, 1) := by decide +kernel
theorem dL_811 : decode code 811 = .ok (.iconst 1, 1) := by decide +kernel
theorem dL_812 : decode code 812 = .ok (.iadd, 1) := by decide +kernel
theorem dL_813 : decode code 813 = .ok (.iaload, 1) := by decide +kernel
theorem dL_814 : decode code 814 = .ok (.invokevirtual 121, 3) := by decide +kernel
theorem dL_817 : decode code 817 = .ok (.if_icmp .eq 492, 3) := by decide +kernel
theorem dL_820 : decode code 820 = .ok (.iconst 0, 1) := by decide +kernel
theorem dL_821 : decode code 821 = .ok (.ireturn, 1) := by decide +kernel
theorem dL_822 : decode code 822 = .ok (.aload_n 1, 1) := by decide +kernel
theorem dL_823 : decode code 823 = .ok (.aload_n 0, 1) := by decide +kernel
theorem dL_824 : decode code 824 = .ok (.iload_n 3, 1) := by decide +kernel
theorem dL_825 : decode code 825 = .ok (.iconst 1, 1) := by decide +kernel
theorem dL_826 : decode code 826 = .ok (.iadd, 1) := by decide +kernel
theorem dL_827 : decode code 827 = .ok (.iaload, 1) := by decide +kernel
theorem dL_828 : decode code 828 = .ok (.invokevirtual 122, 3) := by decide +kernel
theorem dL_831 : decode code 831 = .ok (.aload_n 2, 1) := by decide +kernel
theorem dL_832 : decode code 832 = .ok (.aload_n 0, 1) := by decide +kernel
theorem dL_833 : decode code 833 = .ok (.iload_n 3, 1) := by decide +kernel
theorem dL_834 : decode code 834 = .ok (.iconst 1, 1) := by decide +kernel
theorem dL_835 : decode code 835 = .ok (.iadd, 1) := by decide +kernel
theorem dL_836 : decode code 836 = .ok (.iaload, 1) := by decide +kernel
theorem dL_837 : decode code 837 = .ok (.invokevirtual 125, 3) := by decide +kernel
theorem dL_840 : decode code 840 = .ok (.if_icmp .eq 469, 3) := by decide +kernel
theorem dL_843 : decode code 843 = .ok (.iconst 0, 1) := by decide +kernel
theorem dL_844 : decode code 844 = .ok (.ireturn, 1) := by decide +kernel
theorem dL_845 : decode code 845 = .ok (.aload_n 1, 1) := by decide +kernel
theorem dL_846 : decode code 846 = .ok (.aload_n 0, 1) := by decide +kernel
theorem dL_847 : decode code 847 = .ok (.iload_n 3, 1) := by decide +kernel
theorem dL_848 : decode code 848 = .ok (.iconst 1, 1) := by decide +kernel
theorem dL_849 : decode code 849 = .ok (.iadd, 1) := by decide +kernel
theorem dL_850 : decode code 850 = .ok (.iaload, 1) := by decide +kernel
theorem dL_851 : decode code 851 = .ok (.invokevirtual 126, 3) := by decide +kernel
theorem dL_854 : decode code 854 = .ok (.aload_n 2, 1) := by decide +kernel
theorem dL_855 : decode code 855 = .ok (.aload_n 0, 1) := by decide +kernel
theorem dL_856 : decode code 856 = .ok (.iload_n 3, 1) := by decide +kernel
theorem dL_857 : decode code 857 = .ok (.iconst 1, 1) := by decide +kernel
theorem dL_858 : decode code 858 = .ok (.iadd, 1) := by decide +kernel
theorem dL_859 : decode code 859 = .ok (.iaload, 1) := by decide +kernel
theorem dL_860 : decode code 860 = .ok (.invokevirtual 129, 3) := by decide +kernel
theorem dL_863 : decode code 863 = .ok (.if_icmp .eq 446, 3) := by decide +kernel
theorem dL_866 : decode code 866 = .ok (.iconst 0, 1) := by decide +kernel
theorem dL_867 : decode code 867 = .ok (.ireturn, 1) := by decide +kernel
theorem dL_868 : decode code 868 = .ok (.aload_n 1, 1) := by decide +kernel
theorem dL_869 : decode code 869 = .ok (.aload_n 0, 1) := by decide +kernel
theorem dL_870 : decode code 870 = .ok (.iload_n 3, 1) := by decide +kernel
theorem dL_871 : decode code 871 = .ok (.iconst 1, 1) := by decide +kernel
theorem dL_872 : decode code 872 = .ok (.iadd, 1) := by decide +kernel
theorem dL_873 : decode code 873 = .ok (.iaload, 1) := by decide +kernel
theorem dL_874 : decode code 874 = .ok (.invokevirtual 130, 3) := by decide +kernel
theorem dL_877 : decode code 877 = .ok (.aload_n 2, 1) := by decide +kernel
theorem dL_878 : decode code 878 = .ok (.aload_n 0, 1) := by decide +kernel
theorem dL_879 : decode code 879 = .ok (.iload_n 3, 1) := by decide +kernel
theorem dL_880 : decode code 880 = .ok (.iconst 1, 1) := by decide +kernel
theorem dL_881 : decode code 881 = .ok (.iadd, 1) := by decide +kernel
theorem dL_882 : decode code 882 = .ok (.iaload, 1) := by decide +kernel
theorem dL_883 : decode code 883 = .ok (.invokevirtual 133, 3) := by decide +kernel
theorem dL_886 : decode code 886 = .ok (.if_icmp .eq 423, 3) := by decide +kernel
theorem dL_889 : decode code 889 = .ok (.iconst 0, 1) := by decide +kernel
theorem dL_890 : decode code 890 = .ok (.ireturn, 1) := by decide +kernel
theorem dL_891 : decode code 891 = .ok (.aload_n 1, 1) := by decide +kernel
theorem dL_892 : decode code 892 = .ok (.aload_n 0, 1) := by decide +kernel
theorem dL_893 : decode code 893 = .ok (.iload_n 3, 1) := by decide +kernel
theorem dL_894 : decode code 894 = .ok (.iconst 1, 1) := by decide +kernel
theorem dL_895 : decode code 895 = .ok (.iadd, 1) := by decide +kernel
theorem dL_896 : decode code 896 = .ok (.iaload, 1) := by decide +kernel
theorem dL_897 : decode code 897 = .ok (.invokevirtual 134, 3) := by decide +kernel
theorem dL_900 : decode code 900 = .ok (.aload_n 2, 1) := by decide +kernel
theorem dL_901 : decode code 901 = .ok (.aload_n 0, 1) := by decide +kernel
theorem dL_902 : decode code 902 = .ok (.iload_n 3, 1) := by decide +kernel
theorem dL_903 : decode code 903 = .ok (.iconst 1, 1) := by decide +kernel
theorem dL_904 : decode code 904 = .ok (.iadd, 1) := by decide +kernel
theorem dL_905 : decode code 905 = .ok (.iaload, 1) := by decide +kernel
theorem dL_906 : decode code 906 = .ok (.invokevirtual 137, 3) := by decide +kernel
theorem dL_909 : decode code 909 = .ok (.if_icmp .eq 400, 3) := by decide +kernel
theorem dL_912 : decode code 912 = .ok (.iconst 0, 1) := by decide +kernel
theorem dL_913 : decode code 913 = .ok (.ireturn, 1) := by decide +kernel
theorem dL_914 : decode code 914 = .ok (.aload_n 1, 1) := by decide +kernel
theorem dL_915 : decode code 915 = .ok (.aload_n 0, 1) := by decide +kernel
theorem dL_916 : decode code 916 = .ok (.iload_n 3, 1) := by decide +kernel
theorem dL_917 : decode code 917 = .ok (.iconst 1, 1) := by decide +kernel
theorem dL_918 : decode code 918 = .ok (.iadd, 1) := by decide +kernel
theorem dL_919 : decode code 919 = .ok (.iaload, 1) := by decide +kernel
theorem dL_920 : decode code 920 = .ok (.invokevirtual 138, 3) := by decide +kernel
theorem dL_923 : decode code 923 = .ok (.aload_n 2, 1) := by decide +kernel
theorem dL_924 : decode code 924 = .ok (.aload_n 0, 1) := by decide +kernel
theorem dL_925 : decode code 925 = .ok (.iload_n 3, 1) := by decide +kernel
theorem dL_926 : decode code 926 = .ok (.iconst 1, 1) := by decide +kernel
theorem dL_927 : decode code 927 = .ok (.iadd, 1) := by decide +kernel
theorem dL_928 : decode code 928 = .ok (.iaload, 1) := by decide +kernel
theorem dL_929 : decode code 929 = .ok (.invokevirtual 141, 3) := by decide +kernel
theorem dL_932 : decode code 932 = .ok (.if_icmp .eq 377, 3) := by decide +kernel
theorem dL_935 : decode code 935 = .ok (.iconst 0, 1) := by decide +kernel
theorem dL_936 : decode code 936 = .ok (.ireturn, 1) := by decide +kernel
theorem dL_937 : decode code 937 = .ok (.aload_n 1, 1) := by decide +kernel
theorem dL_938 : decode code 938 = .ok (.aload_n 0, 1) := by decide +kernel
theorem dL_939 : decode code 939 = .ok (.iload_n 3, 1) := by decide +kernel
theorem dL_940 : decode code 940 = .ok (.iconst 1, 1) := by decide +kernel
theorem dL_941 : decode code 941 = .ok (.iadd, 1) := by decide +kernel
theorem dL_942 : decode code 942 = .ok (.iaload, 1) := by decide +kernel
theorem dL_943 : decode code 943 = .ok (.invokevirtual 142, 3) := by decide +kernel
theorem dL_946 : decode code 946 = .ok (.aload_n 2, 1) := by decide +kernel
theorem dL_947 : decode code 947 = .ok (.aload_n 0, 1) := by decide +kernel
theorem dL_948 : decode code 948 = .ok (.iload_n 3, 1) := by decide +kernel
theorem dL_949 : decode code 949 = .ok (.iconst 1, 1) := by decide +kernel
theorem dL_950 : decode code 950 = .ok (.iadd, 1) := by decide +kernel
theorem dL_951 : decode code 951 = .ok (.iaload, 1) := by decide +kernel
theorem dL_952 : decode code 952 = .ok (.invokevirtual 145, 3) := by decide +kernel
theorem dL_955 : decode code 955 = .ok (.if_icmp .eq 354, 3) := by decide +kernel
theorem dL_958 : decode code 958 = .ok (.iconst 0, 1) := by decide +kernel
theorem dL_959 : decode code 959 = .ok (.ireturn, 1) := by decide +kernel
theorem dL_960 : decode code 960 = .ok (.aload_n 1, 1) := by decide +kernel
theorem dL_961 : decode code 961 = .ok (.aload_n 0, 1) := by decide +kernel
theorem dL_962 : decode code 962 = .ok (.iload_n 3, 1) := by decide +kernel
theorem dL_963 : decode code 963 = .ok (.iconst 1, 1) := by decide +kernel
theorem dL_964 : decode code 964 = .ok (.iadd, 1) := by decide +kernel
theorem dL_965 : decode code 965 = .ok (.iaload, 1) := by decide +kernel
theorem dL_966 : decode code 966 = .ok (.invokevirtual 146, 3) := by decide +kernel
theorem dL_969 : decode code 969 = .ok (.aload_n 2, 1) := by decide +kernel
theorem dL_970 : decode code 970 = .ok (.aload_n 0, 1) := by decide +kernel
theorem dL_971 : decode code 971 = .ok (.iload_n 3, 1) := by decide +kernel
theorem dL_972 : decode code 972 = .ok (.iconst 1, 1) := by decide +kernel
theorem dL_973 : decode code 973 = .ok (.iadd, 1) := by decide +kernel
theorem dL_974 : decode code 974 = .ok (.iaload, 1) := by decide +kernel
theorem dL_975 : decode code 975 = .ok (.invokevirtual 149, 3) := by decide +kernel
theorem dL_978 : decode code 978 = .ok (.if_icmp .eq 331, 3) := by decide +kernel
theorem dL_981 : decode code 981 = .ok (.iconst 0, 1) := by decide +kernel
theorem dL_982 : decode code 982 = .ok (.ireturn, 1) := by decide +kernel
theorem dL_983 : decode code 983 = .ok (.aload_n 1, 1) := by decide +kernel
theorem dL_984 : decode code 984 = .ok (.aload_n 0, 1) := by decide +kernel
theorem dL_985 : decode code 985 = .ok (.iload_n 3, 1) := by decide +kernel
theorem dL_986 : decode code 986 = .ok (.iconst 1, 1) := by decide +kernel
theorem dL_987 : decode code 987 = .ok (.iadd, 1) := by decide +kernel
theorem dL_988 : decode code 988 = .ok (.iaload, 1) := by decide +kernel
theorem dL_989 : decode code 989 = .ok (.invokevirtual 150, 3) := by decide +kernel
theorem dL_992 : decode code 992 = .ok (.aload_n 2, 1) := by decide +kernel
theorem dL_993 : decode code 993 = .ok (.aload_n 0, 1) := by decide +kernel
theorem dL_994 : decode code 994 = .ok (.iload_n 3, 1) := by decide +kernel
theorem dL_995 : decode code 995 = .ok (.iconst 1, 1) := by decide +kernel
theorem dL_996 : decode code 996 = .ok (.iadd, 1) := by decide +kernel
theorem dL_997 : decode code 997 = .ok (.iaload, 1) := by decide +kernel
theorem dL_998 : decode code 998 = .ok (.invokevirtual 153, 3) := by decide +kernel
theorem dL_1001 : decode code 1001 = .ok (.if_icmp .eq 308, 3) := by decide +kernel
theorem dL_1004 : decode code 1004 = .ok (.iconst 0, 1) := by decide +kernel
theorem dL_1005 : decode code 1005 = .ok (.ireturn, 1) := by decide +kernel
theorem dL_1006 : decode code 1006 = .ok (.aload_n 1, 1) := by decide +kernel
theorem dL_1007 : decode code 1007 = .ok (.aload_n 0, 1) := by decide +kernel
theorem dL_1008 : decode code 1008 = .ok (.iload_n 3, 1) := by decide +kernel
theorem dL_1009 : decode code 1009 = .ok (.iconst 1, 1) := by decide +kernel
theorem dL_1010 : decode code 1010 = .ok (.iadd, 1) := by decide +kernel
theorem dL_1011 : decode code 1011 = .ok (.iaload, 1) := by decide +kernel
theorem dL_1012 : decode code 1012 = .ok (.invokevirtual 154, 3) := by decide +kernel
theorem dL_1015 : decode code 1015 = .ok (.aload_n 2, 1) := by decide +kernel
theorem dL_1016 : decode code 1016 = .ok (.aload_n 0, 1) := by decide +kernel
theorem dL_1017 : decode code 1017 = .ok (.iload_n 3, 1) := by decide +kernel
theorem dL_1018 : decode code 1018 = .ok (.iconst 1, 1) := by decide +kernel
theorem dL_1019 : decode code 1019 = .ok (.iadd, 1) := by decide +kernel
theorem dL_1020 : decode code 1020 = .ok (.iaload, 1) := by decide +kernel
theorem dL_1021 : decode code 1021 = .ok (.invokevirtual 157, 3) := by decide +kernel
theorem dL_1024 : decode code 1024 = .ok (.if_icmp .eq 285, 3) := by decide +kernel
theorem dL_1027 : decode code 1027 = .ok (.iconst 0, 1) := by decide +kernel
theorem dL_1028 : decode code 1028 = .ok (.ireturn, 1) := by decide +kernel
theorem dL_1029 : decode code 1029 = .ok (.aload_n 1, 1) := by decide +kernel
theorem dL_1030 : decode code 1030 = .ok (.aload_n 0, 1) := by decide +kernel
theorem dL_1031 : decode code 1031 = .ok (.iload_n 3, 1) := by decide +kernel
theorem dL_1032 : decode code 1032 = .ok (.iconst 1, 1) := by decide +kernel
theorem dL_1033 : decode code 1033 = .ok (.iadd, 1) := by decide +kernel
theorem dL_1034 : decode code 1034 = .ok (.iaload, 1) := by decide +kernel
theorem dL_1035 : decode code 1035 = .ok (.aload_n 0, 1) := by decide +kernel
theorem dL_1036 : decode code 1036 = .ok (.iload_n 3, 1) := by decide +kernel
theorem dL_1037 : decode code 1037 = .ok (.iconst 2, 1) := by decide +kernel
theorem dL_1038 : decode code 1038 = .ok (.iadd, 1) := by decide +kernel
theorem dL_1039 : decode code 1039 = .ok (.iaload, 1) := by decide +kernel
theorem dL_1040 : decode code 1040 = .ok (.invokevirtual 158, 3) := by decide +kernel
theorem dL_1043 : decode code 1043 = .ok (.aload_n 2, 1) := by decide +kernel
theorem dL_1044 : decode code 1044 = .ok (.aload_n 0, 1) := by decide +kernel
theorem dL_1045 : decode code 1045 = .ok (.iload_n 3, 1) := by decide +kernel
theorem dL_1046 : decode code 1046 = .ok (.iconst 1, 1) := by decide +kernel
theorem dL_1047 : decode code 1047 = .ok (.iadd, 1) := by decide +kernel
theorem dL_1048 : decode code 1048 = .ok (.iaload, 1) := by decide +kernel
theorem dL_1049 : decode code 1049 = .ok (.aload_n 0, 1) := by decide +kernel
theorem dL_1050 : decode code 1050 = .ok (.iload_n 3, 1) := by decide +kernel
theorem dL_1051 : decode code 1051 = .ok (.iconst 2, 1) := by decide +kernel
theorem dL_1052 : decode code 1052 = .ok (.iadd, 1) := by decide +kernel
theorem dL_1053 : decode code 1053 = .ok (.iaload, 1) := by decide +kernel
theorem dL_1054 : decode code 1054 = .ok (.invokevirtual 162, 3) := by decide +kernel
theorem dL_1057 : decode code 1057 = .ok (.if_icmp .eq 252, 3) := by decide +kernel
theorem dL_1060 : decode code 1060 = .ok (.iconst 0, 1) := by decide +kernel
theorem dL_1061 : decode code 1061 = .ok (.ireturn, 1) := by decide +kernel
theorem dL_1062 : decode code 1062 = .ok (.aload_n 1, 1) := by decide +kernel
theorem dL_1063 : decode code 1063 = .ok (.aload_n 0, 1) := by decide +kernel
theorem dL_1064 : decode code 1064 = .ok (.iload_n 3, 1) := by decide +kernel
theorem dL_1065 : decode code 1065 = .ok (.iconst 1, 1) := by decide +kernel
theorem dL_1066 : decode code 1066 = .ok (.iadd, 1) := by decide +kernel
theorem dL_1067 : decode code 1067 = .ok (.iaload, 1) := by decide +kernel
theorem dL_1068 : decode code 1068 = .ok (.aload_n 0, 1) := by decide +kernel
theorem dL_1069 : decode code 1069 = .ok (.iload_n 3, 1) := by decide +kernel
theorem dL_1070 : decode code 1070 = .ok (.iconst 2, 1) := by decide +kernel
theorem dL_1071 : decode code 1071 = .ok (.iadd, 1) := by decide +kernel
theorem dL_1072 : decode code 1072 = .ok (.iaload, 1) := by decide +kernel
theorem dL_1073 : decode code 1073 = .ok (.invokevirtual 163, 3) := by decide +kernel
theorem dL_1076 : decode code 1076 = .ok (.aload_n 2, 1) := by decide +kernel
theorem dL_1077 : decode code 1077 = .ok (.aload_n 0, 1) := by decide +kernel
theorem dL_1078 : decode code 1078 = .ok (.iload_n 3, 1) := by decide +kernel
theorem dL_1079 : decode code 1079 = .ok (.iconst 1, 1) := by decide +kernel
theorem dL_1080 : decode code 1080 = .ok (.iadd, 1) := by decide +kernel
theorem dL_1081 : decode code 1081 = .ok (.iaload, 1) := by decide +kernel
theorem dL_1082 : decode code 1082 = .ok (.aload_n 0, 1) := by decide +kernel
theorem dL_1083 : decode code 1083 = .ok (.iload_n 3, 1) := by decide +kernel
theorem dL_1084 : decode code 1084 = .ok (.iconst 2, 1) := by decide +kernel
theorem dL_1085 : decode code 1085 = .ok (.iadd, 1) := by decide +kernel
theorem dL_1086 : decode code 1086 = .ok (.iaload, 1) := by decide +kernel
theorem dL_1087 : decode code 1087 = .ok (.invokevirtual 166, 3) := by decide +kernel
theorem dL_1090 : decode code 1090 = .ok (.if_icmp .eq 219, 3) := by decide +kernel
theorem dL_1093 : decode code 1093 = .ok (.iconst 0, 1) := by decide +kernel
theorem dL_1094 : decode code 1094 = .ok (.ireturn, 1) := by decide +kernel
theorem dL_1095 : decode code 1095 = .ok (.aload_n 1, 1) := by decide +kernel
theorem dL_1096 : decode code 1096 = .ok (.aload_n 0, 1) := by decide +kernel
theorem dL_1097 : decode code 1097 = .ok (.iload_n 3, 1) := by decide +kernel
theorem dL_1098 : decode code 1098 = .ok (.iconst 1, 1) := by decide +kernel
theorem dL_1099 : decode code 1099 = .ok (.iadd, 1) := by decide +kernel
theorem dL_1100 : decode code 1100 = .ok (.iaload, 1) := by decide +kernel
theorem dL_1101 : decode code 1101 = .ok (.invokevirtual 167, 3) := by decide +kernel
theorem dL_1104 : decode code 1104 = .ok (.aload_n 2, 1) := by decide +kernel
theorem dL_1105 : decode code 1105 = .ok (.aload_n 0, 1) := by decide +kernel
theorem dL_1106 : decode code 1106 = .ok (.iload_n 3, 1) := by decide +kernel
theorem dL_1107 : decode code 1107 = .ok (.iconst 1, 1) := by decide +kernel
theorem dL_1108 : decode code 1108 = .ok (.iadd, 1) := by decide +kernel
theorem dL_1109 : decode code 1109 = .ok (.iaload, 1) := by decide +kernel
theorem dL_1110 : decode code 1110 = .ok (.invokevirtual 170, 3) := by decide +kernel
theorem dL_1113 : decode code 1113 = .ok (.if_icmp .eq 196, 3) := by decide +kernel
theorem dL_1116 : decode code 1116 = .ok (.iconst 0, 1) := by decide +kernel
theorem dL_1117 : decode code 1117 = .ok (.ireturn, 1) := by decide +kernel
theorem dL_1118 : decode code 1118 = .ok (.aload_n 1, 1) := by decide +kernel
theorem dL_1119 : decode code 1119 = .ok (.invokevirtual 171, 3) := by decide +kernel
theorem dL_1122 : decode code 1122 = .ok (.aload_n 2, 1) := by decide +kernel
theorem dL_1123 : decode code 1123 = .ok (.invokevirtual 174, 3) := by decide +kernel
theorem dL_1126 : decode code 1126 = .ok (.if_icmp .eq 183, 3) := by decide +kernel
theorem dL_1129 : decode code 1129 = .ok (.iconst 0, 1) := by decide +kernel
theorem dL_1130 : decode code 1130 = .ok (.ireturn, 1) := by decide +kernel
theorem dL_1131 : decode code 1131 = .ok (.aload_n 1, 1) := by decide +kernel
theorem dL_1132 : decode code 1132 = .ok (.aload_n 0, 1) := by decide +kernel
theorem dL_1133 : decode code 1133 = .ok (.iload_n 3, 1) := by decide +kernel
theorem dL_1134 : decode code 1134 = .ok (.iconst 1, 1) := by decide +kernel
theorem dL_1135 : decode code 1135 = .ok (.iadd, 1) := by decide +kernel
theorem dL_1136 : decode code 1136 = .ok (.iaload, 1) := by decide +kernel
theorem dL_1137 : decode code 1137 = .ok (.invokevirtual 175, 3) := by decide +kernel
theorem dL_1140 : decode code 1140 = .ok (.aload_n 2, 1) := by decide +kernel
theorem dL_1141 : decode code 1141 = .ok (.aload_n 0, 1) := by decide +kernel
theorem dL_1142 : decode code 1142 = .ok (.iload_n 3, 1) := by decide +kernel
theorem dL_1143 : decode code 1143 = .ok (.iconst 1, 1) := by decide +kernel
theorem dL_1144 : decode code 1144 = .ok (.iadd, 1) := by decide +kernel
theorem dL_1145 : decode code 1145 = .ok (.iaload, 1) := by decide +kernel
theorem dL_1146 : decode code 1146 = .ok (.invokevirtual 178, 3) := by decide +kernel
theorem dL_1149 : decode code 1149 = .ok (.if_icmp .eq 160, 3) := by decide +kernel
theorem dL_1152 : decode code 1152 = .ok (.iconst 0, 1) := by decide +kernel
theorem dL_1153 : decode code 1153 = .ok (.ireturn, 1) := by decide +kernel
theorem dL_1154 : decode code 1154 = .ok (.aload_n 1, 1) := by decide +kernel
theorem dL_1155 : decode code 1155 = .ok (.aload_n 0, 1) := by decide +kernel
theorem dL_1156 : decode code 1156 = .ok (.iload_n 3, 1) := by decide +kernel
theorem dL_1157 : decode code 1157 = .ok (.iconst 1, 1) := by decide +kernel
theorem dL_1158 : decode code 1158 = .ok (.iadd, 1) := by decide +kernel
theorem dL_1159 : decode code 1159 = .ok (.iaload, 1) := by decide +kernel
theorem dL_1160 : decode code 1160 = .ok (.aload_n 0, 1) := by decide +kernel
theorem dL_1161 : decode code 1161 = .ok (.iload_n 3, 1) := by decide +kernel
theorem dL_1162 : decode code 1162 = .ok (.iconst 2, 1) := by decide +kernel
theorem dL_1163 : decode code 1163 = .ok (.iadd, 1) := by decide +kernel
theorem dL_1164 : decode code 1164 = .ok (.iaload, 1) := by decide +kernel
theorem dL_1165 : decode code 1165 = .ok (.invokevirtual 179, 3) := by decide +kernel
theorem dL_1168 : decode code 1168 = .ok (.aload_n 2, 1) := by decide +kernel
theorem dL_1169 : decode code 1169 = .ok (.aload_n 0, 1) := by decide +kernel
theorem dL_1170 : decode code 1170 = .ok (.iload_n 3, 1) := by decide +kernel
theorem dL_1171 : decode code 1171 = .ok (.iconst 1, 1) := by decide +kernel
theorem dL_1172 : decode code 1172 = .ok (.iadd, 1) := by decide +kernel
theorem dL_1173 : decode code 1173 = .ok (.iaload, 1) := by decide +kernel
theorem dL_1174 : decode code 1174 = .ok (.aload_n 0, 1) := by decide +kernel
theorem dL_1175 : decode code 1175 = .ok (.iload_n 3, 1) := by decide +kernel
theorem dL_1176 : decode code 1176 = .ok (.iconst 2, 1) := by decide +kernel
theorem dL_1177 : decode code 1177 = .ok (.iadd, 1) := by decide +kernel
theorem dL_1178 : decode code 1178 = .ok (.iaload, 1) := by decide +kernel
theorem dL_1179 : decode code 1179 = .ok (.invokevirtual 182, 3) := by decide +kernel
theorem dL_1182 : decode code 1182 = .ok (.if_icmp .eq 127, 3) := by decide +kernel
theorem dL_1185 : decode code 1185 = .ok (.iconst 0, 1) := by decide +kernel
theorem dL_1186 : decode code 1186 = .ok (.ireturn, 1) := by decide +kernel
theorem dL_1187 : decode code 1187 = .ok (.aload_n 1, 1) := by decide +kernel
theorem dL_1188 : decode code 1188 = .ok (.aload_n 0, 1) := by decide +kernel
theorem dL_1189 : decode code 1189 = .ok (.iload_n 3, 1) := by decide +kernel
theorem dL_1190 : decode code 1190 = .ok (.iconst 1, 1) := by decide +kernel
theorem dL_1191 : decode code 1191 = .ok (.iadd, 1) := by decide +kernel
theorem dL_1192 : decode code 1192 = .ok (.iaload, 1) := by decide +kernel
theorem dL_1193 : decode code 1193 = .ok (.aload_n 0, 1) := by decide +kernel
theorem dL_1194 : decode code 1194 = .ok (.iload_n 3, 1) := by decide +kernel
theorem dL_1195 : decode code 1195 = .ok (.iconst 2, 1) := by decide +kernel
theorem dL_1196 : decode code 1196 = .ok (.iadd, 1) := by decide +kernel
theorem dL_1197 : decode code 1197 = .ok (.iaload, 1) := by decide +kernel
theorem dL_1198 : decode code 1198 = .ok (.invokevirtual 183, 3) := by decide +kernel
theorem dL_1201 : decode code 1201 = .ok (.aload_n 2, 1) := by decide +kernel
theorem dL_1202 : decode code 1202 = .ok (.aload_n 0, 1) := by decide +kernel
theorem dL_1203 : decode code 1203 = .ok (.iload_n 3, 1) := by decide +kernel
theorem dL_1204 : decode code 1204 = .ok (.iconst 1, 1) := by decide +kernel
theorem dL_1205 : decode code 1205 = .ok (.iadd, 1) := by decide +kernel
theorem dL_1206 : decode code 1206 = .ok (.iaload, 1) := by decide +kernel
theorem dL_1207 : decode code 1207 = .ok (.aload_n 0, 1) := by decide +kernel
theorem dL_1208 : decode code 1208 = .ok (.iload_n 3, 1) := by decide +kernel
theorem dL_1209 : decode code 1209 = .ok (.iconst 2, 1) := by decide +kernel
theorem dL_1210 : decode code 1210 = .ok (.iadd, 1) := by decide +kernel
theorem dL_1211 : decode code 1211 = .ok (.iaload, 1) := by decide +kernel
theorem dL_1212 : decode code 1212 = .ok (.invokevirtual 186, 3) := by decide +kernel
theorem dL_1215 : decode code 1215 = .ok (.if_icmp .eq 94, 3) := by decide +kernel
theorem dL_1218 : decode code 1218 = .ok (.iconst 0, 1) := by decide +kernel
theorem dL_1219 : decode code 1219 = .ok (.ireturn, 1) := by decide +kernel
theorem dL_1220 : decode code 1220 = .ok (.aload_n 1, 1) := by decide +kernel
theorem dL_1221 : decode code 1221 = .ok (.aload_n 0, 1) := by decide +kernel
theorem dL_1222 : decode code 1222 = .ok (.iload_n 3, 1) := by decide +kernel
theorem dL_1223 : decode code 1223 = .ok (.iconst 1, 1) := by decide +kernel
theorem dL_1224 : decode code 1224 = .ok (.iadd, 1) := by decide +kernel
theorem dL_1225 : decode code 1225 = .ok (.iaload, 1) := by decide +kernel
theorem dL_1226 : decode code 1226 = .ok (.invokevirtual 187, 3) := by decide +kernel
theorem dL_1229 : decode code 1229 = .ok (.aload_n 2, 1) := by decide +kernel
theorem dL_1230 : decode code 1230 = .ok (.aload_n 0, 1) := by decide +kernel
theorem dL_1231 : decode code 1231 = .ok (.iload_n 3, 1) := by decide +kernel
theorem dL_1232 : decode code 1232 = .ok (.iconst 1, 1) := by decide +kernel
theorem dL_1233 : decode code 1233 = .ok (.iadd, 1) := by decide +kernel
theorem dL_1234 : decode code 1234 = .ok (.iaload, 1) := by decide +kernel
theorem dL_1235 : decode code 1235 = .ok (.invokevirtual 190, 3) := by decide +kernel
theorem dL_1238 : decode code 1238 = .ok (.if_icmp .eq 71, 3) := by decide +kernel
theorem dL_1241 : decode code 1241 = .ok (.iconst 0, 1) := by decide +kernel
theorem dL_1242 : decode code 1242 = .ok (.ireturn, 1) := by decide +kernel
theorem dL_1243 : decode code 1243 = .ok (.aload_n 1, 1) := by decide +kernel
theorem dL_1244 : decode code 1244 = .ok (.aload_n 0, 1) := by decide +kernel
theorem dL_1245 : decode code 1245 = .ok (.iload_n 3, 1) := by decide +kernel
theorem dL_1246 : decode code 1246 = .ok (.iconst 1, 1) := by decide +kernel
theorem dL_1247 : decode code 1247 = .ok (.iadd, 1) := by decide +kernel
theorem dL_1248 : decode code 1248 = .ok (.iaload, 1) := by decide +kernel
theorem dL_1249 : decode code 1249 = .ok (.aload_n 0, 1) := by decide +kernel
theorem dL_1250 : decode code 1250 = .ok (.iload_n 3, 1) := by decide +kernel
theorem dL_1251 : decode code 1251 = .ok (.iconst 2, 1) := by decide +kernel
theorem dL_1252 : decode code 1252 = .ok (.iadd, 1) := by decide +kernel
theorem dL_1253 : decode code 1253 = .ok (.iaload, 1) := by decide +kernel
theorem dL_1254 : decode code 1254 = .ok (.invokevirtual 191, 3) := by decide +kernel
theorem dL_1257 : decode code 1257 = .ok (.aload_n 2, 1) := by decide +kernel
theorem dL_1258 : decode code 1258 = .ok (.aload_n 0, 1) := by decide +kernel
theorem dL_1259 : decode code 1259 = .ok (.iload_n 3, 1) := by decide +kernel
theorem dL_1260 : decode code 1260 = .ok (.iconst 1, 1) := by decide +kernel
theorem dL_1261 : decode code 1261 = .ok (.iadd, 1) := by decide +kernel
theorem dL_1262 : decode code 1262 = .ok (.iaload, 1) := by decide +kernel
theorem dL_1263 : decode code 1263 = .ok (.aload_n 0, 1) := by decide +kernel
theorem dL_1264 : decode code 1264 = .ok (.iload_n 3, 1) := by decide +kernel
theorem dL_1265 : decode code 1265 = .ok (.iconst 2, 1) := by decide +kernel
theorem dL_1266 : decode code 1266 = .ok (.iadd, 1) := by decide +kernel
theorem dL_1267 : decode code 1267 = .ok (.iaload, 1) := by decide +kernel
theorem dL_1268 : decode code 1268 = .ok (.invokevirtual 194, 3) := by decide +kernel
theorem dL_1271 : decode code 1271 = .ok (.if_icmp .eq 38, 3) := by decide +kernel
theorem dL_1274 : decode code 1274 = .ok (.iconst 0, 1) := by decide +kernel
theorem dL_1275 : decode code 1275 = .ok (.ireturn, 1) := by decide +kernel
theorem dL_1276 : decode code 1276 = .ok (.aload_n 1, 1) := by decide +kernel
theorem dL_1277 : decode code 1277 = .ok (.aload_n 0, 1) := by decide +kernel
theorem dL_1278 : decode code 1278 = .ok (.iload_n 3, 1) := by decide +kernel
theorem dL_1279 : decode code 1279 = .ok (.iconst 1, 1) := by decide +kernel
theorem dL_1280 : decode code 1280 = .ok (.iadd, 1) := by decide +kernel
theorem dL_1281 : decode code 1281 = .ok (.iaload, 1) := by decide +kernel
theorem dL_1282 : decode code 1282 = .ok (.aload_n 0, 1) := by decide +kernel
theorem dL_1283 : decode code 1283 = .ok (.iload_n 3, 1) := by decide +kernel
theorem dL_1284 : decode code 1284 = .ok (.iconst 2, 1) := by decide +kernel
theorem dL_1285 : decode code 1285 = .ok (.iadd, 1) := by decide +kernel
theorem dL_1286 : decode code 1286 = .ok (.iaload, 1) := by decide +kernel
theorem dL_1287 : decode code 1287 = .ok (.invokevirtual 195, 3) := by decide +kernel
theorem dL_1290 : decode code 1290 = .ok (.aload_n 2, 1) := by decide +kernel
theorem dL_1291 : decode code 1291 = .ok (.aload_n 0, 1) := by decide +kernel
theorem dL_1292 : decode code 1292 = .ok (.iload_n 3, 1) := by decide +kernel
theorem dL_1293 : decode code 1293 = .ok (.iconst 1, 1) := by decide +kernel
theorem dL_1294 : decode code 1294 = .ok (.iadd, 1) := by decide +kernel
theorem dL_1295 : decode code 1295 = .ok (.iaload, 1) := by decide +kernel
theorem dL_1296 : decode code 1296 = .ok (.aload_n 0, 1) := by decide +kernel
theorem dL_1297 : decode code 1297 = .ok (.iload_n 3, 1) := by decide +kernel
theorem dL_1298 : decode code 1298 = .ok (.iconst 2, 1) := by decide +kernel
theorem dL_1299 : decode code 1299 = .ok (.iadd, 1) := by decide +kernel
theorem dL_1300 : decode code 1300 = .ok (.iaload, 1) := by decide +kernel
theorem dL_1301 : decode code 1301 = .ok (.invokevirtual 198, 3) := by decide +kernel
theorem dL_1304 : decode code 1304 = .ok (.if_icmp .eq 5, 3) := by decide +kernel
theorem dL_1307 : decode code 1307 = .ok (.iconst 0, 1) := by decide +kernel
theorem dL_1308 : decode code 1308 = .ok (.ireturn, 1) := by decide +kernel
theorem dL_1309 : decode code 1309 = .ok (.iinc 3 6, 3) := by decide +kernel
theorem dL_1312 : decode code 1312 = .ok (.goto (-1294), 3) := by decide +kernel
theorem dL_1315 : decode code 1315 = .ok (.iconst 1, 1) := by decide +kernel
theorem dL_1316 : decode code 1316 = .ok (.ireturn, 1) := by decide +kernel
