/-! THE 42 CASES: printed -/
theorem dL_law_0 : decode code 0 = .ok (.new 7, 3) := by decide +kernel
theorem dL_law_3 : decode code 3 = .ok (.dup, 1) := by decide +kernel
theorem dL_law_4 : decode code 4 = .ok (.invokespecial 9, 3) := by decide +kernel
theorem dL_law_7 : decode code 7 = .ok (.astore_n 1, 1) := by decide +kernel
theorem dL_law_8 : decode code 8 = .ok (.new 10, 3) := by decide +kernel
theorem dL_law_11 : decode code 11 = .ok (.dup, 1) := by decide +kernel
theorem dL_law_12 : decode code 12 = .ok (.invokespecial 12, 3) := by decide +kernel
theorem dL_law_15 : decode code 15 = .ok (.astore_n 2, 1) := by decide +kernel
theorem dL_law_16 : decode code 16 = .ok (.iconst 0, 1) := by decide +kernel
theorem dL_law_17 : decode code 17 = .ok (.istore_n 3, 1) := by decide +kernel
theorem dL_law_18 : decode code 18 = .ok (.iload_n 3, 1) := by decide +kernel
theorem dL_law_19 : decode code 19 = .ok (.aload_n 0, 1) := by decide +kernel
theorem dL_law_20 : decode code 20 = .ok (.arraylength, 1) := by decide +kernel
theorem dL_law_21 : decode code 21 = .ok (.bipush 6, 2) := by decide +kernel
theorem dL_law_23 : decode code 23 = .ok (.isub, 1) := by decide +kernel
theorem dL_law_24 : decode code 24 = .ok (.if_icmp .gt 1407, 3) := by decide +kernel
theorem dL_law_27 : decode code 27 = .ok (.aload_n 0, 1) := by decide +kernel
theorem dL_law_28 : decode code 28 = .ok (.iload_n 3, 1) := by decide +kernel
theorem dL_law_29 : decode code 29 = .ok (.iaload, 1) := by decide +kernel
theorem dL_law_30 : decode code 30 = .ok (.bipush 63, 2) := by decide +kernel
theorem dL_law_32 : decode code 32 = .ok (.iand, 1) := by decide +kernel
theorem dL_law_33 : decode code 33 = .ok (.tableswitch 1392 0 41 #[183, 216, 259, 292, 315, 378, 401, 434, 477, 500, 523, 556, 589, 602, 635, 668, 701, 724, 747, 770, 823, 846, 879, 902, 935, 968, 1001, 1034, 1067, 1090, 1113, 1156, 1189, 1222, 1245, 1278, 1291, 1305, 1319, 1342, 1355, 1378], 183) := by decide +kernel
theorem dL_law_216 : decode code 216 = .ok (.aload_n 1, 1) := by decide +kernel
theorem dL_law_217 : decode code 217 = .ok (.aload_n 0, 1) := by decide +kernel
theorem dL_law_218 : decode code 218 = .ok (.iload_n 3, 1) := by decide +kernel
theorem dL_law_219 : decode code 219 = .ok (.iconst 1, 1) := by decide +kernel
theorem dL_law_220 : decode code 220 = .ok (.iadd, 1) := by decide +kernel
theorem dL_law_221 : decode code 221 = .ok (.iaload, 1) := by decide +kernel
theorem dL_law_222 : decode code 222 = .ok (.aload_n 0, 1) := by decide +kernel
theorem dL_law_223 : decode code 223 = .ok (.iload_n 3, 1) := by decide +kernel
theorem dL_law_224 : decode code 224 = .ok (.iconst 2, 1) := by decide +kernel
theorem dL_law_225 : decode code 225 = .ok (.iadd, 1) := by decide +kernel
theorem dL_law_226 : decode code 226 = .ok (.iaload, 1) := by decide +kernel
theorem dL_law_227 : decode code 227 = .ok (.invokevirtual 13, 3) := by decide +kernel
theorem dL_law_230 : decode code 230 = .ok (.aload_n 2, 1) := by decide +kernel
theorem dL_law_231 : decode code 231 = .ok (.aload_n 0, 1) := by decide +kernel
theorem dL_law_232 : decode code 232 = .ok (.iload_n 3, 1) := by decide +kernel
theorem dL_law_233 : decode code 233 = .ok (.iconst 1, 1) := by decide +kernel
theorem dL_law_234 : decode code 234 = .ok (.iadd, 1) := by decide +kernel
theorem dL_law_235 : decode code 235 = .ok (.iaload, 1) := by decide +kernel
theorem dL_law_236 : decode code 236 = .ok (.aload_n 0, 1) := by decide +kernel
theorem dL_law_237 : decode code 237 = .ok (.iload_n 3, 1) := by decide +kernel
theorem dL_law_238 : decode code 238 = .ok (.iconst 2, 1) := by decide +kernel
theorem dL_law_239 : decode code 239 = .ok (.iadd, 1) := by decide +kernel
theorem dL_law_240 : decode code 240 = .ok (.iaload, 1) := by decide +kernel
theorem dL_law_241 : decode code 241 = .ok (.invokevirtual 17, 3) := by decide +kernel
theorem dL_law_244 : decode code 244 = .ok (.if_icmp .eq 1181, 3) := by decide +kernel
theorem dL_law_249 : decode code 249 = .ok (.aload_n 1, 1) := by decide +kernel
theorem dL_law_250 : decode code 250 = .ok (.aload_n 0, 1) := by decide +kernel
theorem dL_law_251 : decode code 251 = .ok (.iload_n 3, 1) := by decide +kernel
theorem dL_law_252 : decode code 252 = .ok (.iconst 1, 1) := by decide +kernel
theorem dL_law_253 : decode code 253 = .ok (.iadd, 1) := by decide +kernel
theorem dL_law_254 : decode code 254 = .ok (.iaload, 1) := by decide +kernel
theorem dL_law_255 : decode code 255 = .ok (.aload_n 0, 1) := by decide +kernel
theorem dL_law_256 : decode code 256 = .ok (.iload_n 3, 1) := by decide +kernel
theorem dL_law_257 : decode code 257 = .ok (.iconst 2, 1) := by decide +kernel
theorem dL_law_258 : decode code 258 = .ok (.iadd, 1) := by decide +kernel
theorem dL_law_259 : decode code 259 = .ok (.iaload, 1) := by decide +kernel
theorem dL_law_260 : decode code 260 = .ok (.aload_n 0, 1) := by decide +kernel
theorem dL_law_261 : decode code 261 = .ok (.iload_n 3, 1) := by decide +kernel
theorem dL_law_262 : decode code 262 = .ok (.iconst 3, 1) := by decide +kernel
theorem dL_law_263 : decode code 263 = .ok (.iadd, 1) := by decide +kernel
theorem dL_law_264 : decode code 264 = .ok (.iaload, 1) := by decide +kernel
theorem dL_law_265 : decode code 265 = .ok (.invokevirtual 18, 3) := by decide +kernel
theorem dL_law_268 : decode code 268 = .ok (.aload_n 2, 1) := by decide +kernel
theorem dL_law_269 : decode code 269 = .ok (.aload_n 0, 1) := by decide +kernel
theorem dL_law_270 : decode code 270 = .ok (.iload_n 3, 1) := by decide +kernel
theorem dL_law_271 : decode code 271 = .ok (.iconst 1, 1) := by decide +kernel
theorem dL_law_272 : decode code 272 = .ok (.iadd, 1) := by decide +kernel
theorem dL_law_273 : decode code 273 = .ok (.iaload, 1) := by decide +kernel
theorem dL_law_274 : decode code 274 = .ok (.aload_n 0, 1) := by decide +kernel
theorem dL_law_275 : decode code 275 = .ok (.iload_n 3, 1) := by decide +kernel
theorem dL_law_276 : decode code 276 = .ok (.iconst 2, 1) := by decide +kernel
theorem dL_law_277 : decode code 277 = .ok (.iadd, 1) := by decide +kernel
theorem dL_law_278 : decode code 278 = .ok (.iaload, 1) := by decide +kernel
theorem dL_law_279 : decode code 279 = .ok (.aload_n 0, 1) := by decide +kernel
theorem dL_law_280 : decode code 280 = .ok (.iload_n 3, 1) := by decide +kernel
theorem dL_law_281 : decode code 281 = .ok (.iconst 3, 1) := by decide +kernel
theorem dL_law_282 : decode code 282 = .ok (.iadd, 1) := by decide +kernel
theorem dL_law_283 : decode code 283 = .ok (.iaload, 1) := by decide +kernel
theorem dL_law_284 : decode code 284 = .ok (.invokevirtual 22, 3) := by decide +kernel
theorem dL_law_287 : decode code 287 = .ok (.if_icmp .eq 1138, 3) := by decide +kernel
theorem dL_law_292 : decode code 292 = .ok (.aload_n 1, 1) := by decide +kernel
theorem dL_law_293 : decode code 293 = .ok (.aload_n 0, 1) := by decide +kernel
theorem dL_law_294 : decode code 294 = .ok (.iload_n 3, 1) := by decide +kernel
theorem dL_law_295 : decode code 295 = .ok (.iconst 1, 1) := by decide +kernel
theorem dL_law_296 : decode code 296 = .ok (.iadd, 1) := by decide +kernel
theorem dL_law_297 : decode code 297 = .ok (.iaload, 1) := by decide +kernel
theorem dL_law_298 : decode code 298 = .ok (.aload_n 0, 1) := by decide +kernel
theorem dL_law_299 : decode code 299 = .ok (.iload_n 3, 1) := by decide +kernel
theorem dL_law_300 : decode code 300 = .ok (.iconst 2, 1) := by decide +kernel
theorem dL_law_301 : decode code 301 = .ok (.iadd, 1) := by decide +kernel
theorem dL_law_302 : decode code 302 = .ok (.iaload, 1) := by decide +kernel
theorem dL_law_303 : decode code 303 = .ok (.invokevirtual 23, 3) := by decide +kernel
theorem dL_law_306 : decode code 306 = .ok (.aload_n 2, 1) := by decide +kernel
theorem dL_law_307 : decode code 307 = .ok (.aload_n 0, 1) := by decide +kernel
theorem dL_law_308 : decode code 308 = .ok (.iload_n 3, 1) := by decide +kernel
theorem dL_law_309 : decode code 309 = .ok (.iconst 1, 1) := by decide +kernel
theorem dL_law_310 : decode code 310 = .ok (.iadd, 1) := by decide +kernel
theorem dL_law_311 : decode code 311 = .ok (.iaload, 1) := by decide +kernel
theorem dL_law_312 : decode code 312 = .ok (.aload_n 0, 1) := by decide +kernel
theorem dL_law_313 : decode code 313 = .ok (.iload_n 3, 1) := by decide +kernel
theorem dL_law_314 : decode code 314 = .ok (.iconst 2, 1) := by decide +kernel
theorem dL_law_315 : decode code 315 = .ok (.iadd, 1) := by decide +kernel
theorem dL_law_316 : decode code 316 = .ok (.iaload, 1) := by decide +kernel
theorem dL_law_317 : decode code 317 = .ok (.invokevirtual 26, 3) := by decide +kernel
theorem dL_law_320 : decode code 320 = .ok (.if_icmp .eq 1105, 3) := by decide +kernel
theorem dL_law_325 : decode code 325 = .ok (.aload_n 1, 1) := by decide +kernel
theorem dL_law_326 : decode code 326 = .ok (.aload_n 0, 1) := by decide +kernel
theorem dL_law_327 : decode code 327 = .ok (.iload_n 3, 1) := by decide +kernel
theorem dL_law_328 : decode code 328 = .ok (.iconst 1, 1) := by decide +kernel
theorem dL_law_329 : decode code 329 = .ok (.iadd, 1) := by decide +kernel
theorem dL_law_330 : decode code 330 = .ok (.iaload, 1) := by decide +kernel
theorem dL_law_331 : decode code 331 = .ok (.invokevirtual 27, 3) := by decide +kernel
theorem dL_law_334 : decode code 334 = .ok (.aload_n 2, 1) := by decide +kernel
theorem dL_law_335 : decode code 335 = .ok (.aload_n 0, 1) := by decide +kernel
theorem dL_law_336 : decode code 336 = .ok (.iload_n 3, 1) := by decide +kernel
theorem dL_law_337 : decode code 337 = .ok (.iconst 1, 1) := by decide +kernel
theorem dL_law_338 : decode code 338 = .ok (.iadd, 1) := by decide +kernel
theorem dL_law_339 : decode code 339 = .ok (.iaload, 1) := by decide +kernel
theorem dL_law_340 : decode code 340 = .ok (.invokevirtual 31, 3) := by decide +kernel
theorem dL_law_343 : decode code 343 = .ok (.if_icmp .eq 1082, 3) := by decide +kernel
theorem dL_law_348 : decode code 348 = .ok (.aload_n 1, 1) := by decide +kernel
theorem dL_law_349 : decode code 349 = .ok (.aload_n 0, 1) := by decide +kernel
theorem dL_law_350 : decode code 350 = .ok (.iload_n 3, 1) := by decide +kernel
theorem dL_law_351 : decode code 351 = .ok (.iconst 1, 1) := by decide +kernel
theorem dL_law_352 : decode code 352 = .ok (.iadd, 1) := by decide +kernel
theorem dL_law_353 : decode code 353 = .ok (.iaload, 1) := by decide +kernel
theorem dL_law_354 : decode code 354 = .ok (.aload_n 0, 1) := by decide +kernel
theorem dL_law_355 : decode code 355 = .ok (.iload_n 3, 1) := by decide +kernel
theorem dL_law_356 : decode code 356 = .ok (.iconst 2, 1) := by decide +kernel
theorem dL_law_357 : decode code 357 = .ok (.iadd, 1) := by decide +kernel
theorem dL_law_358 : decode code 358 = .ok (.iaload, 1) := by decide +kernel
theorem dL_law_359 : decode code 359 = .ok (.aload_n 0, 1) := by decide +kernel
theorem dL_law_360 : decode code 360 = .ok (.iload_n 3, 1) := by decide +kernel
theorem dL_law_361 : decode code 361 = .ok (.iconst 3, 1) := by decide +kernel
theorem dL_law_362 : decode code 362 = .ok (.iadd, 1) := by decide +kernel
theorem dL_law_363 : decode code 363 = .ok (.iaload, 1) := by decide +kernel
theorem dL_law_364 : decode code 364 = .ok (.aload_n 0, 1) := by decide +kernel
theorem dL_law_365 : decode code 365 = .ok (.iload_n 3, 1) := by decide +kernel
theorem dL_law_366 : decode code 366 = .ok (.iconst 4, 1) := by decide +kernel
theorem dL_law_367 : decode code 367 = .ok (.iadd, 1) := by decide +kernel
theorem dL_law_368 : decode code 368 = .ok (.iaload, 1) := by decide +kernel
theorem dL_law_369 : decode code 369 = .ok (.aload_n 0, 1) := by decide +kernel
theorem dL_law_370 : decode code 370 = .ok (.iload_n 3, 1) := by decide +kernel
theorem dL_law_371 : decode code 371 = .ok (.iconst 5, 1) := by decide +kernel
theorem dL_law_372 : decode code 372 = .ok (.iadd, 1) := by decide +kernel
theorem dL_law_373 : decode code 373 = .ok (.iaload, 1) := by decide +kernel
theorem dL_law_374 : decode code 374 = .ok (.invokevirtual 32, 3) := by decide +kernel
theorem dL_law_377 : decode code 377 = .ok (.aload_n 2, 1) := by decide +kernel
theorem dL_law_378 : decode code 378 = .ok (.aload_n 0, 1) := by decide +kernel
theorem dL_law_379 : decode code 379 = .ok (.iload_n 3, 1) := by decide +kernel
theorem dL_law_380 : decode code 380 = .ok (.iconst 1, 1) := by decide +kernel
theorem dL_law_381 : decode code 381 = .ok (.iadd, 1) := by decide +kernel
theorem dL_law_382 : decode code 382 = .ok (.iaload, 1) := by decide +kernel
theorem dL_law_383 : decode code 383 = .ok (.aload_n 0, 1) := by decide +kernel
theorem dL_law_384 : decode code 384 = .ok (.iload_n 3, 1) := by decide +kernel
theorem dL_law_385 : decode code 385 = .ok (.iconst 2, 1) := by decide +kernel
theorem dL_law_386 : decode code 386 = .ok (.iadd, 1) := by decide +kernel
theorem dL_law_387 : decode code 387 = .ok (.iaload, 1) := by decide +kernel
theorem dL_law_388 : decode code 388 = .ok (.aload_n 0, 1) := by decide +kernel
theorem dL_law_389 : decode code 389 = .ok (.iload_n 3, 1) := by decide +kernel
theorem dL_law_390 : decode code 390 = .ok (.iconst 3, 1) := by decide +kernel
theorem dL_law_391 : decode code 391 = .ok (.iadd, 1) := by decide +kernel
theorem dL_law_392 : decode code 392 = .ok (.iaload, 1) := by decide +kernel
theorem dL_law_393 : decode code 393 = .ok (.aload_n 0, 1) := by decide +kernel
theorem dL_law_394 : decode code 394 = .ok (.iload_n 3, 1) := by decide +kernel
theorem dL_law_395 : decode code 395 = .ok (.iconst 4, 1) := by decide +kernel
theorem dL_law_396 : decode code 396 = .ok (.iadd, 1) := by decide +kernel
theorem dL_law_397 : decode code 397 = .ok (.iaload, 1) := by decide +kernel
theorem dL_law_398 : decode code 398 = .ok (.aload_n 0, 1) := by decide +kernel
theorem dL_law_399 : decode code 399 = .ok (.iload_n 3, 1) := by decide +kernel
theorem dL_law_400 : decode code 400 = .ok (.iconst 5, 1) := by decide +kernel
theorem dL_law_401 : decode code 401 = .ok (.iadd, 1) := by decide +kernel
theorem dL_law_402 : decode code 402 = .ok (.iaload, 1) := by decide +kernel
theorem dL_law_403 : decode code 403 = .ok (.invokevirtual 36, 3) := by decide +kernel
theorem dL_law_406 : decode code 406 = .ok (.if_icmp .eq 1019, 3) := by decide +kernel
theorem dL_law_411 : decode code 411 = .ok (.aload_n 1, 1) := by decide +kernel
theorem dL_law_412 : decode code 412 = .ok (.aload_n 0, 1) := by decide +kernel
theorem dL_law_413 : decode code 413 = .ok (.iload_n 3, 1) := by decide +kernel
theorem dL_law_414 : decode code 414 = .ok (.iconst 1, 1) := by decide +kernel
theorem dL_law_415 : decode code 415 = .ok (.iadd, 1) := by decide +kernel
theorem dL_law_416 : decode code 416 = .ok (.iaload, 1) := by decide +kernel
theorem dL_law_417 : decode code 417 = .ok (.invokevirtual 37, 3) := by decide +kernel
theorem dL_law_420 : decode code 420 = .ok (.aload_n 2, 1) := by decide +kernel
theorem dL_law_421 : decode code 421 = .ok (.aload_n 0, 1) := by decide +kernel
theorem dL_law_422 : decode code 422 = .ok (.iload_n 3, 1) := by decide +kernel
theorem dL_law_423 : decode code 423 = .ok (.iconst 1, 1) := by decide +kernel
theorem dL_law_424 : decode code 424 = .ok (.iadd, 1) := by decide +kernel
theorem dL_law_425 : decode code 425 = .ok (.iaload, 1) := by decide +kernel
theorem dL_law_426 : decode code 426 = .ok (.invokevirtual 40, 3) := by decide +kernel
theorem dL_law_429 : decode code 429 = .ok (.if_icmp .eq 996, 3) := by decide +kernel
theorem dL_law_434 : decode code 434 = .ok (.aload_n 1, 1) := by decide +kernel
theorem dL_law_435 : decode code 435 = .ok (.aload_n 0, 1) := by decide +kernel
theorem dL_law_436 : decode code 436 = .ok (.iload_n 3, 1) := by decide +kernel
theorem dL_law_437 : decode code 437 = .ok (.iconst 1, 1) := by decide +kernel
theorem dL_law_438 : decode code 438 = .ok (.iadd, 1) := by decide +kernel
theorem dL_law_439 : decode code 439 = .ok (.iaload, 1) := by decide +kernel
theorem dL_law_440 : decode code 440 = .ok (.aload_n 0, 1) := by decide +kernel
theorem dL_law_441 : decode code 441 = .ok (.iload_n 3, 1) := by decide +kernel
theorem dL_law_442 : decode code 442 = .ok (.iconst 2, 1) := by decide +kernel
theorem dL_law_443 : decode code 443 = .ok (.iadd, 1) := by decide +kernel
theorem dL_law_444 : decode code 444 = .ok (.iaload, 1) := by decide +kernel
theorem dL_law_445 : decode code 445 = .ok (.invokevirtual 41, 3) := by decide +kernel
theorem dL_law_448 : decode code 448 = .ok (.aload_n 2, 1) := by decide +kernel
theorem dL_law_449 : decode code 449 = .ok (.aload_n 0, 1) := by decide +kernel
theorem dL_law_450 : decode code 450 = .ok (.iload_n 3, 1) := by decide +kernel
theorem dL_law_451 : decode code 451 = .ok (.iconst 1, 1) := by decide +kernel
theorem dL_law_452 : decode code 452 = .ok (.iadd, 1) := by decide +kernel
theorem dL_law_453 : decode code 453 = .ok (.iaload, 1) := by decide +kernel
theorem dL_law_454 : decode code 454 = .ok (.aload_n 0, 1) := by decide +kernel
theorem dL_law_455 : decode code 455 = .ok (.iload_n 3, 1) := by decide +kernel
theorem dL_law_456 : decode code 456 = .ok (.iconst 2, 1) := by decide +kernel
theorem dL_law_457 : decode code 457 = .ok (.iadd, 1) := by decide +kernel
theorem dL_law_458 : decode code 458 = .ok (.iaload, 1) := by decide +kernel
theorem dL_law_459 : decode code 459 = .ok (.invokevirtual 44, 3) := by decide +kernel
theorem dL_law_462 : decode code 462 = .ok (.if_icmp .eq 963, 3) := by decide +kernel
theorem dL_law_467 : decode code 467 = .ok (.aload_n 1, 1) := by decide +kernel
theorem dL_law_468 : decode code 468 = .ok (.aload_n 0, 1) := by decide +kernel
theorem dL_law_469 : decode code 469 = .ok (.iload_n 3, 1) := by decide +kernel
theorem dL_law_470 : decode code 470 = .ok (.iconst 1, 1) := by decide +kernel
theorem dL_law_471 : decode code 471 = .ok (.iadd, 1) := by decide +kernel
theorem dL_law_472 : decode code 472 = .ok (.iaload, 1) := by decide +kernel
theorem dL_law_473 : decode code 473 = .ok (.aload_n 0, 1) := by decide +kernel
theorem dL_law_474 : decode code 474 = .ok (.iload_n 3, 1) := by decide +kernel
theorem dL_law_475 : decode code 475 = .ok (.iconst 2, 1) := by decide +kernel
theorem dL_law_476 : decode code 476 = .ok (.iadd, 1) := by decide +kernel
theorem dL_law_477 : decode code 477 = .ok (.iaload, 1) := by decide +kernel
theorem dL_law_478 : decode code 478 = .ok (.aload_n 0, 1) := by decide +kernel
theorem dL_law_479 : decode code 479 = .ok (.iload_n 3, 1) := by decide +kernel
theorem dL_law_480 : decode code 480 = .ok (.iconst 3, 1) := by decide +kernel
theorem dL_law_481 : decode code 481 = .ok (.iadd, 1) := by decide +kernel
theorem dL_law_482 : decode code 482 = .ok (.iaload, 1) := by decide +kernel
theorem dL_law_483 : decode code 483 = .ok (.invokevirtual 45, 3) := by decide +kernel
theorem dL_law_486 : decode code 486 = .ok (.aload_n 2, 1) := by decide +kernel
theorem dL_law_487 : decode code 487 = .ok (.aload_n 0, 1) := by decide +kernel
theorem dL_law_488 : decode code 488 = .ok (.iload_n 3, 1) := by decide +kernel
theorem dL_law_489 : decode code 489 = .ok (.iconst 1, 1) := by decide +kernel
theorem dL_law_490 : decode code 490 = .ok (.iadd, 1) := by decide +kernel
theorem dL_law_491 : decode code 491 = .ok (.iaload, 1) := by decide +kernel
theorem dL_law_492 : decode code 492 = .ok (.aload_n 0, 1) := by decide +kernel
theorem dL_law_493 : decode code 493 = .ok (.iload_n 3, 1) := by decide +kernel
theorem dL_law_494 : decode code 494 = .ok (.iconst 2, 1) := by decide +kernel
theorem dL_law_495 : decode code 495 = .ok (.iadd, 1) := by decide +kernel
theorem dL_law_496 : decode code 496 = .ok (.iaload, 1) := by decide +kernel
theorem dL_law_497 : decode code 497 = .ok (.aload_n 0, 1) := by decide +kernel
theorem dL_law_498 : decode code 498 = .ok (.iload_n 3, 1) := by decide +kernel
theorem dL_law_499 : decode code 499 = .ok (.iconst 3, 1) := by decide +kernel
theorem dL_law_500 : decode code 500 = .ok (.iadd, 1) := by decide +kernel
theorem dL_law_501 : decode code 501 = .ok (.iaload, 1) := by decide +kernel
theorem dL_law_502 : decode code 502 = .ok (.invokevirtual 48, 3) := by decide +kernel
theorem dL_law_505 : decode code 505 = .ok (.if_icmp .eq 920, 3) := by decide +kernel
theorem dL_law_510 : decode code 510 = .ok (.aload_n 1, 1) := by decide +kernel
theorem dL_law_511 : decode code 511 = .ok (.aload_n 0, 1) := by decide +kernel
theorem dL_law_512 : decode code 512 = .ok (.iload_n 3, 1) := by decide +kernel
theorem dL_law_513 : decode code 513 = .ok (.iconst 1, 1) := by decide +kernel
theorem dL_law_514 : decode code 514 = .ok (.iadd, 1) := by decide +kernel
theorem dL_law_515 : decode code 515 = .ok (.iaload, 1) := by decide +kernel
theorem dL_law_516 : decode code 516 = .ok (.invokevirtual 49, 3) := by decide +kernel
theorem dL_law_519 : decode code 519 = .ok (.aload_n 2, 1) := by decide +kernel
theorem dL_law_520 : decode code 520 = .ok (.aload_n 0, 1) := by decide +kernel
theorem dL_law_521 : decode code 521 = .ok (.iload_n 3, 1) := by decide +kernel
theorem dL_law_522 : decode code 522 = .ok (.iconst 1, 1) := by decide +kernel
theorem dL_law_523 : decode code 523 = .ok (.iadd, 1) := by decide +kernel
theorem dL_law_524 : decode code 524 = .ok (.iaload, 1) := by decide +kernel
theorem dL_law_525 : decode code 525 = .ok (.invokevirtual 52, 3) := by decide +kernel
theorem dL_law_528 : decode code 528 = .ok (.if_icmp .eq 897, 3) := by decide +kernel
theorem dL_law_533 : decode code 533 = .ok (.aload_n 1, 1) := by decide +kernel
theorem dL_law_534 : decode code 534 = .ok (.aload_n 0, 1) := by decide +kernel
theorem dL_law_535 : decode code 535 = .ok (.iload_n 3, 1) := by decide +kernel
theorem dL_law_536 : decode code 536 = .ok (.iconst 1, 1) := by decide +kernel
theorem dL_law_537 : decode code 537 = .ok (.iadd, 1) := by decide +kernel
theorem dL_law_538 : decode code 538 = .ok (.iaload, 1) := by decide +kernel
theorem dL_law_539 : decode code 539 = .ok (.invokevirtual 53, 3) := by decide +kernel
theorem dL_law_542 : decode code 542 = .ok (.aload_n 2, 1) := by decide +kernel
theorem dL_law_543 : decode code 543 = .ok (.aload_n 0, 1) := by decide +kernel
theorem dL_law_544 : decode code 544 = .ok (.iload_n 3, 1) := by decide +kernel
theorem dL_law_545 : decode code 545 = .ok (.iconst 1, 1) := by decide +kernel
theorem dL_law_546 : decode code 546 = .ok (.iadd, 1) := by decide +kernel
theorem dL_law_547 : decode code 547 = .ok (.iaload, 1) := by decide +kernel
theorem dL_law_548 : decode code 548 = .ok (.invokevirtual 56, 3) := by decide +kernel
theorem dL_law_551 : decode code 551 = .ok (.if_icmp .eq 874, 3) := by decide +kernel
theorem dL_law_556 : decode code 556 = .ok (.aload_n 1, 1) := by decide +kernel
theorem dL_law_557 : decode code 557 = .ok (.aload_n 0, 1) := by decide +kernel
theorem dL_law_558 : decode code 558 = .ok (.iload_n 3, 1) := by decide +kernel
theorem dL_law_559 : decode code 559 = .ok (.iconst 1, 1) := by decide +kernel
theorem dL_law_560 : decode code 560 = .ok (.iadd, 1) := by decide +kernel
theorem dL_law_561 : decode code 561 = .ok (.iaload, 1) := by decide +kernel
theorem dL_law_562 : decode code 562 = .ok (.aload_n 0, 1) := by decide +kernel
theorem dL_law_563 : decode code 563 = .ok (.iload_n 3, 1) := by decide +kernel
theorem dL_law_564 : decode code 564 = .ok (.iconst 2, 1) := by decide +kernel
theorem dL_law_565 : decode code 565 = .ok (.iadd, 1) := by decide +kernel
theorem dL_law_566 : decode code 566 = .ok (.iaload, 1) := by decide +kernel
theorem dL_law_567 : decode code 567 = .ok (.invokevirtual 57, 3) := by decide +kernel
theorem dL_law_570 : decode code 570 = .ok (.aload_n 2, 1) := by decide +kernel
theorem dL_law_571 : decode code 571 = .ok (.aload_n 0, 1) := by decide +kernel
theorem dL_law_572 : decode code 572 = .ok (.iload_n 3, 1) := by decide +kernel
theorem dL_law_573 : decode code 573 = .ok (.iconst 1, 1) := by decide +kernel
theorem dL_law_574 : decode code 574 = .ok (.iadd, 1) := by decide +kernel
theorem dL_law_575 : decode code 575 = .ok (.iaload, 1) := by decide +kernel
theorem dL_law_576 : decode code 576 = .ok (.aload_n 0, 1) := by decide +kernel
theorem dL_law_577 : decode code 577 = .ok (.iload_n 3, 1) := by decide +kernel
theorem dL_law_578 : decode code 578 = .ok (.iconst 2, 1) := by decide +kernel
theorem dL_law_579 : decode code 579 = .ok (.iadd, 1) := by decide +kernel
theorem dL_law_580 : decode code 580 = .ok (.iaload, 1) := by decide +kernel
theorem dL_law_581 : decode code 581 = .ok (.invokevirtual 60, 3) := by decide +kernel
theorem dL_law_584 : decode code 584 = .ok (.if_icmp .eq 841, 3) := by decide +kernel
theorem dL_law_589 : decode code 589 = .ok (.aload_n 1, 1) := by decide +kernel
theorem dL_law_590 : decode code 590 = .ok (.aload_n 0, 1) := by decide +kernel
theorem dL_law_591 : decode code 591 = .ok (.iload_n 3, 1) := by decide +kernel
theorem dL_law_592 : decode code 592 = .ok (.iconst 1, 1) := by decide +kernel
theorem dL_law_593 : decode code 593 = .ok (.iadd, 1) := by decide +kernel
theorem dL_law_594 : decode code 594 = .ok (.iaload, 1) := by decide +kernel
theorem dL_law_595 : decode code 595 = .ok (.aload_n 0, 1) := by decide +kernel
theorem dL_law_596 : decode code 596 = .ok (.iload_n 3, 1) := by decide +kernel
theorem dL_law_597 : decode code 597 = .ok (.iconst 2, 1) := by decide +kernel
theorem dL_law_598 : decode code 598 = .ok (.iadd, 1) := by decide +kernel
theorem dL_law_599 : decode code 599 = .ok (.iaload, 1) := by decide +kernel
theorem dL_law_600 : decode code 600 = .ok (.invokevirtual 61, 3) := by decide +kernel
theorem dL_law_603 : decode code 603 = .ok (.aload_n 2, 1) := by decide +kernel
theorem dL_law_604 : decode code 604 = .ok (.aload_n 0, 1) := by decide +kernel
theorem dL_law_605 : decode code 605 = .ok (.iload_n 3, 1) := by decide +kernel
theorem dL_law_606 : decode code 606 = .ok (.iconst 1, 1) := by decide +kernel
theorem dL_law_607 : decode code 607 = .ok (.iadd, 1) := by decide +kernel
theorem dL_law_608 : decode code 608 = .ok (.iaload, 1) := by decide +kernel
theorem dL_law_609 : decode code 609 = .ok (.aload_n 0, 1) := by decide +kernel
theorem dL_law_610 : decode code 610 = .ok (.iload_n 3, 1) := by decide +kernel
theorem dL_law_611 : decode code 611 = .ok (.iconst 2, 1) := by decide +kernel
theorem dL_law_612 : decode code 612 = .ok (.iadd, 1) := by decide +kernel
theorem dL_law_613 : decode code 613 = .ok (.iaload, 1) := by decide +kernel
theorem dL_law_614 : decode code 614 = .ok (.invokevirtual 64, 3) := by decide +kernel
theorem dL_law_617 : decode code 617 = .ok (.if_icmp .eq 808, 3) := by decide +kernel
theorem dL_law_622 : decode code 622 = .ok (.aload_n 1, 1) := by decide +kernel
theorem dL_law_623 : decode code 623 = .ok (.invokevirtual 65, 3) := by decide +kernel
theorem dL_law_626 : decode code 626 = .ok (.aload_n 2, 1) := by decide +kernel
theorem dL_law_627 : decode code 627 = .ok (.invokevirtual 69, 3) := by decide +kernel
theorem dL_law_630 : decode code 630 = .ok (.if_icmp .eq 795, 3) := by decide +kernel
theorem dL_law_635 : decode code 635 = .ok (.aload_n 1, 1) := by decide +kernel
theorem dL_law_636 : decode code 636 = .ok (.aload_n 0, 1) := by decide +kernel
theorem dL_law_637 : decode code 637 = .ok (.iload_n 3, 1) := by decide +kernel
theorem dL_law_638 : decode code 638 = .ok (.iconst 1, 1) := by decide +kernel
theorem dL_law_639 : decode code 639 = .ok (.iadd, 1) := by decide +kernel
theorem dL_law_640 : decode code 640 = .ok (.iaload, 1) := by decide +kernel
theorem dL_law_641 : decode code 641 = .ok (.aload_n 0, 1) := by decide +kernel
theorem dL_law_642 : decode code 642 = .ok (.iload_n 3, 1) := by decide +kernel
theorem dL_law_643 : decode code 643 = .ok (.iconst 2, 1) := by decide +kernel
theorem dL_law_644 : decode code 644 = .ok (.iadd, 1) := by decide +kernel
theorem dL_law_645 : decode code 645 = .ok (.iaload, 1) := by decide +kernel
theorem dL_law_646 : decode code 646 = .ok (.invokevirtual 70, 3) := by decide +kernel
theorem dL_law_649 : decode code 649 = .ok (.aload_n 2, 1) := by decide +kernel
theorem dL_law_650 : decode code 650 = .ok (.aload_n 0, 1) := by decide +kernel
theorem dL_law_651 : decode code 651 = .ok (.iload_n 3, 1) := by decide +kernel
theorem dL_law_652 : decode code 652 = .ok (.iconst 1, 1) := by decide +kernel
theorem dL_law_653 : decode code 653 = .ok (.iadd, 1) := by decide +kernel
theorem dL_law_654 : decode code 654 = .ok (.iaload, 1) := by decide +kernel
theorem dL_law_655 : decode code 655 = .ok (.aload_n 0, 1) := by decide +kernel
theorem dL_law_656 : decode code 656 = .ok (.iload_n 3, 1) := by decide +kernel
theorem dL_law_657 : decode code 657 = .ok (.iconst 2, 1) := by decide +kernel
theorem dL_law_658 : decode code 658 = .ok (.iadd, 1) := by decide +kernel
theorem dL_law_659 : decode code 659 = .ok (.iaload, 1) := by decide +kernel
theorem dL_law_660 : decode code 660 = .ok (.invokevirtual 73, 3) := by decide +kernel
theorem dL_law_663 : decode code 663 = .ok (.if_icmp .eq 762, 3) := by decide +kernel
theorem dL_law_668 : decode code 668 = .ok (.aload_n 1, 1) := by decide +kernel
theorem dL_law_669 : decode code 669 = .ok (.aload_n 0, 1) := by decide +kernel
theorem dL_law_670 : decode code 670 = .ok (.iload_n 3, 1) := by decide +kernel
theorem dL_law_671 : decode code 671 = .ok (.iconst 1, 1) := by decide +kernel
theorem dL_law_672 : decode code 672 = .ok (.iadd, 1) := by decide +kernel
theorem dL_law_673 : decode code 673 = .ok (.iaload, 1) := by decide +kernel
theorem dL_law_674 : decode code 674 = .ok (.aload_n 0, 1) := by decide +kernel
theorem dL_law_675 : decode code 675 = .ok (.iload_n 3, 1) := by decide +kernel
theorem dL_law_676 : decode code 676 = .ok (.iconst 2, 1) := by decide +kernel
theorem dL_law_677 : decode code 677 = .ok (.iadd, 1) := by decide +kernel
theorem dL_law_678 : decode code 678 = .ok (.iaload, 1) := by decide +kernel
theorem dL_law_679 : decode code 679 = .ok (.invokevirtual 74, 3) := by decide +kernel
theorem dL_law_682 : decode code 682 = .ok (.aload_n 2, 1) := by decide +kernel
theorem dL_law_683 : decode code 683 = .ok (.aload_n 0, 1) := by decide +kernel
theorem dL_law_684 : decode code 684 = .ok (.iload_n 3, 1) := by decide +kernel
theorem dL_law_685 : decode code 685 = .ok (.iconst 1, 1) := by decide +kernel
theorem dL_law_686 : decode code 686 = .ok (.iadd, 1) := by decide +kernel
theorem dL_law_687 : decode code 687 = .ok (.iaload, 1) := by decide +kernel
theorem dL_law_688 : decode code 688 = .ok (.aload_n 0, 1) := by decide +kernel
theorem dL_law_689 : decode code 689 = .ok (.iload_n 3, 1) := by decide +kernel
theorem dL_law_690 : decode code 690 = .ok (.iconst 2, 1) := by decide +kernel
theorem dL_law_691 : decode code 691 = .ok (.iadd, 1) := by decide +kernel
theorem dL_law_692 : decode code 692 = .ok (.iaload, 1) := by decide +kernel
theorem dL_law_693 : decode code 693 = .ok (.invokevirtual 77, 3) := by decide +kernel
theorem dL_law_696 : decode code 696 = .ok (.if_icmp .eq 729, 3) := by decide +kernel
theorem dL_law_701 : decode code 701 = .ok (.aload_n 1, 1) := by decide +kernel
theorem dL_law_702 : decode code 702 = .ok (.aload_n 0, 1) := by decide +kernel
theorem dL_law_703 : decode code 703 = .ok (.iload_n 3, 1) := by decide +kernel
theorem dL_law_704 : decode code 704 = .ok (.iconst 1, 1) := by decide +kernel
theorem dL_law_705 : decode code 705 = .ok (.iadd, 1) := by decide +kernel
theorem dL_law_706 : decode code 706 = .ok (.iaload, 1) := by decide +kernel
theorem dL_law_707 : decode code 707 = .ok (.aload_n 0, 1) := by decide +kernel
theorem dL_law_708 : decode code 708 = .ok (.iload_n 3, 1) := by decide +kernel
theorem dL_law_709 : decode code 709 = .ok (.iconst 2, 1) := by decide +kernel
theorem dL_law_710 : decode code 710 = .ok (.iadd, 1) := by decide +kernel
theorem dL_law_711 : decode code 711 = .ok (.iaload, 1) := by decide +kernel
theorem dL_law_712 : decode code 712 = .ok (.invokevirtual 78, 3) := by decide +kernel
theorem dL_law_715 : decode code 715 = .ok (.aload_n 2, 1) := by decide +kernel
theorem dL_law_716 : decode code 716 = .ok (.aload_n 0, 1) := by decide +kernel
theorem dL_law_717 : decode code 717 = .ok (.iload_n 3, 1) := by decide +kernel
theorem dL_law_718 : decode code 718 = .ok (.iconst 1, 1) := by decide +kernel
theorem dL_law_719 : decode code 719 = .ok (.iadd, 1) := by decide +kernel
theorem dL_law_720 : decode code 720 = .ok (.iaload, 1) := by decide +kernel
theorem dL_law_721 : decode code 721 = .ok (.aload_n 0, 1) := by decide +kernel
theorem dL_law_722 : decode code 722 = .ok (.iload_n 3, 1) := by decide +kernel
theorem dL_law_723 : decode code 723 = .ok (.iconst 2, 1) := by decide +kernel
theorem dL_law_724 : decode code 724 = .ok (.iadd, 1) := by decide +kernel
theorem dL_law_725 : decode code 725 = .ok (.iaload, 1) := by decide +kernel
theorem dL_law_726 : decode code 726 = .ok (.invokevirtual 81, 3) := by decide +kernel
theorem dL_law_729 : decode code 729 = .ok (.if_icmp .eq 696, 3) := by decide +kernel
theorem dL_law_734 : decode code 734 = .ok (.aload_n 1, 1) := by decide +kernel
theorem dL_law_735 : decode code 735 = .ok (.aload_n 0, 1) := by decide +kernel
theorem dL_law_736 : decode code 736 = .ok (.iload_n 3, 1) := by decide +kernel
theorem dL_law_737 : decode code 737 = .ok (.iconst 1, 1) := by decide +kernel
theorem dL_law_738 : decode code 738 = .ok (.iadd, 1) := by decide +kernel
theorem dL_law_739 : decode code 739 = .ok (.iaload, 1) := by decide +kernel
theorem dL_law_740 : decode code 740 = .ok (.invokevirtual 82, 3) := by decide +kernel
theorem dL_law_743 : decode code 743 = .ok (.aload_n 2, 1) := by decide +kernel
theorem dL_law_744 : decode code 744 = .ok (.aload_n 0, 1) := by decide +kernel
theorem dL_law_745 : decode code 745 = .ok (.iload_n 3, 1) := by decide +kernel
theorem dL_law_746 : decode code 746 = .ok (.iconst 1, 1) := by decide +kernel
theorem dL_law_747 : decode code 747 = .ok (.iadd, 1) := by decide +kernel
theorem dL_law_748 : decode code 748 = .ok (.iaload, 1) := by decide +kernel
theorem dL_law_749 : decode code 749 = .ok (.invokevirtual 85, 3) := by decide +kernel
theorem dL_law_752 : decode code 752 = .ok (.if_icmp .eq 673, 3) := by decide +kernel
theorem dL_law_757 : decode code 757 = .ok (.aload_n 1, 1) := by decide +kernel
theorem dL_law_758 : decode code 758 = .ok (.aload_n 0, 1) := by decide +kernel
theorem dL_law_759 : decode code 759 = .ok (.iload_n 3, 1) := by decide +kernel
theorem dL_law_760 : decode code 760 = .ok (.iconst 1, 1) := by decide +kernel
theorem dL_law_761 : decode code 761 = .ok (.iadd, 1) := by decide +kernel
theorem dL_law_762 : decode code 762 = .ok (.iaload, 1) := by decide +kernel
theorem dL_law_763 : decode code 763 = .ok (.invokevirtual 86, 3) := by decide +kernel
theorem dL_law_766 : decode code 766 = .ok (.aload_n 2, 1) := by decide +kernel
theorem dL_law_767 : decode code 767 = .ok (.aload_n 0, 1) := by decide +kernel
theorem dL_law_768 : decode code 768 = .ok (.iload_n 3, 1) := by decide +kernel
theorem dL_law_769 : decode code 769 = .ok (.iconst 1, 1) := by decide +kernel
theorem dL_law_770 : decode code 770 = .ok (.iadd, 1) := by decide +kernel
theorem dL_law_771 : decode code 771 = .ok (.iaload, 1) := by decide +kernel
theorem dL_law_772 : decode code 772 = .ok (.invokevirtual 89, 3) := by decide +kernel
theorem dL_law_775 : decode code 775 = .ok (.if_icmp .eq 650, 3) := by decide +kernel
theorem dL_law_780 : decode code 780 = .ok (.aload_n 1, 1) := by decide +kernel
theorem dL_law_781 : decode code 781 = .ok (.aload_n 0, 1) := by decide +kernel
theorem dL_law_782 : decode code 782 = .ok (.iload_n 3, 1) := by decide +kernel
theorem dL_law_783 : decode code 783 = .ok (.iconst 1, 1) := by decide +kernel
theorem dL_law_784 : decode code 784 = .ok (.iadd, 1) := by decide +kernel
theorem dL_law_785 : decode code 785 = .ok (.iaload, 1) := by decide +kernel
theorem dL_law_786 : decode code 786 = .ok (.invokevirtual 90, 3) := by decide +kernel
theorem dL_law_789 : decode code 789 = .ok (.aload_n 2, 1) := by decide +kernel
theorem dL_law_790 : decode code 790 = .ok (.aload_n 0, 1) := by decide +kernel
theorem dL_law_791 : decode code 791 = .ok (.iload_n 3, 1) := by decide +kernel
theorem dL_law_792 : decode code 792 = .ok (.iconst 1, 1) := by decide +kernel
theorem dL_law_793 : decode code 793 = .ok (.iadd, 1) := by decide +kernel
theorem dL_law_794 : decode code 794 = .ok (.iaload, 1) := by decide +kernel
theorem dL_law_795 : decode code 795 = .ok (.invokevirtual 93, 3) := by decide +kernel
theorem dL_law_798 : decode code 798 = .ok (.if_icmp .eq 627, 3) := by decide +kernel
theorem dL_law_803 : decode code 803 = .ok (.aload_n 1, 1) := by decide +kernel
theorem dL_law_804 : decode code 804 = .ok (.aload_n 0, 1) := by decide +kernel
theorem dL_law_805 : decode code 805 = .ok (.iload_n 3, 1) := by decide +kernel
theorem dL_law_806 : decode code 806 = .ok (.iconst 1, 1) := by decide +kernel
theorem dL_law_807 : decode code 807 = .ok (.iadd, 1) := by decide +kernel
theorem dL_law_808 : decode code 808 = .ok (.iaload, 1) := by decide +kernel
theorem dL_law_809 : decode code 809 = .ok (.aload_n 0, 1) := by decide +kernel
theorem dL_law_810 : decode code 810 = .ok (.iload_n 3, 1) := by decide +kernel
theorem dL_law_811 : decode code 811 = .ok (.iconst 2, 1) := by decide +kernel
theorem dL_law_812 : decode code 812 = .ok (.iadd, 1) := by decide +kernel
theorem dL_law_813 : decode code 813 = .ok (.iaload, 1) := by decide +kernel
theorem dL_law_814 : decode code 814 = .ok (.aload_n 0, 1) := by decide +kernel
theorem dL_law_815 : decode code 815 = .ok (.iload_n 3, 1) := by decide +kernel
theorem dL_law_816 : decode code 816 = .ok (.iconst 3, 1) := by decide +kernel
theorem dL_law_817 : decode code 817 = .ok (.iadd, 1) := by decide +kernel
theorem dL_law_818 : decode code 818 = .ok (.iaload, 1) := by decide +kernel
theorem dL_law_819 : decode code 819 = .ok (.aload_n 0, 1) := by decide +kernel
theorem dL_law_820 : decode code 820 = .ok (.iload_n 3, 1) := by decide +kernel
theorem dL_law_821 : decode code 821 = .ok (.iconst 4, 1) := by decide +kernel
theorem dL_law_822 : decode code 822 = .ok (.iadd, 1) := by decide +kernel
theorem dL_law_823 : decode code 823 = .ok (.iaload, 1) := by decide +kernel
theorem dL_law_824 : decode code 824 = .ok (.invokevirtual 94, 3) := by decide +kernel
theorem dL_law_827 : decode code 827 = .ok (.aload_n 2, 1) := by decide +kernel
theorem dL_law_828 : decode code 828 = .ok (.aload_n 0, 1) := by decide +kernel
theorem dL_law_829 : decode code 829 = .ok (.iload_n 3, 1) := by decide +kernel
theorem dL_law_830 : decode code 830 = .ok (.iconst 1, 1) := by decide +kernel
theorem dL_law_831 : decode code 831 = .ok (.iadd, 1) := by decide +kernel
theorem dL_law_832 : decode code 832 = .ok (.iaload, 1) := by decide +kernel
theorem dL_law_833 : decode code 833 = .ok (.aload_n 0, 1) := by decide +kernel
theorem dL_law_834 : decode code 834 = .ok (.iload_n 3, 1) := by decide +kernel
theorem dL_law_835 : decode code 835 = .ok (.iconst 2, 1) := by decide +kernel
theorem dL_law_836 : decode code 836 = .ok (.iadd, 1) := by decide +kernel
theorem dL_law_837 : decode code 837 = .ok (.iaload, 1) := by decide +kernel
theorem dL_law_838 : decode code 838 = .ok (.aload_n 0, 1) := by decide +kernel
theorem dL_law_839 : decode code 839 = .ok (.iload_n 3, 1) := by decide +kernel
theorem dL_law_840 : decode code 840 = .ok (.iconst 3, 1) := by decide +kernel
theorem dL_law_841 : decode code 841 = .ok (.iadd, 1) := by decide +kernel
theorem dL_law_842 : decode code 842 = .ok (.iaload, 1) := by decide +kernel
theorem dL_law_843 : decode code 843 = .ok (.aload_n 0, 1) := by decide +kernel
theorem dL_law_844 : decode code 844 = .ok (.iload_n 3, 1) := by decide +kernel
theorem dL_law_845 : decode code 845 = .ok (.iconst 4, 1) := by decide +kernel
theorem dL_law_846 : decode code 846 = .ok (.iadd, 1) := by decide +kernel
theorem dL_law_847 : decode code 847 = .ok (.iaload, 1) := by decide +kernel
theorem dL_law_848 : decode code 848 = .ok (.invokevirtual 98, 3) := by decide +kernel
theorem dL_law_851 : decode code 851 = .ok (.if_icmp .eq 574, 3) := by decide +kernel
theorem dL_law_856 : decode code 856 = .ok (.aload_n 1, 1) := by decide +kernel
theorem dL_law_857 : decode code 857 = .ok (.aload_n 0, 1) := by decide +kernel
theorem dL_law_858 : decode code 858 = .ok (.iload_n 3, 1) := by decide +kernel
theorem dL_law_859 : decode code 859 = .ok (.iconst 1, 1) := by decide +kernel
theorem dL_law_860 : decode code 860 = .ok (.iadd, 1) := by decide +kernel
theorem dL_law_861 : decode code 861 = .ok (.iaload, 1) := by decide +kernel
theorem dL_law_862 : decode code 862 = .ok (.invokevirtual 99, 3) := by decide +kernel
theorem dL_law_865 : decode code 865 = .ok (.aload_n 2, 1) := by decide +kernel
theorem dL_law_866 : decode code 866 = .ok (.aload_n 0, 1) := by decide +kernel
theorem dL_law_867 : decode code 867 = .ok (.iload_n 3, 1) := by decide +kernel
theorem dL_law_868 : decode code 868 = .ok (.iconst 1, 1) := by decide +kernel
theorem dL_law_869 : decode code 869 = .ok (.iadd, 1) := by decide +kernel
theorem dL_law_870 : decode code 870 = .ok (.iaload, 1) := by decide +kernel
theorem dL_law_871 : decode code 871 = .ok (.invokevirtual 102, 3) := by decide +kernel
theorem dL_law_874 : decode code 874 = .ok (.if_icmp .eq 551, 3) := by decide +kernel
theorem dL_law_879 : decode code 879 = .ok (.aload_n 1, 1) := by decide +kernel
theorem dL_law_880 : decode code 880 = .ok (.aload_n 0, 1) := by decide +kernel
theorem dL_law_881 : decode code 881 = .ok (.iload_n 3, 1) := by decide +kernel
theorem dL_law_882 : decode code 882 = .ok (.iconst 1, 1) := by decide +kernel
theorem dL_law_883 : decode code 883 = .ok (.iadd, 1) := by decide +kernel
theorem dL_law_884 : decode code 884 = .ok (.iaload, 1) := by decide +kernel
theorem dL_law_885 : decode code 885 = .ok (.aload_n 0, 1) := by decide +kernel
theorem dL_law_886 : decode code 886 = .ok (.iload_n 3, 1) := by decide +kernel
theorem dL_law_887 : decode code 887 = .ok (.iconst 2, 1) := by decide +kernel
theorem dL_law_888 : decode code 888 = .ok (.iadd, 1) := by decide +kernel
theorem dL_law_889 : decode code 889 = .ok (.iaload, 1) := by decide +kernel
theorem dL_law_890 : decode code 890 = .ok (.invokevirtual 103, 3) := by decide +kernel
theorem dL_law_893 : decode code 893 = .ok (.aload_n 2, 1) := by decide +kernel
theorem dL_law_894 : decode code 894 = .ok (.aload_n 0, 1) := by decide +kernel
theorem dL_law_895 : decode code 895 = .ok (.iload_n 3, 1) := by decide +kernel
theorem dL_law_896 : decode code 896 = .ok (.iconst 1, 1) := by decide +kernel
theorem dL_law_897 : decode code 897 = .ok (.iadd, 1) := by decide +kernel
theorem dL_law_898 : decode code 898 = .ok (.iaload, 1) := by decide +kernel
theorem dL_law_899 : decode code 899 = .ok (.aload_n 0, 1) := by decide +kernel
theorem dL_law_900 : decode code 900 = .ok (.iload_n 3, 1) := by decide +kernel
theorem dL_law_901 : decode code 901 = .ok (.iconst 2, 1) := by decide +kernel
theorem dL_law_902 : decode code 902 = .ok (.iadd, 1) := by decide +kernel
theorem dL_law_903 : decode code 903 = .ok (.iaload, 1) := by decide +kernel
theorem dL_law_904 : decode code 904 = .ok (.invokevirtual 106, 3) := by decide +kernel
theorem dL_law_907 : decode code 907 = .ok (.if_icmp .eq 518, 3) := by decide +kernel
theorem dL_law_912 : decode code 912 = .ok (.aload_n 1, 1) := by decide +kernel
theorem dL_law_913 : decode code 913 = .ok (.aload_n 0, 1) := by decide +kernel
theorem dL_law_914 : decode code 914 = .ok (.iload_n 3, 1) := by decide +kernel
theorem dL_law_915 : decode code 915 = .ok (.iconst 1, 1) := by decide +kernel
theorem dL_law_916 : decode code 916 = .ok (.iadd, 1) := by decide +kernel
theorem dL_law_917 : decode code 917 = .ok (.iaload, 1) := by decide +kernel
theorem dL_law_918 : decode code 918 = .ok (.invokevirtual 107, 3) := by decide +kernel
theorem dL_law_921 : decode code 921 = .ok (.aload_n 2, 1) := by decide +kernel
theorem dL_law_922 : decode code 922 = .ok (.aload_n 0, 1) := by decide +kernel
theorem dL_law_923 : decode code 923 = .ok (.iload_n 3, 1) := by decide +kernel
theorem dL_law_924 : decode code 924 = .ok (.iconst 1, 1) := by decide +kernel
theorem dL_law_925 : decode code 925 = .ok (.iadd, 1) := by decide +kernel
theorem dL_law_926 : decode code 926 = .ok (.iaload, 1) := by decide +kernel
theorem dL_law_927 : decode code 927 = .ok (.invokevirtual 110, 3) := by decide +kernel
theorem dL_law_930 : decode code 930 = .ok (.if_icmp .eq 495, 3) := by decide +kernel
theorem dL_law_935 : decode code 935 = .ok (.aload_n 1, 1) := by decide +kernel
theorem dL_law_936 : decode code 936 = .ok (.aload_n 0, 1) := by decide +kernel
theorem dL_law_937 : decode code 937 = .ok (.iload_n 3, 1) := by decide +kernel
theorem dL_law_938 : decode code 938 = .ok (.iconst 1, 1) := by decide +kernel
theorem dL_law_939 : decode code 939 = .ok (.iadd, 1) := by decide +kernel
theorem dL_law_940 : decode code 940 = .ok (.iaload, 1) := by decide +kernel
theorem dL_law_941 : decode code 941 = .ok (.aload_n 0, 1) := by decide +kernel
theorem dL_law_942 : decode code 942 = .ok (.iload_n 3, 1) := by decide +kernel
theorem dL_law_943 : decode code 943 = .ok (.iconst 2, 1) := by decide +kernel
theorem dL_law_944 : decode code 944 = .ok (.iadd, 1) := by decide +kernel
theorem dL_law_945 : decode code 945 = .ok (.iaload, 1) := by decide +kernel
theorem dL_law_946 : decode code 946 = .ok (.invokevirtual 111, 3) := by decide +kernel
theorem dL_law_949 : decode code 949 = .ok (.aload_n 2, 1) := by decide +kernel
theorem dL_law_950 : decode code 950 = .ok (.aload_n 0, 1) := by decide +kernel
theorem dL_law_951 : decode code 951 = .ok (.iload_n 3, 1) := by decide +kernel
theorem dL_law_952 : decode code 952 = .ok (.iconst 1, 1) := by decide +kernel
theorem dL_law_953 : decode code 953 = .ok (.iadd, 1) := by decide +kernel
theorem dL_law_954 : decode code 954 = .ok (.iaload, 1) := by decide +kernel
theorem dL_law_955 : decode code 955 = .ok (.aload_n 0, 1) := by decide +kernel
theorem dL_law_956 : decode code 956 = .ok (.iload_n 3, 1) := by decide +kernel
theorem dL_law_957 : decode code 957 = .ok (.iconst 2, 1) := by decide +kernel
theorem dL_law_958 : decode code 958 = .ok (.iadd, 1) := by decide +kernel
theorem dL_law_959 : decode code 959 = .ok (.iaload, 1) := by decide +kernel
theorem dL_law_960 : decode code 960 = .ok (.invokevirtual 114, 3) := by decide +kernel
theorem dL_law_963 : decode code 963 = .ok (.if_icmp .eq 462, 3) := by decide +kernel
theorem dL_law_968 : decode code 968 = .ok (.aload_n 1, 1) := by decide +kernel
theorem dL_law_969 : decode code 969 = .ok (.aload_n 0, 1) := by decide +kernel
theorem dL_law_970 : decode code 970 = .ok (.iload_n 3, 1) := by decide +kernel
theorem dL_law_971 : decode code 971 = .ok (.iconst 1, 1) := by decide +kernel
theorem dL_law_972 : decode code 972 = .ok (.iadd, 1) := by decide +kernel
theorem dL_law_973 : decode code 973 = .ok (.iaload, 1) := by decide +kernel
theorem dL_law_974 : decode code 974 = .ok (.aload_n 0, 1) := by decide +kernel
theorem dL_law_975 : decode code 975 = .ok (.iload_n 3, 1) := by decide +kernel
theorem dL_law_976 : decode code 976 = .ok (.iconst 2, 1) := by decide +kernel
theorem dL_law_977 : decode code 977 = .ok (.iadd, 1) := by decide +kernel
theorem dL_law_978 : decode code 978 = .ok (.iaload, 1) := by decide +kernel
theorem dL_law_979 : decode code 979 = .ok (.invokevirtual 115, 3) := by decide +kernel
theorem dL_law_982 : decode code 982 = .ok (.aload_n 2, 1) := by decide +kernel
theorem dL_law_983 : decode code 983 = .ok (.aload_n 0, 1) := by decide +kernel
theorem dL_law_984 : decode code 984 = .ok (.iload_n 3, 1) := by decide +kernel
theorem dL_law_985 : decode code 985 = .ok (.iconst 1, 1) := by decide +kernel
theorem dL_law_986 : decode code 986 = .ok (.iadd, 1) := by decide +kernel
theorem dL_law_987 : decode code 987 = .ok (.iaload, 1) := by decide +kernel
theorem dL_law_988 : decode code 988 = .ok (.aload_n 0, 1) := by decide +kernel
theorem dL_law_989 : decode code 989 = .ok (.iload_n 3, 1) := by decide +kernel
theorem dL_law_990 : decode code 990 = .ok (.iconst 2, 1) := by decide +kernel
theorem dL_law_991 : decode code 991 = .ok (.iadd, 1) := by decide +kernel
theorem dL_law_992 : decode code 992 = .ok (.iaload, 1) := by decide +kernel
theorem dL_law_993 : decode code 993 = .ok (.invokevirtual 118, 3) := by decide +kernel
theorem dL_law_996 : decode code 996 = .ok (.if_icmp .eq 429, 3) := by decide +kernel
theorem dL_law_1001 : decode code 1001 = .ok (.aload_n 1, 1) := by decide +kernel
theorem dL_law_1002 : decode code 1002 = .ok (.aload_n 0, 1) := by decide +kernel
theorem dL_law_1003 : decode code 1003 = .ok (.iload_n 3, 1) := by decide +kernel
theorem dL_law_1004 : decode code 1004 = .ok (.iconst 1, 1) := by decide +kernel
theorem dL_law_1005 : decode code 1005 = .ok (.iadd, 1) := by decide +kernel
theorem dL_law_1006 : decode code 1006 = .ok (.iaload, 1) := by decide +kernel
theorem dL_law_1007 : decode code 1007 = .ok (.aload_n 0, 1) := by decide +kernel
theorem dL_law_1008 : decode code 1008 = .ok (.iload_n 3, 1) := by decide +kernel
theorem dL_law_1009 : decode code 1009 = .ok (.iconst 2, 1) := by decide +kernel
theorem dL_law_1010 : decode code 1010 = .ok (.iadd, 1) := by decide +kernel
theorem dL_law_1011 : decode code 1011 = .ok (.iaload, 1) := by decide +kernel
theorem dL_law_1012 : decode code 1012 = .ok (.invokevirtual 119, 3) := by decide +kernel
theorem dL_law_1015 : decode code 1015 = .ok (.aload_n 2, 1) := by decide +kernel
theorem dL_law_1016 : decode code 1016 = .ok (.aload_n 0, 1) := by decide +kernel
theorem dL_law_1017 : decode code 1017 = .ok (.iload_n 3, 1) := by decide +kernel
theorem dL_law_1018 : decode code 1018 = .ok (.iconst 1, 1) := by decide +kernel
theorem dL_law_1019 : decode code 1019 = .ok (.iadd, 1) := by decide +kernel
theorem dL_law_1020 : decode code 1020 = .ok (.iaload, 1) := by decide +kernel
theorem dL_law_1021 : decode code 1021 = .ok (.aload_n 0, 1) := by decide +kernel
theorem dL_law_1022 : decode code 1022 = .ok (.iload_n 3, 1) := by decide +kernel
theorem dL_law_1023 : decode code 1023 = .ok (.iconst 2, 1) := by decide +kernel
theorem dL_law_1024 : decode code 1024 = .ok (.iadd, 1) := by decide +kernel
theorem dL_law_1025 : decode code 1025 = .ok (.iaload, 1) := by decide +kernel
theorem dL_law_1026 : decode code 1026 = .ok (.invokevirtual 122, 3) := by decide +kernel
theorem dL_law_1029 : decode code 1029 = .ok (.if_icmp .eq 396, 3) := by decide +kernel
theorem dL_law_1034 : decode code 1034 = .ok (.aload_n 1, 1) := by decide +kernel
theorem dL_law_1035 : decode code 1035 = .ok (.aload_n 0, 1) := by decide +kernel
theorem dL_law_1036 : decode code 1036 = .ok (.iload_n 3, 1) := by decide +kernel
theorem dL_law_1037 : decode code 1037 = .ok (.iconst 1, 1) := by decide +kernel
theorem dL_law_1038 : decode code 1038 = .ok (.iadd, 1) := by decide +kernel
theorem dL_law_1039 : decode code 1039 = .ok (.iaload, 1) := by decide +kernel
theorem dL_law_1040 : decode code 1040 = .ok (.aload_n 0, 1) := by decide +kernel
theorem dL_law_1041 : decode code 1041 = .ok (.iload_n 3, 1) := by decide +kernel
theorem dL_law_1042 : decode code 1042 = .ok (.iconst 2, 1) := by decide +kernel
theorem dL_law_1043 : decode code 1043 = .ok (.iadd, 1) := by decide +kernel
theorem dL_law_1044 : decode code 1044 = .ok (.iaload, 1) := by decide +kernel
theorem dL_law_1045 : decode code 1045 = .ok (.invokevirtual 123, 3) := by decide +kernel
theorem dL_law_1048 : decode code 1048 = .ok (.aload_n 2, 1) := by decide +kernel
theorem dL_law_1049 : decode code 1049 = .ok (.aload_n 0, 1) := by decide +kernel
theorem dL_law_1050 : decode code 1050 = .ok (.iload_n 3, 1) := by decide +kernel
theorem dL_law_1051 : decode code 1051 = .ok (.iconst 1, 1) := by decide +kernel
theorem dL_law_1052 : decode code 1052 = .ok (.iadd, 1) := by decide +kernel
theorem dL_law_1053 : decode code 1053 = .ok (.iaload, 1) := by decide +kernel
theorem dL_law_1054 : decode code 1054 = .ok (.aload_n 0, 1) := by decide +kernel
theorem dL_law_1055 : decode code 1055 = .ok (.iload_n 3, 1) := by decide +kernel
theorem dL_law_1056 : decode code 1056 = .ok (.iconst 2, 1) := by decide +kernel
theorem dL_law_1057 : decode code 1057 = .ok (.iadd, 1) := by decide +kernel
theorem dL_law_1058 : decode code 1058 = .ok (.iaload, 1) := by decide +kernel
theorem dL_law_1059 : decode code 1059 = .ok (.invokevirtual 126, 3) := by decide +kernel
theorem dL_law_1062 : decode code 1062 = .ok (.if_icmp .eq 363, 3) := by decide +kernel
theorem dL_law_1067 : decode code 1067 = .ok (.aload_n 1, 1) := by decide +kernel
theorem dL_law_1068 : decode code 1068 = .ok (.aload_n 0, 1) := by decide +kernel
theorem dL_law_1069 : decode code 1069 = .ok (.iload_n 3, 1) := by decide +kernel
theorem dL_law_1070 : decode code 1070 = .ok (.iconst 1, 1) := by decide +kernel
theorem dL_law_1071 : decode code 1071 = .ok (.iadd, 1) := by decide +kernel
theorem dL_law_1072 : decode code 1072 = .ok (.iaload, 1) := by decide +kernel
theorem dL_law_1073 : decode code 1073 = .ok (.aload_n 0, 1) := by decide +kernel
theorem dL_law_1074 : decode code 1074 = .ok (.iload_n 3, 1) := by decide +kernel
theorem dL_law_1075 : decode code 1075 = .ok (.iconst 2, 1) := by decide +kernel
theorem dL_law_1076 : decode code 1076 = .ok (.iadd, 1) := by decide +kernel
theorem dL_law_1077 : decode code 1077 = .ok (.iaload, 1) := by decide +kernel
theorem dL_law_1078 : decode code 1078 = .ok (.invokevirtual 127, 3) := by decide +kernel
theorem dL_law_1081 : decode code 1081 = .ok (.aload_n 2, 1) := by decide +kernel
theorem dL_law_1082 : decode code 1082 = .ok (.aload_n 0, 1) := by decide +kernel
theorem dL_law_1083 : decode code 1083 = .ok (.iload_n 3, 1) := by decide +kernel
theorem dL_law_1084 : decode code 1084 = .ok (.iconst 1, 1) := by decide +kernel
theorem dL_law_1085 : decode code 1085 = .ok (.iadd, 1) := by decide +kernel
theorem dL_law_1086 : decode code 1086 = .ok (.iaload, 1) := by decide +kernel
theorem dL_law_1087 : decode code 1087 = .ok (.aload_n 0, 1) := by decide +kernel
theorem dL_law_1088 : decode code 1088 = .ok (.iload_n 3, 1) := by decide +kernel
theorem dL_law_1089 : decode code 1089 = .ok (.iconst 2, 1) := by decide +kernel
theorem dL_law_1090 : decode code 1090 = .ok (.iadd, 1) := by decide +kernel
theorem dL_law_1091 : decode code 1091 = .ok (.iaload, 1) := by decide +kernel
theorem dL_law_1092 : decode code 1092 = .ok (.invokevirtual 130, 3) := by decide +kernel
theorem dL_law_1095 : decode code 1095 = .ok (.if_icmp .eq 330, 3) := by decide +kernel
theorem dL_law_1100 : decode code 1100 = .ok (.aload_n 1, 1) := by decide +kernel
theorem dL_law_1101 : decode code 1101 = .ok (.aload_n 0, 1) := by decide +kernel
theorem dL_law_1102 : decode code 1102 = .ok (.iload_n 3, 1) := by decide +kernel
theorem dL_law_1103 : decode code 1103 = .ok (.iconst 1, 1) := by decide +kernel
theorem dL_law_1104 : decode code 1104 = .ok (.iadd, 1) := by decide +kernel
theorem dL_law_1105 : decode code 1105 = .ok (.iaload, 1) := by decide +kernel
theorem dL_law_1106 : decode code 1106 = .ok (.invokevirtual 131, 3) := by decide +kernel
theorem dL_law_1109 : decode code 1109 = .ok (.aload_n 2, 1) := by decide +kernel
theorem dL_law_1110 : decode code 1110 = .ok (.aload_n 0, 1) := by decide +kernel
theorem dL_law_1111 : decode code 1111 = .ok (.iload_n 3, 1) := by decide +kernel
theorem dL_law_1112 : decode code 1112 = .ok (.iconst 1, 1) := by decide +kernel
theorem dL_law_1113 : decode code 1113 = .ok (.iadd, 1) := by decide +kernel
theorem dL_law_1114 : decode code 1114 = .ok (.iaload, 1) := by decide +kernel
theorem dL_law_1115 : decode code 1115 = .ok (.invokevirtual 134, 3) := by decide +kernel
theorem dL_law_1118 : decode code 1118 = .ok (.if_icmp .eq 307, 3) := by decide +kernel
theorem dL_law_1123 : decode code 1123 = .ok (.aload_n 1, 1) := by decide +kernel
theorem dL_law_1124 : decode code 1124 = .ok (.aload_n 0, 1) := by decide +kernel
theorem dL_law_1125 : decode code 1125 = .ok (.iload_n 3, 1) := by decide +kernel
theorem dL_law_1126 : decode code 1126 = .ok (.iconst 1, 1) := by decide +kernel
theorem dL_law_1127 : decode code 1127 = .ok (.iadd, 1) := by decide +kernel
theorem dL_law_1128 : decode code 1128 = .ok (.iaload, 1) := by decide +kernel
theorem dL_law_1129 : decode code 1129 = .ok (.invokevirtual 135, 3) := by decide +kernel
theorem dL_law_1132 : decode code 1132 = .ok (.aload_n 2, 1) := by decide +kernel
theorem dL_law_1133 : decode code 1133 = .ok (.aload_n 0, 1) := by decide +kernel
theorem dL_law_1134 : decode code 1134 = .ok (.iload_n 3, 1) := by decide +kernel
theorem dL_law_1135 : decode code 1135 = .ok (.iconst 1, 1) := by decide +kernel
theorem dL_law_1136 : decode code 1136 = .ok (.iadd, 1) := by decide +kernel
theorem dL_law_1137 : decode code 1137 = .ok (.iaload, 1) := by decide +kernel
theorem dL_law_1138 : decode code 1138 = .ok (.invokevirtual 138, 3) := by decide +kernel
theorem dL_law_1141 : decode code 1141 = .ok (.if_icmp .eq 284, 3) := by decide +kernel
theorem dL_law_1146 : decode code 1146 = .ok (.aload_n 1, 1) := by decide +kernel
theorem dL_law_1147 : decode code 1147 = .ok (.aload_n 0, 1) := by decide +kernel
theorem dL_law_1148 : decode code 1148 = .ok (.iload_n 3, 1) := by decide +kernel
theorem dL_law_1149 : decode code 1149 = .ok (.iconst 1, 1) := by decide +kernel
theorem dL_law_1150 : decode code 1150 = .ok (.iadd, 1) := by decide +kernel
theorem dL_law_1151 : decode code 1151 = .ok (.iaload, 1) := by decide +kernel
theorem dL_law_1152 : decode code 1152 = .ok (.aload_n 0, 1) := by decide +kernel
theorem dL_law_1153 : decode code 1153 = .ok (.iload_n 3, 1) := by decide +kernel
theorem dL_law_1154 : decode code 1154 = .ok (.iconst 2, 1) := by decide +kernel
theorem dL_law_1155 : decode code 1155 = .ok (.iadd, 1) := by decide +kernel
theorem dL_law_1156 : decode code 1156 = .ok (.iaload, 1) := by decide +kernel
theorem dL_law_1157 : decode code 1157 = .ok (.aload_n 0, 1) := by decide +kernel
theorem dL_law_1158 : decode code 1158 = .ok (.iload_n 3, 1) := by decide +kernel
theorem dL_law_1159 : decode code 1159 = .ok (.iconst 3, 1) := by decide +kernel
theorem dL_law_1160 : decode code 1160 = .ok (.iadd, 1) := by decide +kernel
theorem dL_law_1161 : decode code 1161 = .ok (.iaload, 1) := by decide +kernel
theorem dL_law_1162 : decode code 1162 = .ok (.invokevirtual 139, 3) := by decide +kernel
theorem dL_law_1165 : decode code 1165 = .ok (.aload_n 2, 1) := by decide +kernel
theorem dL_law_1166 : decode code 1166 = .ok (.aload_n 0, 1) := by decide +kernel
theorem dL_law_1167 : decode code 1167 = .ok (.iload_n 3, 1) := by decide +kernel
theorem dL_law_1168 : decode code 1168 = .ok (.iconst 1, 1) := by decide +kernel
theorem dL_law_1169 : decode code 1169 = .ok (.iadd, 1) := by decide +kernel
theorem dL_law_1170 : decode code 1170 = .ok (.iaload, 1) := by decide +kernel
theorem dL_law_1171 : decode code 1171 = .ok (.aload_n 0, 1) := by decide +kernel
theorem dL_law_1172 : decode code 1172 = .ok (.iload_n 3, 1) := by decide +kernel
theorem dL_law_1173 : decode code 1173 = .ok (.iconst 2, 1) := by decide +kernel
theorem dL_law_1174 : decode code 1174 = .ok (.iadd, 1) := by decide +kernel
theorem dL_law_1175 : decode code 1175 = .ok (.iaload, 1) := by decide +kernel
theorem dL_law_1176 : decode code 1176 = .ok (.aload_n 0, 1) := by decide +kernel
theorem dL_law_1177 : decode code 1177 = .ok (.iload_n 3, 1) := by decide +kernel
theorem dL_law_1178 : decode code 1178 = .ok (.iconst 3, 1) := by decide +kernel
theorem dL_law_1179 : decode code 1179 = .ok (.iadd, 1) := by decide +kernel
theorem dL_law_1180 : decode code 1180 = .ok (.iaload, 1) := by decide +kernel
theorem dL_law_1181 : decode code 1181 = .ok (.invokevirtual 142, 3) := by decide +kernel
theorem dL_law_1184 : decode code 1184 = .ok (.if_icmp .eq 241, 3) := by decide +kernel
theorem dL_law_1189 : decode code 1189 = .ok (.aload_n 1, 1) := by decide +kernel
theorem dL_law_1190 : decode code 1190 = .ok (.aload_n 0, 1) := by decide +kernel
theorem dL_law_1191 : decode code 1191 = .ok (.iload_n 3, 1) := by decide +kernel
theorem dL_law_1192 : decode code 1192 = .ok (.iconst 1, 1) := by decide +kernel
theorem dL_law_1193 : decode code 1193 = .ok (.iadd, 1) := by decide +kernel
theorem dL_law_1194 : decode code 1194 = .ok (.iaload, 1) := by decide +kernel
theorem dL_law_1195 : decode code 1195 = .ok (.aload_n 0, 1) := by decide +kernel
theorem dL_law_1196 : decode code 1196 = .ok (.iload_n 3, 1) := by decide +kernel
theorem dL_law_1197 : decode code 1197 = .ok (.iconst 2, 1) := by decide +kernel
theorem dL_law_1198 : decode code 1198 = .ok (.iadd, 1) := by decide +kernel
theorem dL_law_1199 : decode code 1199 = .ok (.iaload, 1) := by decide +kernel
theorem dL_law_1200 : decode code 1200 = .ok (.invokevirtual 143, 3) := by decide +kernel
theorem dL_law_1203 : decode code 1203 = .ok (.aload_n 2, 1) := by decide +kernel
theorem dL_law_1204 : decode code 1204 = .ok (.aload_n 0, 1) := by decide +kernel
theorem dL_law_1205 : decode code 1205 = .ok (.iload_n 3, 1) := by decide +kernel
theorem dL_law_1206 : decode code 1206 = .ok (.iconst 1, 1) := by decide +kernel
theorem dL_law_1207 : decode code 1207 = .ok (.iadd, 1) := by decide +kernel
theorem dL_law_1208 : decode code 1208 = .ok (.iaload, 1) := by decide +kernel
theorem dL_law_1209 : decode code 1209 = .ok (.aload_n 0, 1) := by decide +kernel
theorem dL_law_1210 : decode code 1210 = .ok (.iload_n 3, 1) := by decide +kernel
theorem dL_law_1211 : decode code 1211 = .ok (.iconst 2, 1) := by decide +kernel
theorem dL_law_1212 : decode code 1212 = .ok (.iadd, 1) := by decide +kernel
theorem dL_law_1213 : decode code 1213 = .ok (.iaload, 1) := by decide +kernel
theorem dL_law_1214 : decode code 1214 = .ok (.invokevirtual 146, 3) := by decide +kernel
theorem dL_law_1217 : decode code 1217 = .ok (.if_icmp .eq 208, 3) := by decide +kernel
theorem dL_law_1222 : decode code 1222 = .ok (.aload_n 1, 1) := by decide +kernel
theorem dL_law_1223 : decode code 1223 = .ok (.aload_n 0, 1) := by decide +kernel
theorem dL_law_1224 : decode code 1224 = .ok (.iload_n 3, 1) := by decide +kernel
theorem dL_law_1225 : decode code 1225 = .ok (.iconst 1, 1) := by decide +kernel
theorem dL_law_1226 : decode code 1226 = .ok (.iadd, 1) := by decide +kernel
theorem dL_law_1227 : decode code 1227 = .ok (.iaload, 1) := by decide +kernel
theorem dL_law_1228 : decode code 1228 = .ok (.aload_n 0, 1) := by decide +kernel
theorem dL_law_1229 : decode code 1229 = .ok (.iload_n 3, 1) := by decide +kernel
theorem dL_law_1230 : decode code 1230 = .ok (.iconst 2, 1) := by decide +kernel
theorem dL_law_1231 : decode code 1231 = .ok (.iadd, 1) := by decide +kernel
theorem dL_law_1232 : decode code 1232 = .ok (.iaload, 1) := by decide +kernel
theorem dL_law_1233 : decode code 1233 = .ok (.invokevirtual 147, 3) := by decide +kernel
theorem dL_law_1236 : decode code 1236 = .ok (.aload_n 2, 1) := by decide +kernel
theorem dL_law_1237 : decode code 1237 = .ok (.aload_n 0, 1) := by decide +kernel
theorem dL_law_1238 : decode code 1238 = .ok (.iload_n 3, 1) := by decide +kernel
theorem dL_law_1239 : decode code 1239 = .ok (.iconst 1, 1) := by decide +kernel
theorem dL_law_1240 : decode code 1240 = .ok (.iadd, 1) := by decide +kernel
theorem dL_law_1241 : decode code 1241 = .ok (.iaload, 1) := by decide +kernel
theorem dL_law_1242 : decode code 1242 = .ok (.aload_n 0, 1) := by decide +kernel
theorem dL_law_1243 : decode code 1243 = .ok (.iload_n 3, 1) := by decide +kernel
theorem dL_law_1244 : decode code 1244 = .ok (.iconst 2, 1) := by decide +kernel
theorem dL_law_1245 : decode code 1245 = .ok (.iadd, 1) := by decide +kernel
theorem dL_law_1246 : decode code 1246 = .ok (.iaload, 1) := by decide +kernel
theorem dL_law_1247 : decode code 1247 = .ok (.invokevirtual 150, 3) := by decide +kernel
theorem dL_law_1250 : decode code 1250 = .ok (.if_icmp .eq 175, 3) := by decide +kernel
theorem dL_law_1255 : decode code 1255 = .ok (.aload_n 1, 1) := by decide +kernel
theorem dL_law_1256 : decode code 1256 = .ok (.aload_n 0, 1) := by decide +kernel
theorem dL_law_1257 : decode code 1257 = .ok (.iload_n 3, 1) := by decide +kernel
theorem dL_law_1258 : decode code 1258 = .ok (.iconst 1, 1) := by decide +kernel
theorem dL_law_1259 : decode code 1259 = .ok (.iadd, 1) := by decide +kernel
theorem dL_law_1260 : decode code 1260 = .ok (.iaload, 1) := by decide +kernel
theorem dL_law_1261 : decode code 1261 = .ok (.invokevirtual 151, 3) := by decide +kernel
theorem dL_law_1264 : decode code 1264 = .ok (.aload_n 2, 1) := by decide +kernel
theorem dL_law_1265 : decode code 1265 = .ok (.aload_n 0, 1) := by decide +kernel
theorem dL_law_1266 : decode code 1266 = .ok (.iload_n 3, 1) := by decide +kernel
theorem dL_law_1267 : decode code 1267 = .ok (.iconst 1, 1) := by decide +kernel
theorem dL_law_1268 : decode code 1268 = .ok (.iadd, 1) := by decide +kernel
theorem dL_law_1269 : decode code 1269 = .ok (.iaload, 1) := by decide +kernel
theorem dL_law_1270 : decode code 1270 = .ok (.invokevirtual 154, 3) := by decide +kernel
theorem dL_law_1273 : decode code 1273 = .ok (.if_icmp .eq 152, 3) := by decide +kernel
theorem dL_law_1278 : decode code 1278 = .ok (.aload_n 1, 1) := by decide +kernel
theorem dL_law_1279 : decode code 1279 = .ok (.aload_n 0, 1) := by decide +kernel
theorem dL_law_1280 : decode code 1280 = .ok (.iload_n 3, 1) := by decide +kernel
theorem dL_law_1281 : decode code 1281 = .ok (.iconst 1, 1) := by decide +kernel
theorem dL_law_1282 : decode code 1282 = .ok (.iadd, 1) := by decide +kernel
theorem dL_law_1283 : decode code 1283 = .ok (.iaload, 1) := by decide +kernel
theorem dL_law_1284 : decode code 1284 = .ok (.aload_n 0, 1) := by decide +kernel
theorem dL_law_1285 : decode code 1285 = .ok (.iload_n 3, 1) := by decide +kernel
theorem dL_law_1286 : decode code 1286 = .ok (.iconst 2, 1) := by decide +kernel
theorem dL_law_1287 : decode code 1287 = .ok (.iadd, 1) := by decide +kernel
theorem dL_law_1288 : decode code 1288 = .ok (.iaload, 1) := by decide +kernel
theorem dL_law_1289 : decode code 1289 = .ok (.invokevirtual 155, 3) := by decide +kernel
theorem dL_law_1292 : decode code 1292 = .ok (.aload_n 2, 1) := by decide +kernel
theorem dL_law_1293 : decode code 1293 = .ok (.aload_n 0, 1) := by decide +kernel
theorem dL_law_1294 : decode code 1294 = .ok (.iload_n 3, 1) := by decide +kernel
theorem dL_law_1295 : decode code 1295 = .ok (.iconst 1, 1) := by decide +kernel
theorem dL_law_1296 : decode code 1296 = .ok (.iadd, 1) := by decide +kernel
theorem dL_law_1297 : decode code 1297 = .ok (.iaload, 1) := by decide +kernel
theorem dL_law_1298 : decode code 1298 = .ok (.aload_n 0, 1) := by decide +kernel
theorem dL_law_1299 : decode code 1299 = .ok (.iload_n 3, 1) := by decide +kernel
theorem dL_law_1300 : decode code 1300 = .ok (.iconst 2, 1) := by decide +kernel
theorem dL_law_1301 : decode code 1301 = .ok (.iadd, 1) := by decide +kernel
theorem dL_law_1302 : decode code 1302 = .ok (.iaload, 1) := by decide +kernel
theorem dL_law_1303 : decode code 1303 = .ok (.invokevirtual 158, 3) := by decide +kernel
theorem dL_law_1306 : decode code 1306 = .ok (.if_icmp .eq 119, 3) := by decide +kernel
theorem dL_law_1311 : decode code 1311 = .ok (.aload_n 1, 1) := by decide +kernel
theorem dL_law_1312 : decode code 1312 = .ok (.invokevirtual 159, 3) := by decide +kernel
theorem dL_law_1315 : decode code 1315 = .ok (.aload_n 2, 1) := by decide +kernel
theorem dL_law_1316 : decode code 1316 = .ok (.invokevirtual 162, 3) := by decide +kernel
theorem dL_law_1319 : decode code 1319 = .ok (.if_icmp .eq 106, 3) := by decide +kernel
theorem dL_law_1324 : decode code 1324 = .ok (.aload_n 1, 1) := by decide +kernel
theorem dL_law_1325 : decode code 1325 = .ok (.invokevirtual 163, 3) := by decide +kernel
theorem dL_law_1328 : decode code 1328 = .ok (.aload_n 2, 1) := by decide +kernel
theorem dL_law_1329 : decode code 1329 = .ok (.invokevirtual 167, 3) := by decide +kernel
theorem dL_law_1332 : decode code 1332 = .ok (.lcmp, 1) := by decide +kernel
theorem dL_law_1333 : decode code 1333 = .ok (.ifCond .eq 92, 3) := by decide +kernel
theorem dL_law_1338 : decode code 1338 = .ok (.aload_n 1, 1) := by decide +kernel
theorem dL_law_1339 : decode code 1339 = .ok (.invokevirtual 168, 3) := by decide +kernel
theorem dL_law_1342 : decode code 1342 = .ok (.aload_n 2, 1) := by decide +kernel
theorem dL_law_1343 : decode code 1343 = .ok (.invokevirtual 171, 3) := by decide +kernel
theorem dL_law_1346 : decode code 1346 = .ok (.lcmp, 1) := by decide +kernel
theorem dL_law_1347 : decode code 1347 = .ok (.ifCond .eq 78, 3) := by decide +kernel
theorem dL_law_1352 : decode code 1352 = .ok (.aload_n 1, 1) := by decide +kernel
theorem dL_law_1353 : decode code 1353 = .ok (.aload_n 0, 1) := by decide +kernel
theorem dL_law_1354 : decode code 1354 = .ok (.iload_n 3, 1) := by decide +kernel
theorem dL_law_1355 : decode code 1355 = .ok (.iconst 1, 1) := by decide +kernel
theorem dL_law_1356 : decode code 1356 = .ok (.iadd, 1) := by decide +kernel
theorem dL_law_1357 : decode code 1357 = .ok (.iaload, 1) := by decide +kernel
theorem dL_law_1358 : decode code 1358 = .ok (.invokevirtual 172, 3) := by decide +kernel
theorem dL_law_1361 : decode code 1361 = .ok (.aload_n 2, 1) := by decide +kernel
theorem dL_law_1362 : decode code 1362 = .ok (.aload_n 0, 1) := by decide +kernel
theorem dL_law_1363 : decode code 1363 = .ok (.iload_n 3, 1) := by decide +kernel
theorem dL_law_1364 : decode code 1364 = .ok (.iconst 1, 1) := by decide +kernel
theorem dL_law_1365 : decode code 1365 = .ok (.iadd, 1) := by decide +kernel
theorem dL_law_1366 : decode code 1366 = .ok (.iaload, 1) := by decide +kernel
theorem dL_law_1367 : decode code 1367 = .ok (.invokevirtual 175, 3) := by decide +kernel
theorem dL_law_1370 : decode code 1370 = .ok (.if_icmp .eq 55, 3) := by decide +kernel
theorem dL_law_1375 : decode code 1375 = .ok (.aload_n 1, 1) := by decide +kernel
theorem dL_law_1376 : decode code 1376 = .ok (.invokevirtual 176, 3) := by decide +kernel
theorem dL_law_1379 : decode code 1379 = .ok (.aload_n 2, 1) := by decide +kernel
theorem dL_law_1380 : decode code 1380 = .ok (.invokevirtual 179, 3) := by decide +kernel
theorem dL_law_1383 : decode code 1383 = .ok (.if_icmp .eq 42, 3) := by decide +kernel
theorem dL_law_1388 : decode code 1388 = .ok (.aload_n 1, 1) := by decide +kernel
theorem dL_law_1389 : decode code 1389 = .ok (.aload_n 0, 1) := by decide +kernel
theorem dL_law_1390 : decode code 1390 = .ok (.iload_n 3, 1) := by decide +kernel
theorem dL_law_1391 : decode code 1391 = .ok (.iconst 1, 1) := by decide +kernel
theorem dL_law_1392 : decode code 1392 = .ok (.iadd, 1) := by decide +kernel
theorem dL_law_1393 : decode code 1393 = .ok (.iaload, 1) := by decide +kernel
theorem dL_law_1394 : decode code 1394 = .ok (.invokevirtual 180, 3) := by decide +kernel
theorem dL_law_1397 : decode code 1397 = .ok (.aload_n 2, 1) := by decide +kernel
theorem dL_law_1398 : decode code 1398 = .ok (.aload_n 0, 1) := by decide +kernel
theorem dL_law_1399 : decode code 1399 = .ok (.iload_n 3, 1) := by decide +kernel
theorem dL_law_1400 : decode code 1400 = .ok (.iconst 1, 1) := by decide +kernel
theorem dL_law_1401 : decode code 1401 = .ok (.iadd, 1) := by decide +kernel
theorem dL_law_1402 : decode code 1402 = .ok (.iaload, 1) := by decide +kernel
theorem dL_law_1403 : decode code 1403 = .ok (.invokevirtual 183, 3) := by decide +kernel
theorem dL_law_1406 : decode code 1406 = .ok (.if_icmp .eq 19, 3) := by decide +kernel
theorem dL_law_1411 : decode code 1411 = .ok (.aload_n 1, 1) := by decide +kernel
theorem dL_law_1412 : decode code 1412 = .ok (.invokevirtual 184, 3) := by decide +kernel
theorem dL_law_1415 : decode code 1415 = .ok (.aload_n 2, 1) := by decide +kernel
theorem dL_law_1416 : decode code 1416 = .ok (.invokevirtual 187, 3) := by decide +kernel
theorem dL_law_1419 : decode code 1419 = .ok (.lcmp, 1) := by decide +kernel
theorem dL_law_1420 : decode code 1420 = .ok (.ifCond .eq 5, 3) := by decide +kernel
theorem dL_law_1425 : decode code 1425 = .ok (.iinc 3 6, 3) := by decide +kernel
theorem dL_law_1428 : decode code 1428 = .ok (.goto (-1410), 3) := by decide +kernel
theorem dL_law_1431 : decode code 1431 = .ok (.iconst 1, 1) := by decide +kernel
theorem dL_law_1432 : decode code 1432 = .ok (.ireturn, 1) := by decide +kernel
theorem l_L_13 : mlV RL 13 yX1_row cX1_row 3 (some .int) := ⟨in_gd (i := 200) (by decide +kernel) rfl, ⟨in_gd (i := 201) (by decide +kernel) rfl, in_gd (i := 202) (by decide +kernel) rfl⟩, in_gd (i := 84) (by decide +kernel) rfl, in_gd (i := 203) (by decide +kernel) rfl⟩
theorem yoL_13 : yOk yX1_row 2 := ⟨by decide, by decide, by decide +kernel⟩
theorem l_L_17 : mlV RL 17 yX2_row cX2_row 3 (some .int) := ⟨in_gd (i := 683) (by decide +kernel) rfl, ⟨in_gd (i := 684) (by decide +kernel) rfl, in_gd (i := 685) (by decide +kernel) rfl⟩, in_gd (i := 87) (by decide +kernel) rfl, in_gd (i := 686) (by decide +kernel) rfl⟩
theorem yoL_17 : yOk yX2_row 2 := ⟨by decide, by decide, by decide +kernel⟩
theorem l_L_18 : mlV RL 18 yX1_lay cX1_lay 6 (some .int) := ⟨in_gd (i := 218) (by decide +kernel) rfl, ⟨in_gd (i := 219) (by decide +kernel) rfl, in_gd (i := 220) (by decide +kernel) rfl⟩, in_gd (i := 84) (by decide +kernel) rfl, in_gd (i := 221) (by decide +kernel) rfl⟩
theorem yoL_18 : yOk yX1_lay 3 := ⟨by decide, by decide, by decide +kernel⟩
theorem l_L_22 : mlV RL 22 yX2_lay cX2_lay 6 (some .int) := ⟨in_gd (i := 702) (by decide +kernel) rfl, ⟨in_gd (i := 703) (by decide +kernel) rfl, in_gd (i := 704) (by decide +kernel) rfl⟩, in_gd (i := 87) (by decide +kernel) rfl, in_gd (i := 705) (by decide +kernel) rfl⟩
theorem yoL_22 : yOk yX2_lay 3 := ⟨by decide, by decide, by decide +kernel⟩
theorem l_L_23 : mlV RL 23 yX1_at cX1_at 4 (some .int) := ⟨in_gd (i := 230) (by decide +kernel) rfl, ⟨in_gd (i := 231) (by decide +kernel) rfl, in_gd (i := 232) (by decide +kernel) rfl⟩, in_gd (i := 84) (by decide +kernel) rfl, in_gd (i := 233) (by decide +kernel) rfl⟩
theorem yoL_23 : yOk yX1_at 2 := ⟨by decide, by decide, by decide +kernel⟩
theorem l_L_26 : mlV RL 26 yX2_at cX2_at 4 (some .int) := ⟨in_gd (i := 714) (by decide +kernel) rfl, ⟨in_gd (i := 715) (by decide +kernel) rfl, in_gd (i := 716) (by decide +kernel) rfl⟩, in_gd (i := 87) (by decide +kernel) rfl, in_gd (i := 717) (by decide +kernel) rfl⟩
theorem yoL_26 : yOk yX2_at 2 := ⟨by decide, by decide, by decide +kernel⟩
theorem l_L_27 : mlV RL 27 yX1_tear cX1_tear 2 (some .int) := ⟨in_gd (i := 234) (by decide +kernel) rfl, ⟨in_gd (i := 235) (by decide +kernel) rfl, in_gd (i := 236) (by decide +kernel) rfl⟩, in_gd (i := 84) (by decide +kernel) rfl, in_gd (i := 237) (by decide +kernel) rfl⟩
theorem yoL_27 : yOk yX1_tear 1 := ⟨by decide, by decide, by decide +kernel⟩
theorem l_L_31 : mlV RL 31 yX2_tear cX2_tear 2 (some .int) := ⟨in_gd (i := 718) (by decide +kernel) rfl, ⟨in_gd (i := 719) (by decide +kernel) rfl, in_gd (i := 720) (by decide +kernel) rfl⟩, in_gd (i := 87) (by decide +kernel) rfl, in_gd (i := 721) (by decide +kernel) rfl⟩
theorem yoL_31 : yOk yX2_tear 1 := ⟨by decide, by decide, by decide +kernel⟩
theorem l_L_32 : mlV RL 32 yX1_copy cX1_copy 6 (some .int) := ⟨in_gd (i := 238) (by decide +kernel) rfl, ⟨in_gd (i := 239) (by decide +kernel) rfl, in_gd (i := 240) (by decide +kernel) rfl⟩, in_gd (i := 84) (by decide +kernel) rfl, in_gd (i := 241) (by decide +kernel) rfl⟩
theorem yoL_32 : yOk yX1_copy 5 := ⟨by decide, by decide, by decide +kernel⟩
theorem l_L_36 : mlV RL 36 yX2_copy cX2_copy 9 (some .int) := ⟨in_gd (i := 722) (by decide +kernel) rfl, ⟨in_gd (i := 723) (by decide +kernel) rfl, in_gd (i := 724) (by decide +kernel) rfl⟩, in_gd (i := 87) (by decide +kernel) rfl, in_gd (i := 725) (by decide +kernel) rfl⟩
theorem yoL_36 : yOk yX2_copy 5 := ⟨by decide, by decide, by decide +kernel⟩
theorem l_L_37 : mlV RL 37 yX1_mean cX1_mean 6 (some .int) := ⟨in_gd (i := 245) (by decide +kernel) rfl, ⟨in_gd (i := 246) (by decide +kernel) rfl, in_gd (i := 247) (by decide +kernel) rfl⟩, in_gd (i := 84) (by decide +kernel) rfl, in_gd (i := 248) (by decide +kernel) rfl⟩
theorem yoL_37 : yOk yX1_mean 1 := ⟨by decide, by decide, by decide +kernel⟩
theorem l_L_40 : mlV RL 40 yX2_mean cX2_mean 5 (some .int) := ⟨in_gd (i := 730) (by decide +kernel) rfl, ⟨in_gd (i := 731) (by decide +kernel) rfl, in_gd (i := 732) (by decide +kernel) rfl⟩, in_gd (i := 87) (by decide +kernel) rfl, in_gd (i := 733) (by decide +kernel) rfl⟩
theorem yoL_40 : yOk yX2_mean 1 := ⟨by decide, by decide, by decide +kernel⟩
theorem l_L_41 : mlV RL 41 yX1_text cX1_text 3 (some .int) := ⟨in_gd (i := 249) (by decide +kernel) rfl, ⟨in_gd (i := 250) (by decide +kernel) rfl, in_gd (i := 251) (by decide +kernel) rfl⟩, in_gd (i := 84) (by decide +kernel) rfl, in_gd (i := 252) (by decide +kernel) rfl⟩
theorem yoL_41 : yOk yX1_text 2 := ⟨by decide, by decide, by decide +kernel⟩
theorem l_L_44 : mlV RL 44 yX2_text cX2_text 4 (some .int) := ⟨in_gd (i := 734) (by decide +kernel) rfl, ⟨in_gd (i := 735) (by decide +kernel) rfl, in_gd (i := 736) (by decide +kernel) rfl⟩, in_gd (i := 87) (by decide +kernel) rfl, in_gd (i := 737) (by decide +kernel) rfl⟩
theorem yoL_44 : yOk yX2_text 2 := ⟨by decide, by decide, by decide +kernel⟩
theorem l_L_45 : mlV RL 45 yX1_put cX1_put 5 (some .int) := ⟨in_gd (i := 259) (by decide +kernel) rfl, ⟨in_gd (i := 260) (by decide +kernel) rfl, in_gd (i := 261) (by decide +kernel) rfl⟩, in_gd (i := 84) (by decide +kernel) rfl, in_gd (i := 262) (by decide +kernel) rfl⟩
theorem yoL_45 : yOk yX1_put 3 := ⟨by decide, by decide, by decide +kernel⟩
theorem l_L_48 : mlV RL 48 yX2_put cX2_put 5 (some .int) := ⟨in_gd (i := 742) (by decide +kernel) rfl, ⟨in_gd (i := 743) (by decide +kernel) rfl, in_gd (i := 744) (by decide +kernel) rfl⟩, in_gd (i := 87) (by decide +kernel) rfl, in_gd (i := 745) (by decide +kernel) rfl⟩
theorem yoL_48 : yOk yX2_put 3 := ⟨by decide, by decide, by decide +kernel⟩
theorem l_L_49 : mlV RL 49 yX1_fault cX1_fault 2 (some .int) := ⟨in_gd (i := 263) (by decide +kernel) rfl, ⟨in_gd (i := 264) (by decide +kernel) rfl, in_gd (i := 265) (by decide +kernel) rfl⟩, in_gd (i := 84) (by decide +kernel) rfl, in_gd (i := 266) (by decide +kernel) rfl⟩
theorem yoL_49 : yOk yX1_fault 1 := ⟨by decide, by decide, by decide +kernel⟩
theorem l_L_52 : mlV RL 52 yX2_fault cX2_fault 2 (some .int) := ⟨in_gd (i := 746) (by decide +kernel) rfl, ⟨in_gd (i := 747) (by decide +kernel) rfl, in_gd (i := 748) (by decide +kernel) rfl⟩, in_gd (i := 87) (by decide +kernel) rfl, in_gd (i := 749) (by decide +kernel) rfl⟩
theorem yoL_52 : yOk yX2_fault 1 := ⟨by decide, by decide, by decide +kernel⟩
theorem l_L_53 : mlV RL 53 yX1_river cX1_river 2 (some .int) := ⟨in_gd (i := 292) (by decide +kernel) rfl, ⟨in_gd (i := 293) (by decide +kernel) rfl, in_gd (i := 294) (by decide +kernel) rfl⟩, in_gd (i := 84) (by decide +kernel) rfl, in_gd (i := 295) (by decide +kernel) rfl⟩
theorem yoL_53 : yOk yX1_river 1 := ⟨by decide, by decide, by decide +kernel⟩
theorem l_L_56 : mlV RL 56 yX2_river cX2_river 3 (some .int) := ⟨in_gd (i := 783) (by decide +kernel) rfl, ⟨in_gd (i := 784) (by decide +kernel) rfl, in_gd (i := 785) (by decide +kernel) rfl⟩, in_gd (i := 87) (by decide +kernel) rfl, in_gd (i := 786) (by decide +kernel) rfl⟩
theorem yoL_56 : yOk yX2_river 1 := ⟨by decide, by decide, by decide +kernel⟩
theorem l_L_57 : mlV RL 57 yX1_one cX1_one 3 (some .int) := ⟨in_gd (i := 301) (by decide +kernel) rfl, ⟨in_gd (i := 302) (by decide +kernel) rfl, in_gd (i := 303) (by decide +kernel) rfl⟩, in_gd (i := 84) (by decide +kernel) rfl, in_gd (i := 304) (by decide +kernel) rfl⟩
theorem yoL_57 : yOk yX1_one 2 := ⟨by decide, by decide, by decide +kernel⟩
theorem l_L_60 : mlV RL 60 yX2_one cX2_one 3 (some .int) := ⟨in_gd (i := 787) (by decide +kernel) rfl, ⟨in_gd (i := 788) (by decide +kernel) rfl, in_gd (i := 789) (by decide +kernel) rfl⟩, in_gd (i := 87) (by decide +kernel) rfl, in_gd (i := 790) (by decide +kernel) rfl⟩
theorem yoL_60 : yOk yX2_one 2 := ⟨by decide, by decide, by decide +kernel⟩
theorem l_L_61 : mlV RL 61 yX1_mark cX1_mark 3 (some .int) := ⟨in_gd (i := 336) (by decide +kernel) rfl, ⟨in_gd (i := 337) (by decide +kernel) rfl, in_gd (i := 338) (by decide +kernel) rfl⟩, in_gd (i := 84) (by decide +kernel) rfl, in_gd (i := 339) (by decide +kernel) rfl⟩
theorem yoL_61 : yOk yX1_mark 2 := ⟨by decide, by decide, by decide +kernel⟩
theorem l_L_64 : mlV RL 64 yX2_mark cX2_mark 4 (some .int) := ⟨in_gd (i := 813) (by decide +kernel) rfl, ⟨in_gd (i := 814) (by decide +kernel) rfl, in_gd (i := 815) (by decide +kernel) rfl⟩, in_gd (i := 87) (by decide +kernel) rfl, in_gd (i := 816) (by decide +kernel) rfl⟩
theorem yoL_64 : yOk yX2_mark 2 := ⟨by decide, by decide, by decide +kernel⟩
theorem l_L_65 : mlV RL 65 yX1_night cX1_night 2 (some .int) := ⟨in_gd (i := 354) (by decide +kernel) rfl, ⟨in_gd (i := 355) (by decide +kernel) rfl, in_gd (i := 356) (by decide +kernel) rfl⟩, in_gd (i := 84) (by decide +kernel) rfl, in_gd (i := 357) (by decide +kernel) rfl⟩
theorem yoL_65 : yOk yX1_night 0 := ⟨by decide, by decide, by decide +kernel⟩
theorem l_L_69 : mlV RL 69 yX2_night cX2_night 1 (some .int) := ⟨in_gd (i := 825) (by decide +kernel) rfl, ⟨in_gd (i := 826) (by decide +kernel) rfl, in_gd (i := 827) (by decide +kernel) rfl⟩, in_gd (i := 87) (by decide +kernel) rfl, in_gd (i := 828) (by decide +kernel) rfl⟩
theorem yoL_69 : yOk yX2_night 0 := ⟨by decide, by decide, by decide +kernel⟩
theorem l_L_70 : mlV RL 70 yX1_raise cX1_raise 3 (some .int) := ⟨in_gd (i := 389) (by decide +kernel) rfl, ⟨in_gd (i := 390) (by decide +kernel) rfl, in_gd (i := 391) (by decide +kernel) rfl⟩, in_gd (i := 84) (by decide +kernel) rfl, in_gd (i := 392) (by decide +kernel) rfl⟩
theorem yoL_70 : yOk yX1_raise 2 := ⟨by decide, by decide, by decide +kernel⟩
theorem l_L_73 : mlV RL 73 yX2_raise cX2_raise 3 (some .int) := ⟨in_gd (i := 848) (by decide +kernel) rfl, ⟨in_gd (i := 849) (by decide +kernel) rfl, in_gd (i := 850) (by decide +kernel) rfl⟩, in_gd (i := 87) (by decide +kernel) rfl, in_gd (i := 851) (by decide +kernel) rfl⟩
theorem yoL_73 : yOk yX2_raise 2 := ⟨by decide, by decide, by decide +kernel⟩
theorem l_L_74 : mlV RL 74 yX1_shame cX1_shame 3 (some .int) := ⟨in_gd (i := 393) (by decide +kernel) rfl, ⟨in_gd (i := 394) (by decide +kernel) rfl, in_gd (i := 395) (by decide +kernel) rfl⟩, in_gd (i := 84) (by decide +kernel) rfl, in_gd (i := 396) (by decide +kernel) rfl⟩
theorem yoL_74 : yOk yX1_shame 2 := ⟨by decide, by decide, by decide +kernel⟩
theorem l_L_77 : mlV RL 77 yX2_shame cX2_shame 3 (some .int) := ⟨in_gd (i := 858) (by decide +kernel) rfl, ⟨in_gd (i := 859) (by decide +kernel) rfl, in_gd (i := 860) (by decide +kernel) rfl⟩, in_gd (i := 87) (by decide +kernel) rfl, in_gd (i := 861) (by decide +kernel) rfl⟩
theorem yoL_77 : yOk yX2_shame 2 := ⟨by decide, by decide, by decide +kernel⟩
theorem l_L_78 : mlV RL 78 yX1_door cX1_door 4 (some .int) := ⟨in_gd (i := 397) (by decide +kernel) rfl, ⟨in_gd (i := 398) (by decide +kernel) rfl, in_gd (i := 399) (by decide +kernel) rfl⟩, in_gd (i := 84) (by decide +kernel) rfl, in_gd (i := 400) (by decide +kernel) rfl⟩
theorem yoL_78 : yOk yX1_door 2 := ⟨by decide, by decide, by decide +kernel⟩
theorem l_L_81 : mlV RL 81 yX2_door cX2_door 4 (some .int) := ⟨in_gd (i := 862) (by decide +kernel) rfl, ⟨in_gd (i := 863) (by decide +kernel) rfl, in_gd (i := 864) (by decide +kernel) rfl⟩, in_gd (i := 87) (by decide +kernel) rfl, in_gd (i := 865) (by decide +kernel) rfl⟩
theorem yoL_81 : yOk yX2_door 2 := ⟨by decide, by decide, by decide +kernel⟩
theorem l_L_82 : mlV RL 82 yX1_undo cX1_undo 3 (some .int) := ⟨in_gd (i := 404) (by decide +kernel) rfl, ⟨in_gd (i := 405) (by decide +kernel) rfl, in_gd (i := 406) (by decide +kernel) rfl⟩, in_gd (i := 84) (by decide +kernel) rfl, in_gd (i := 407) (by decide +kernel) rfl⟩
theorem yoL_82 : yOk yX1_undo 1 := ⟨by decide, by decide, by decide +kernel⟩
theorem l_L_85 : mlV RL 85 yX2_undo cX2_undo 4 (some .int) := ⟨in_gd (i := 866) (by decide +kernel) rfl, ⟨in_gd (i := 867) (by decide +kernel) rfl, in_gd (i := 868) (by decide +kernel) rfl⟩, in_gd (i := 87) (by decide +kernel) rfl, in_gd (i := 869) (by decide +kernel) rfl⟩
theorem yoL_85 : yOk yX2_undo 1 := ⟨by decide, by decide, by decide +kernel⟩
theorem l_L_86 : mlV RL 86 yX1_keep cX1_keep 2 (some .int) := ⟨in_gd (i := 412) (by decide +kernel) rfl, ⟨in_gd (i := 413) (by decide +kernel) rfl, in_gd (i := 414) (by decide +kernel) rfl⟩, in_gd (i := 84) (by decide +kernel) rfl, in_gd (i := 415) (by decide +kernel) rfl⟩
theorem yoL_86 : yOk yX1_keep 1 := ⟨by decide, by decide, by decide +kernel⟩
theorem l_L_89 : mlV RL 89 yX2_keep cX2_keep 2 (some .int) := ⟨in_gd (i := 870) (by decide +kernel) rfl, ⟨in_gd (i := 871) (by decide +kernel) rfl, in_gd (i := 872) (by decide +kernel) rfl⟩, in_gd (i := 87) (by decide +kernel) rfl, in_gd (i := 873) (by decide +kernel) rfl⟩
theorem yoL_89 : yOk yX2_keep 1 := ⟨by decide, by decide, by decide +kernel⟩
theorem l_L_90 : mlV RL 90 yX1_on cX1_on 2 (some .int) := ⟨in_gd (i := 419) (by decide +kernel) rfl, ⟨in_gd (i := 420) (by decide +kernel) rfl, in_gd (i := 421) (by decide +kernel) rfl⟩, in_gd (i := 84) (by decide +kernel) rfl, in_gd (i := 422) (by decide +kernel) rfl⟩
theorem yoL_90 : yOk yX1_on 1 := ⟨by decide, by decide, by decide +kernel⟩
theorem l_L_93 : mlV RL 93 yX2_on cX2_on 2 (some .int) := ⟨in_gd (i := 879) (by decide +kernel) rfl, ⟨in_gd (i := 880) (by decide +kernel) rfl, in_gd (i := 881) (by decide +kernel) rfl⟩, in_gd (i := 87) (by decide +kernel) rfl, in_gd (i := 882) (by decide +kernel) rfl⟩
theorem yoL_93 : yOk yX2_on 1 := ⟨by decide, by decide, by decide +kernel⟩
theorem l_L_94 : mlV RL 94 yX1_dares cX1_dares 5 (some .int) := ⟨in_gd (i := 423) (by decide +kernel) rfl, ⟨in_gd (i := 424) (by decide +kernel) rfl, in_gd (i := 425) (by decide +kernel) rfl⟩, in_gd (i := 84) (by decide +kernel) rfl, in_gd (i := 426) (by decide +kernel) rfl⟩
theorem yoL_94 : yOk yX1_dares 4 := ⟨by decide, by decide, by decide +kernel⟩
theorem l_L_98 : mlV RL 98 yX2_dares cX2_dares 5 (some .int) := ⟨in_gd (i := 883) (by decide +kernel) rfl, ⟨in_gd (i := 884) (by decide +kernel) rfl, in_gd (i := 885) (by decide +kernel) rfl⟩, in_gd (i := 87) (by decide +kernel) rfl, in_gd (i := 886) (by decide +kernel) rfl⟩
theorem yoL_98 : yOk yX2_dares 4 := ⟨by decide, by decide, by decide +kernel⟩
theorem l_L_99 : mlV RL 99 yX1_where cX1_where 2 (some .int) := ⟨in_gd (i := 428) (by decide +kernel) rfl, ⟨in_gd (i := 429) (by decide +kernel) rfl, in_gd (i := 430) (by decide +kernel) rfl⟩, in_gd (i := 84) (by decide +kernel) rfl, in_gd (i := 431) (by decide +kernel) rfl⟩
theorem yoL_99 : yOk yX1_where 1 := ⟨by decide, by decide, by decide +kernel⟩
theorem l_L_102 : mlV RL 102 yX2_where cX2_where 3 (some .int) := ⟨in_gd (i := 888) (by decide +kernel) rfl, ⟨in_gd (i := 889) (by decide +kernel) rfl, in_gd (i := 890) (by decide +kernel) rfl⟩, in_gd (i := 87) (by decide +kernel) rfl, in_gd (i := 891) (by decide +kernel) rfl⟩
theorem yoL_102 : yOk yX2_where 1 := ⟨by decide, by decide, by decide +kernel⟩
theorem l_L_103 : mlV RL 103 yX1_crosses cX1_crosses 3 (some .int) := ⟨in_gd (i := 437) (by decide +kernel) rfl, ⟨in_gd (i := 438) (by decide +kernel) rfl, in_gd (i := 439) (by decide +kernel) rfl⟩, in_gd (i := 84) (by decide +kernel) rfl, in_gd (i := 440) (by decide +kernel) rfl⟩
theorem yoL_103 : yOk yX1_crosses 2 := ⟨by decide, by decide, by decide +kernel⟩
theorem l_L_106 : mlV RL 106 yX2_crosses cX2_crosses 4 (some .int) := ⟨in_gd (i := 897) (by decide +kernel) rfl, ⟨in_gd (i := 898) (by decide +kernel) rfl, in_gd (i := 899) (by decide +kernel) rfl⟩, in_gd (i := 87) (by decide +kernel) rfl, in_gd (i := 900) (by decide +kernel) rfl⟩
theorem yoL_106 : yOk yX2_crosses 2 := ⟨by decide, by decide, by decide +kernel⟩
theorem l_L_107 : mlV RL 107 yX1_first cX1_first 3 (some .int) := ⟨in_gd (i := 441) (by decide +kernel) rfl, ⟨in_gd (i := 442) (by decide +kernel) rfl, in_gd (i := 443) (by decide +kernel) rfl⟩, in_gd (i := 84) (by decide +kernel) rfl, in_gd (i := 444) (by decide +kernel) rfl⟩
theorem yoL_107 : yOk yX1_first 1 := ⟨by decide, by decide, by decide +kernel⟩
theorem l_L_110 : mlV RL 110 yX2_first cX2_first 3 (some .int) := ⟨in_gd (i := 901) (by decide +kernel) rfl, ⟨in_gd (i := 902) (by decide +kernel) rfl, in_gd (i := 903) (by decide +kernel) rfl⟩, in_gd (i := 87) (by decide +kernel) rfl, in_gd (i := 904) (by decide +kernel) rfl⟩
theorem yoL_110 : yOk yX2_first 1 := ⟨by decide, by decide, by decide +kernel⟩
theorem l_L_111 : mlV RL 111 yX1_lift cX1_lift 4 (some .int) := ⟨in_gd (i := 445) (by decide +kernel) rfl, ⟨in_gd (i := 446) (by decide +kernel) rfl, in_gd (i := 447) (by decide +kernel) rfl⟩, in_gd (i := 84) (by decide +kernel) rfl, in_gd (i := 448) (by decide +kernel) rfl⟩
theorem yoL_111 : yOk yX1_lift 2 := ⟨by decide, by decide, by decide +kernel⟩
theorem l_L_114 : mlV RL 114 yX2_lift cX2_lift 4 (some .int) := ⟨in_gd (i := 905) (by decide +kernel) rfl, ⟨in_gd (i := 906) (by decide +kernel) rfl, in_gd (i := 907) (by decide +kernel) rfl⟩, in_gd (i := 87) (by decide +kernel) rfl, in_gd (i := 908) (by decide +kernel) rfl⟩
theorem yoL_114 : yOk yX2_lift 2 := ⟨by decide, by decide, by decide +kernel⟩
theorem l_L_115 : mlV RL 115 yX1_cheap cX1_cheap 7 (some .int) := ⟨in_gd (i := 449) (by decide +kernel) rfl, ⟨in_gd (i := 450) (by decide +kernel) rfl, in_gd (i := 451) (by decide +kernel) rfl⟩, in_gd (i := 84) (by decide +kernel) rfl, in_gd (i := 452) (by decide +kernel) rfl⟩
theorem yoL_115 : yOk yX1_cheap 2 := ⟨by decide, by decide, by decide +kernel⟩
theorem l_L_118 : mlV RL 118 yX2_cheap cX2_cheap 7 (some .int) := ⟨in_gd (i := 913) (by decide +kernel) rfl, ⟨in_gd (i := 914) (by decide +kernel) rfl, in_gd (i := 915) (by decide +kernel) rfl⟩, in_gd (i := 87) (by decide +kernel) rfl, in_gd (i := 916) (by decide +kernel) rfl⟩
theorem yoL_118 : yOk yX2_cheap 2 := ⟨by decide, by decide, by decide +kernel⟩
theorem l_L_119 : mlV RL 119 yX1_darings cX1_darings 4 (some .int) := ⟨in_gd (i := 463) (by decide +kernel) rfl, ⟨in_gd (i := 464) (by decide +kernel) rfl, in_gd (i := 465) (by decide +kernel) rfl⟩, in_gd (i := 84) (by decide +kernel) rfl, in_gd (i := 466) (by decide +kernel) rfl⟩
theorem yoL_119 : yOk yX1_darings 2 := ⟨by decide, by decide, by decide +kernel⟩
theorem l_L_122 : mlV RL 122 yX2_darings cX2_darings 4 (some .int) := ⟨in_gd (i := 930) (by decide +kernel) rfl, ⟨in_gd (i := 931) (by decide +kernel) rfl, in_gd (i := 932) (by decide +kernel) rfl⟩, in_gd (i := 87) (by decide +kernel) rfl, in_gd (i := 933) (by decide +kernel) rfl⟩
theorem yoL_122 : yOk yX2_darings 2 := ⟨by decide, by decide, by decide +kernel⟩
theorem l_L_123 : mlV RL 123 yX1_kinds cX1_kinds 6 (some .int) := ⟨in_gd (i := 479) (by decide +kernel) rfl, ⟨in_gd (i := 480) (by decide +kernel) rfl, in_gd (i := 481) (by decide +kernel) rfl⟩, in_gd (i := 84) (by decide +kernel) rfl, in_gd (i := 482) (by decide +kernel) rfl⟩
theorem yoL_123 : yOk yX1_kinds 2 := ⟨by decide, by decide, by decide +kernel⟩
theorem l_L_126 : mlV RL 126 yX2_kinds cX2_kinds 7 (some .int) := ⟨in_gd (i := 947) (by decide +kernel) rfl, ⟨in_gd (i := 948) (by decide +kernel) rfl, in_gd (i := 949) (by decide +kernel) rfl⟩, in_gd (i := 87) (by decide +kernel) rfl, in_gd (i := 950) (by decide +kernel) rfl⟩
theorem yoL_126 : yOk yX2_kinds 2 := ⟨by decide, by decide, by decide +kernel⟩
theorem l_L_127 : mlV RL 127 yX1_look cX1_look 7 (some .int) := ⟨in_gd (i := 483) (by decide +kernel) rfl, ⟨in_gd (i := 484) (by decide +kernel) rfl, in_gd (i := 485) (by decide +kernel) rfl⟩, in_gd (i := 84) (by decide +kernel) rfl, in_gd (i := 486) (by decide +kernel) rfl⟩
theorem yoL_127 : yOk yX1_look 2 := ⟨by decide, by decide, by decide +kernel⟩
theorem l_L_130 : mlV RL 130 yX2_look cX2_look 9 (some .int) := ⟨in_gd (i := 951) (by decide +kernel) rfl, ⟨in_gd (i := 952) (by decide +kernel) rfl, in_gd (i := 953) (by decide +kernel) rfl⟩, in_gd (i := 87) (by decide +kernel) rfl, in_gd (i := 954) (by decide +kernel) rfl⟩
theorem yoL_130 : yOk yX2_look 2 := ⟨by decide, by decide, by decide +kernel⟩
theorem l_L_131 : mlV RL 131 yX1_sets cX1_sets 5 (some .int) := ⟨in_gd (i := 498) (by decide +kernel) rfl, ⟨in_gd (i := 499) (by decide +kernel) rfl, in_gd (i := 500) (by decide +kernel) rfl⟩, in_gd (i := 84) (by decide +kernel) rfl, in_gd (i := 501) (by decide +kernel) rfl⟩
theorem yoL_131 : yOk yX1_sets 1 := ⟨by decide, by decide, by decide +kernel⟩
theorem l_L_134 : mlV RL 134 yX2_sets cX2_sets 6 (some .int) := ⟨in_gd (i := 963) (by decide +kernel) rfl, ⟨in_gd (i := 964) (by decide +kernel) rfl, in_gd (i := 965) (by decide +kernel) rfl⟩, in_gd (i := 87) (by decide +kernel) rfl, in_gd (i := 966) (by decide +kernel) rfl⟩
theorem yoL_134 : yOk yX2_sets 1 := ⟨by decide, by decide, by decide +kernel⟩
theorem l_L_135 : mlV RL 135 yX1_sure cX1_sure 7 (some .int) := ⟨in_gd (i := 513) (by decide +kernel) rfl, ⟨in_gd (i := 514) (by decide +kernel) rfl, in_gd (i := 515) (by decide +kernel) rfl⟩, in_gd (i := 84) (by decide +kernel) rfl, in_gd (i := 516) (by decide +kernel) rfl⟩
theorem yoL_135 : yOk yX1_sure 1 := ⟨by decide, by decide, by decide +kernel⟩
theorem l_L_138 : mlV RL 138 yX2_sure cX2_sure 8 (some .int) := ⟨in_gd (i := 976) (by decide +kernel) rfl, ⟨in_gd (i := 977) (by decide +kernel) rfl, in_gd (i := 978) (by decide +kernel) rfl⟩, in_gd (i := 87) (by decide +kernel) rfl, in_gd (i := 979) (by decide +kernel) rfl⟩
theorem yoL_138 : yOk yX2_sure 1 := ⟨by decide, by decide, by decide +kernel⟩
theorem l_L_139 : mlV RL 139 yX1_duel cX1_duel 4 (some .int) := ⟨in_gd (i := 517) (by decide +kernel) rfl, ⟨in_gd (i := 518) (by decide +kernel) rfl, in_gd (i := 519) (by decide +kernel) rfl⟩, in_gd (i := 84) (by decide +kernel) rfl, in_gd (i := 520) (by decide +kernel) rfl⟩
theorem yoL_139 : yOk yX1_duel 3 := ⟨by decide, by decide, by decide +kernel⟩
theorem l_L_142 : mlV RL 142 yX2_duel cX2_duel 12 (some .int) := ⟨in_gd (i := 980) (by decide +kernel) rfl, ⟨in_gd (i := 981) (by decide +kernel) rfl, in_gd (i := 982) (by decide +kernel) rfl⟩, in_gd (i := 87) (by decide +kernel) rfl, in_gd (i := 983) (by decide +kernel) rfl⟩
theorem yoL_142 : yOk yX2_duel 3 := ⟨by decide, by decide, by decide +kernel⟩
theorem l_L_143 : mlV RL 143 yX1_odds cX1_odds 3 (some .int) := ⟨in_gd (i := 525) (by decide +kernel) rfl, ⟨in_gd (i := 526) (by decide +kernel) rfl, in_gd (i := 527) (by decide +kernel) rfl⟩, in_gd (i := 84) (by decide +kernel) rfl, in_gd (i := 528) (by decide +kernel) rfl⟩
theorem yoL_143 : yOk yX1_odds 2 := ⟨by decide, by decide, by decide +kernel⟩
theorem l_L_146 : mlV RL 146 yX2_odds cX2_odds 10 (some .int) := ⟨in_gd (i := 992) (by decide +kernel) rfl, ⟨in_gd (i := 993) (by decide +kernel) rfl, in_gd (i := 994) (by decide +kernel) rfl⟩, in_gd (i := 87) (by decide +kernel) rfl, in_gd (i := 995) (by decide +kernel) rfl⟩
theorem yoL_146 : yOk yX2_odds 2 := ⟨by decide, by decide, by decide +kernel⟩
theorem l_L_147 : mlV RL 147 yX1_mid cX1_mid 3 (some .int) := ⟨in_gd (i := 537) (by decide +kernel) rfl, ⟨in_gd (i := 538) (by decide +kernel) rfl, in_gd (i := 539) (by decide +kernel) rfl⟩, in_gd (i := 84) (by decide +kernel) rfl, in_gd (i := 540) (by decide +kernel) rfl⟩
theorem yoL_147 : yOk yX1_mid 2 := ⟨by decide, by decide, by decide +kernel⟩
theorem l_L_150 : mlV RL 150 yX2_mid cX2_mid 5 (some .int) := ⟨in_gd (i := 1005) (by decide +kernel) rfl, ⟨in_gd (i := 1006) (by decide +kernel) rfl, in_gd (i := 1007) (by decide +kernel) rfl⟩, in_gd (i := 87) (by decide +kernel) rfl, in_gd (i := 1008) (by decide +kernel) rfl⟩
theorem yoL_150 : yOk yX2_mid 2 := ⟨by decide, by decide, by decide +kernel⟩
theorem l_L_151 : mlV RL 151 yX1_fair cX1_fair 4 (some .int) := ⟨in_gd (i := 546) (by decide +kernel) rfl, ⟨in_gd (i := 547) (by decide +kernel) rfl, in_gd (i := 548) (by decide +kernel) rfl⟩, in_gd (i := 84) (by decide +kernel) rfl, in_gd (i := 549) (by decide +kernel) rfl⟩
theorem yoL_151 : yOk yX1_fair 1 := ⟨by decide, by decide, by decide +kernel⟩
theorem l_L_154 : mlV RL 154 yX2_fair cX2_fair 9 (some .int) := ⟨in_gd (i := 1013) (by decide +kernel) rfl, ⟨in_gd (i := 1014) (by decide +kernel) rfl, in_gd (i := 1015) (by decide +kernel) rfl⟩, in_gd (i := 87) (by decide +kernel) rfl, in_gd (i := 1016) (by decide +kernel) rfl⟩
theorem yoL_154 : yOk yX2_fair 1 := ⟨by decide, by decide, by decide +kernel⟩
theorem l_L_155 : mlV RL 155 yX1_lots cX1_lots 6 (some .int) := ⟨in_gd (i := 550) (by decide +kernel) rfl, ⟨in_gd (i := 551) (by decide +kernel) rfl, in_gd (i := 552) (by decide +kernel) rfl⟩, in_gd (i := 84) (by decide +kernel) rfl, in_gd (i := 553) (by decide +kernel) rfl⟩
theorem yoL_155 : yOk yX1_lots 2 := ⟨by decide, by decide, by decide +kernel⟩
theorem l_L_158 : mlV RL 158 yX2_lots cX2_lots 6 (some .int) := ⟨in_gd (i := 1018) (by decide +kernel) rfl, ⟨in_gd (i := 1019) (by decide +kernel) rfl, in_gd (i := 1020) (by decide +kernel) rfl⟩, in_gd (i := 87) (by decide +kernel) rfl, in_gd (i := 1021) (by decide +kernel) rfl⟩
theorem yoL_158 : yOk yX2_lots 2 := ⟨by decide, by decide, by decide +kernel⟩
theorem l_L_159 : mlV RL 159 yX1_asked cX1_asked 1 (some .int) := ⟨in_gd (i := 561) (by decide +kernel) rfl, ⟨in_gd (i := 562) (by decide +kernel) rfl, in_gd (i := 563) (by decide +kernel) rfl⟩, in_gd (i := 84) (by decide +kernel) rfl, in_gd (i := 564) (by decide +kernel) rfl⟩
theorem yoL_159 : yOk yX1_asked 0 := ⟨by decide, by decide, by decide +kernel⟩
theorem l_L_162 : mlV RL 162 yX2_asked cX2_asked 1 (some .int) := ⟨in_gd (i := 1031) (by decide +kernel) rfl, ⟨in_gd (i := 1032) (by decide +kernel) rfl, in_gd (i := 1033) (by decide +kernel) rfl⟩, in_gd (i := 87) (by decide +kernel) rfl, in_gd (i := 1034) (by decide +kernel) rfl⟩
theorem yoL_162 : yOk yX2_asked 0 := ⟨by decide, by decide, by decide +kernel⟩
theorem l_L_163 : mlV RL 163 yX1_upper cX1_upper 1 (some .long) := ⟨in_gd (i := 565) (by decide +kernel) rfl, ⟨in_gd (i := 566) (by decide +kernel) rfl, in_gd (i := 567) (by decide +kernel) rfl⟩, in_gd (i := 84) (by decide +kernel) rfl, in_gd (i := 568) (by decide +kernel) rfl⟩
theorem yoL_163 : yOk yX1_upper 0 := ⟨by decide, by decide, by decide +kernel⟩
theorem l_L_167 : mlV RL 167 yX2_upper cX2_upper 1 (some .long) := ⟨in_gd (i := 1035) (by decide +kernel) rfl, ⟨in_gd (i := 1036) (by decide +kernel) rfl, in_gd (i := 1037) (by decide +kernel) rfl⟩, in_gd (i := 87) (by decide +kernel) rfl, in_gd (i := 1038) (by decide +kernel) rfl⟩
theorem yoL_167 : yOk yX2_upper 0 := ⟨by decide, by decide, by decide +kernel⟩
theorem l_L_168 : mlV RL 168 yX1_lower cX1_lower 1 (some .long) := ⟨in_gd (i := 569) (by decide +kernel) rfl, ⟨in_gd (i := 570) (by decide +kernel) rfl, in_gd (i := 571) (by decide +kernel) rfl⟩, in_gd (i := 84) (by decide +kernel) rfl, in_gd (i := 572) (by decide +kernel) rfl⟩
theorem yoL_168 : yOk yX1_lower 0 := ⟨by decide, by decide, by decide +kernel⟩
theorem l_L_171 : mlV RL 171 yX2_lower cX2_lower 1 (some .long) := ⟨in_gd (i := 1039) (by decide +kernel) rfl, ⟨in_gd (i := 1040) (by decide +kernel) rfl, in_gd (i := 1041) (by decide +kernel) rfl⟩, in_gd (i := 87) (by decide +kernel) rfl, in_gd (i := 1042) (by decide +kernel) rfl⟩
theorem yoL_171 : yOk yX2_lower 0 := ⟨by decide, by decide, by decide +kernel⟩
theorem l_L_172 : mlV RL 172 yX1_count cX1_count 2 (some .int) := ⟨in_gd (i := 573) (by decide +kernel) rfl, ⟨in_gd (i := 574) (by decide +kernel) rfl, in_gd (i := 575) (by decide +kernel) rfl⟩, in_gd (i := 84) (by decide +kernel) rfl, in_gd (i := 576) (by decide +kernel) rfl⟩
theorem yoL_172 : yOk yX1_count 1 := ⟨by decide, by decide, by decide +kernel⟩
theorem l_L_175 : mlV RL 175 yX2_count cX2_count 2 (some .int) := ⟨in_gd (i := 1043) (by decide +kernel) rfl, ⟨in_gd (i := 1044) (by decide +kernel) rfl, in_gd (i := 1045) (by decide +kernel) rfl⟩, in_gd (i := 87) (by decide +kernel) rfl, in_gd (i := 1046) (by decide +kernel) rfl⟩
theorem yoL_175 : yOk yX2_count 1 := ⟨by decide, by decide, by decide +kernel⟩
theorem l_L_176 : mlV RL 176 yX1_finding cX1_finding 1 (some .int) := ⟨in_gd (i := 592) (by decide +kernel) rfl, ⟨in_gd (i := 593) (by decide +kernel) rfl, in_gd (i := 594) (by decide +kernel) rfl⟩, in_gd (i := 84) (by decide +kernel) rfl, in_gd (i := 595) (by decide +kernel) rfl⟩
theorem yoL_176 : yOk yX1_finding 0 := ⟨by decide, by decide, by decide +kernel⟩
theorem l_L_179 : mlV RL 179 yX2_finding cX2_finding 1 (some .int) := ⟨in_gd (i := 1064) (by decide +kernel) rfl, ⟨in_gd (i := 1065) (by decide +kernel) rfl, in_gd (i := 1066) (by decide +kernel) rfl⟩, in_gd (i := 87) (by decide +kernel) rfl, in_gd (i := 1067) (by decide +kernel) rfl⟩
theorem yoL_179 : yOk yX2_finding 0 := ⟨by decide, by decide, by decide +kernel⟩
theorem l_L_180 : mlV RL 180 yX1_findings cX1_findings 2 (some .int) := ⟨in_gd (i := 596) (by decide +kernel) rfl, ⟨in_gd (i := 597) (by decide +kernel) rfl, in_gd (i := 598) (by decide +kernel) rfl⟩, in_gd (i := 84) (by decide +kernel) rfl, in_gd (i := 599) (by decide +kernel) rfl⟩
theorem yoL_180 : yOk yX1_findings 1 := ⟨by decide, by decide, by decide +kernel⟩
theorem l_L_183 : mlV RL 183 yX2_findings cX2_findings 2 (some .int) := ⟨in_gd (i := 1068) (by decide +kernel) rfl, ⟨in_gd (i := 1069) (by decide +kernel) rfl, in_gd (i := 1070) (by decide +kernel) rfl⟩, in_gd (i := 87) (by decide +kernel) rfl, in_gd (i := 1071) (by decide +kernel) rfl⟩
theorem yoL_183 : yOk yX2_findings 1 := ⟨by decide, by decide, by decide +kernel⟩
theorem l_L_184 : mlV RL 184 yX1_digest cX1_digest 5 (some .long) := ⟨in_gd (i := 600) (by decide +kernel) rfl, ⟨in_gd (i := 601) (by decide +kernel) rfl, in_gd (i := 602) (by decide +kernel) rfl⟩, in_gd (i := 84) (by decide +kernel) rfl, in_gd (i := 603) (by decide +kernel) rfl⟩
theorem yoL_184 : yOk yX1_digest 0 := ⟨by decide, by decide, by decide +kernel⟩
theorem l_L_187 : mlV RL 187 yX2_digest cX2_digest 5 (some .long) := ⟨in_gd (i := 1072) (by decide +kernel) rfl, ⟨in_gd (i := 1073) (by decide +kernel) rfl, in_gd (i := 1074) (by decide +kernel) rfl⟩, in_gd (i := 87) (by decide +kernel) rfl, in_gd (i := 1075) (by decide +kernel) rfl⟩
theorem yoL_187 : yOk yX2_digest 0 := ⟨by decide, by decide, by decide +kernel⟩
theorem case_row {X : LC} {μ : Mem} {i : Nat} {ls : Array Slot} (hF : LFx X) (hl : lv_has ls 4 (lvs X i)) (hi : i + 6 ≤ X.L) (hL : X.L ≤ 3072) (h : Inv μ) (hM : okM μ) (kk : ∀ ν : Mem, Inv ν → okM ν → LAt X ν 1425 ls []) : LAt X μ 216 ls [] := by
  obtain ⟨q, hq, q', hq', he, hI⟩ := P_row (r := (X.xs (i + 1)).toInt) (n := (X.xs (i + 2)).toInt) h
  refine L_x1 hF hl dL_law_216 ?_
  refine L_arg hF hl hi hL dL_law_217 dL_law_218 dL_law_219 dL_law_220 dL_law_221 (by decide) rfl ?_
  refine L_arg hF hl hi hL dL_law_222 dL_law_223 dL_law_224 dL_law_225 dL_law_226 (by decide) rfl ?_
  refine L_call (b0 := 0) (us := [.inl (X.xs (i + 1)).toInt, .inl (X.xs (i + 2)).toInt]) hF hl dL_law_227 (K_X1_row ((X.xs (i + 1)).toInt) ((X.xs (i + 2)).toInt) μ) hq (okS_i (toI_ok _) (okS_i (toI_ok _) okS_n)) hM l_L_13 yoL_13 rfl rfl rfl rfl (Nat.le_of_ble_eq_true rfl) (fun hM1 => ?_)
  refine L_x2 hF hl dL_law_230 ?_
  refine L_arg hF hl hi hL dL_law_231 dL_law_232 dL_law_233 dL_law_234 dL_law_235 (by decide) rfl ?_
  refine L_arg hF hl hi hL dL_law_236 dL_law_237 dL_law_238 dL_law_239 dL_law_240 (by decide) rfl ?_
  refine L_call (b0 := 60) (us := [.inl (X.xs (i + 1)).toInt, .inl (X.xs (i + 2)).toInt]) hF hl dL_law_241 (K_X2_row ((X.xs (i + 1)).toInt) ((X.xs (i + 2)).toInt) q.2) hq' (okS_i (toI_ok _) (okS_i (toI_ok _) okS_n)) hM1 l_L_17 yoL_17 rfl rfl rfl rfl (Nat.le_of_ble_eq_true rfl) (fun hM2 => ?_)
  have fin : LAt X q'.2 244 ls [cv X.G (.inl q.1), cv X.G (.inl q.1)] := L_eqI (tgt := 1425) hF dL_law_244 (by decide) (kk _ hI hM2)
  show LAt X q'.2 244 ls [cv X.G (.inl q'.1), cv X.G (.inl q.1)]
  rw [he]
  exact fin
theorem case_lay {X : LC} {μ : Mem} {i : Nat} {ls : Array Slot} (hF : LFx X) (hl : lv_has ls 4 (lvs X i)) (hi : i + 6 ≤ X.L) (hL : X.L ≤ 3072) (h : Inv μ) (hM : okM μ) (kk : ∀ ν : Mem, Inv ν → okM ν → LAt X ν 1425 ls []) : LAt X μ 249 ls [] := by
  obtain ⟨q, hq, q', hq', he, hI⟩ := P_lay (r := (X.xs (i + 1)).toInt) (i := (X.xs (i + 2)).toInt) (v := (X.xs (i + 3)).toInt) h
  refine L_x1 hF hl dL_law_249 ?_
  refine L_arg hF hl hi hL dL_law_250 dL_law_251 dL_law_252 dL_law_253 dL_law_254 (by decide) rfl ?_
  refine L_arg hF hl hi hL dL_law_255 dL_law_256 dL_law_257 dL_law_258 dL_law_259 (by decide) rfl ?_
  refine L_arg hF hl hi hL dL_law_260 dL_law_261 dL_law_262 dL_law_263 dL_law_264 (by decide) rfl ?_
  refine L_call (b0 := 0) (us := [.inl (X.xs (i + 1)).toInt, .inl (X.xs (i + 2)).toInt, .inl (X.xs (i + 3)).toInt]) hF hl dL_law_265 (K_X1_lay ((X.xs (i + 1)).toInt) ((X.xs (i + 2)).toInt) ((X.xs (i + 3)).toInt) μ) hq (okS_i (toI_ok _) (okS_i (toI_ok _) (okS_i (toI_ok _) okS_n))) hM l_L_18 yoL_18 rfl rfl rfl rfl (Nat.le_of_ble_eq_true rfl) (fun hM1 => ?_)
  refine L_x2 hF hl dL_law_268 ?_
  refine L_arg hF hl hi hL dL_law_269 dL_law_270 dL_law_271 dL_law_272 dL_law_273 (by decide) rfl ?_
  refine L_arg hF hl hi hL dL_law_274 dL_law_275 dL_law_276 dL_law_277 dL_law_278 (by decide) rfl ?_
  refine L_arg hF hl hi hL dL_law_279 dL_law_280 dL_law_281 dL_law_282 dL_law_283 (by decide) rfl ?_
  refine L_call (b0 := 60) (us := [.inl (X.xs (i + 1)).toInt, .inl (X.xs (i + 2)).toInt, .inl (X.xs (i + 3)).toInt]) hF hl dL_law_284 (K_X2_lay ((X.xs (i + 1)).toInt) ((X.xs (i + 2)).toInt) ((X.xs (i + 3)).toInt) q.2) hq' (okS_i (toI_ok _) (okS_i (toI_ok _) (okS_i (toI_ok _) okS_n))) hM1 l_L_22 yoL_22 rfl rfl rfl rfl (Nat.le_of_ble_eq_true rfl) (fun hM2 => ?_)
  have fin : LAt X q'.2 287 ls [cv X.G (.inl q.1), cv X.G (.inl q.1)] := L_eqI (tgt := 1425) hF dL_law_287 (by decide) (kk _ hI hM2)
  show LAt X q'.2 287 ls [cv X.G (.inl q'.1), cv X.G (.inl q.1)]
  rw [he]
  exact fin
theorem case_at {X : LC} {μ : Mem} {i : Nat} {ls : Array Slot} (hF : LFx X) (hl : lv_has ls 4 (lvs X i)) (hi : i + 6 ≤ X.L) (hL : X.L ≤ 3072) (h : Inv μ) (hM : okM μ) (kk : ∀ ν : Mem, Inv ν → okM ν → LAt X ν 1425 ls []) : LAt X μ 292 ls [] := by
  obtain ⟨q, hq, q', hq', he, hI⟩ := P_at (r := (X.xs (i + 1)).toInt) (i := (X.xs (i + 2)).toInt) h
  refine L_x1 hF hl dL_law_292 ?_
  refine L_arg hF hl hi hL dL_law_293 dL_law_294 dL_law_295 dL_law_296 dL_law_297 (by decide) rfl ?_
  refine L_arg hF hl hi hL dL_law_298 dL_law_299 dL_law_300 dL_law_301 dL_law_302 (by decide) rfl ?_
  refine L_call (b0 := 0) (us := [.inl (X.xs (i + 1)).toInt, .inl (X.xs (i + 2)).toInt]) hF hl dL_law_303 (K_X1_at ((X.xs (i + 1)).toInt) ((X.xs (i + 2)).toInt) μ) hq (okS_i (toI_ok _) (okS_i (toI_ok _) okS_n)) hM l_L_23 yoL_23 rfl rfl rfl rfl (Nat.le_of_ble_eq_true rfl) (fun hM1 => ?_)
  refine L_x2 hF hl dL_law_306 ?_
  refine L_arg hF hl hi hL dL_law_307 dL_law_308 dL_law_309 dL_law_310 dL_law_311 (by decide) rfl ?_
  refine L_arg hF hl hi hL dL_law_312 dL_law_313 dL_law_314 dL_law_315 dL_law_316 (by decide) rfl ?_
  refine L_call (b0 := 60) (us := [.inl (X.xs (i + 1)).toInt, .inl (X.xs (i + 2)).toInt]) hF hl dL_law_317 (K_X2_at ((X.xs (i + 1)).toInt) ((X.xs (i + 2)).toInt) q.2) hq' (okS_i (toI_ok _) (okS_i (toI_ok _) okS_n)) hM1 l_L_26 yoL_26 rfl rfl rfl rfl (Nat.le_of_ble_eq_true rfl) (fun hM2 => ?_)
  have fin : LAt X q'.2 320 ls [cv X.G (.inl q.1), cv X.G (.inl q.1)] := L_eqI (tgt := 1425) hF dL_law_320 (by decide) (kk _ hI hM2)
  show LAt X q'.2 320 ls [cv X.G (.inl q'.1), cv X.G (.inl q.1)]
  rw [he]
  exact fin
theorem case_tear {X : LC} {μ : Mem} {i : Nat} {ls : Array Slot} (hF : LFx X) (hl : lv_has ls 4 (lvs X i)) (hi : i + 6 ≤ X.L) (hL : X.L ≤ 3072) (h : Inv μ) (hM : okM μ) (kk : ∀ ν : Mem, Inv ν → okM ν → LAt X ν 1425 ls []) : LAt X μ 325 ls [] := by
  obtain ⟨q, hq, q', hq', he, hI⟩ := P_tear (r := (X.xs (i + 1)).toInt) h
  refine L_x1 hF hl dL_law_325 ?_
  refine L_arg hF hl hi hL dL_law_326 dL_law_327 dL_law_328 dL_law_329 dL_law_330 (by decide) rfl ?_
  refine L_call (b0 := 0) (us := [.inl (X.xs (i + 1)).toInt]) hF hl dL_law_331 (K_X1_tear ((X.xs (i + 1)).toInt) μ) hq (okS_i (toI_ok _) okS_n) hM l_L_27 yoL_27 rfl rfl rfl rfl (Nat.le_of_ble_eq_true rfl) (fun hM1 => ?_)
  refine L_x2 hF hl dL_law_334 ?_
  refine L_arg hF hl hi hL dL_law_335 dL_law_336 dL_law_337 dL_law_338 dL_law_339 (by decide) rfl ?_
  refine L_call (b0 := 60) (us := [.inl (X.xs (i + 1)).toInt]) hF hl dL_law_340 (K_X2_tear ((X.xs (i + 1)).toInt) q.2) hq' (okS_i (toI_ok _) okS_n) hM1 l_L_31 yoL_31 rfl rfl rfl rfl (Nat.le_of_ble_eq_true rfl) (fun hM2 => ?_)
  have fin : LAt X q'.2 343 ls [cv X.G (.inl q.1), cv X.G (.inl q.1)] := L_eqI (tgt := 1425) hF dL_law_343 (by decide) (kk _ hI hM2)
  show LAt X q'.2 343 ls [cv X.G (.inl q'.1), cv X.G (.inl q.1)]
  rw [he]
  exact fin
theorem case_copy {X : LC} {μ : Mem} {i : Nat} {ls : Array Slot} (hF : LFx X) (hl : lv_has ls 4 (lvs X i)) (hi : i + 6 ≤ X.L) (hL : X.L ≤ 3072) (h : Inv μ) (hM : okM μ) (kk : ∀ ν : Mem, Inv ν → okM ν → LAt X ν 1425 ls []) : LAt X μ 348 ls [] := by
  obtain ⟨q, hq, q', hq', he, hI⟩ := P_copy (r := (X.xs (i + 1)).toInt) (i := (X.xs (i + 2)).toInt) (to := (X.xs (i + 3)).toInt) (j := (X.xs (i + 4)).toInt) (n := (X.xs (i + 5)).toInt) h (toI_ok _) (toI_ok _) (toI_ok _)
  refine L_x1 hF hl dL_law_348 ?_
  refine L_arg hF hl hi hL dL_law_349 dL_law_350 dL_law_351 dL_law_352 dL_law_353 (by decide) rfl ?_
  refine L_arg hF hl hi hL dL_law_354 dL_law_355 dL_law_356 dL_law_357 dL_law_358 (by decide) rfl ?_
  refine L_arg hF hl hi hL dL_law_359 dL_law_360 dL_law_361 dL_law_362 dL_law_363 (by decide) rfl ?_
  refine L_arg hF hl hi hL dL_law_364 dL_law_365 dL_law_366 dL_law_367 dL_law_368 (by decide) rfl ?_
  refine L_arg hF hl hi hL dL_law_369 dL_law_370 dL_law_371 dL_law_372 dL_law_373 (by decide) rfl ?_
  refine L_call (b0 := 0) (us := [.inl (X.xs (i + 1)).toInt, .inl (X.xs (i + 2)).toInt, .inl (X.xs (i + 3)).toInt, .inl (X.xs (i + 4)).toInt, .inl (X.xs (i + 5)).toInt]) hF hl dL_law_374 (K_X1_copy ((X.xs (i + 1)).toInt) ((X.xs (i + 2)).toInt) ((X.xs (i + 3)).toInt) ((X.xs (i + 4)).toInt) ((X.xs (i + 5)).toInt) μ) hq (okS_i (toI_ok _) (okS_i (toI_ok _) (okS_i (toI_ok _) (okS_i (toI_ok _) (okS_i (toI_ok _) okS_n))))) hM l_L_32 yoL_32 rfl rfl rfl rfl (Nat.le_of_ble_eq_true rfl) (fun hM1 => ?_)
  refine L_x2 hF hl dL_law_377 ?_
  refine L_arg hF hl hi hL dL_law_378 dL_law_379 dL_law_380 dL_law_381 dL_law_382 (by decide) rfl ?_
  refine L_arg hF hl hi hL dL_law_383 dL_law_384 dL_law_385 dL_law_386 dL_law_387 (by decide) rfl ?_
  refine L_arg hF hl hi hL dL_law_388 dL_law_389 dL_law_390 dL_law_391 dL_law_392 (by decide) rfl ?_
  refine L_arg hF hl hi hL dL_law_393 dL_law_394 dL_law_395 dL_law_396 dL_law_397 (by decide) rfl ?_
  refine L_arg hF hl hi hL dL_law_398 dL_law_399 dL_law_400 dL_law_401 dL_law_402 (by decide) rfl ?_
  refine L_call (b0 := 60) (us := [.inl (X.xs (i + 1)).toInt, .inl (X.xs (i + 2)).toInt, .inl (X.xs (i + 3)).toInt, .inl (X.xs (i + 4)).toInt, .inl (X.xs (i + 5)).toInt]) hF hl dL_law_403 (K_X2_copy ((X.xs (i + 1)).toInt) ((X.xs (i + 2)).toInt) ((X.xs (i + 3)).toInt) ((X.xs (i + 4)).toInt) ((X.xs (i + 5)).toInt) q.2) hq' (okS_i (toI_ok _) (okS_i (toI_ok _) (okS_i (toI_ok _) (okS_i (toI_ok _) (okS_i (toI_ok _) okS_n))))) hM1 l_L_36 yoL_36 rfl rfl rfl rfl (Nat.le_of_ble_eq_true rfl) (fun hM2 => ?_)
  have fin : LAt X q'.2 406 ls [cv X.G (.inl q.1), cv X.G (.inl q.1)] := L_eqI (tgt := 1425) hF dL_law_406 (by decide) (kk _ hI hM2)
  show LAt X q'.2 406 ls [cv X.G (.inl q'.1), cv X.G (.inl q.1)]
  rw [he]
  exact fin
theorem case_mean {X : LC} {μ : Mem} {i : Nat} {ls : Array Slot} (hF : LFx X) (hl : lv_has ls 4 (lvs X i)) (hi : i + 6 ≤ X.L) (hL : X.L ≤ 3072) (h : Inv μ) (hM : okM μ) (kk : ∀ ν : Mem, Inv ν → okM ν → LAt X ν 1425 ls []) : LAt X μ 411 ls [] := by
  obtain ⟨q, hq, q', hq', he, hI⟩ := P_mean (r := (X.xs (i + 1)).toInt) h
  refine L_x1 hF hl dL_law_411 ?_
  refine L_arg hF hl hi hL dL_law_412 dL_law_413 dL_law_414 dL_law_415 dL_law_416 (by decide) rfl ?_
  refine L_call (b0 := 0) (us := [.inl (X.xs (i + 1)).toInt]) hF hl dL_law_417 (K_X1_mean ((X.xs (i + 1)).toInt) μ) hq (okS_i (toI_ok _) okS_n) hM l_L_37 yoL_37 rfl rfl rfl rfl (Nat.le_of_ble_eq_true rfl) (fun hM1 => ?_)
  refine L_x2 hF hl dL_law_420 ?_
  refine L_arg hF hl hi hL dL_law_421 dL_law_422 dL_law_423 dL_law_424 dL_law_425 (by decide) rfl ?_
  refine L_call (b0 := 60) (us := [.inl (X.xs (i + 1)).toInt]) hF hl dL_law_426 (K_X2_mean ((X.xs (i + 1)).toInt) q.2) hq' (okS_i (toI_ok _) okS_n) hM1 l_L_40 yoL_40 rfl rfl rfl rfl (Nat.le_of_ble_eq_true rfl) (fun hM2 => ?_)
  have fin : LAt X q'.2 429 ls [cv X.G (.inl q.1), cv X.G (.inl q.1)] := L_eqI (tgt := 1425) hF dL_law_429 (by decide) (kk _ hI hM2)
  show LAt X q'.2 429 ls [cv X.G (.inl q'.1), cv X.G (.inl q.1)]
  rw [he]
  exact fin
theorem case_text {X : LC} {μ : Mem} {i : Nat} {ls : Array Slot} (hF : LFx X) (hl : lv_has ls 4 (lvs X i)) (hi : i + 6 ≤ X.L) (hL : X.L ≤ 3072) (h : Inv μ) (hM : okM μ) (kk : ∀ ν : Mem, Inv ν → okM ν → LAt X ν 1425 ls []) : LAt X μ 434 ls [] := by
  obtain ⟨q, hq, q', hq', he, hI⟩ := P_text (t := (X.xs (i + 1)).toInt) (n := (X.xs (i + 2)).toInt) h
  refine L_x1 hF hl dL_law_434 ?_
  refine L_arg hF hl hi hL dL_law_435 dL_law_436 dL_law_437 dL_law_438 dL_law_439 (by decide) rfl ?_
  refine L_arg hF hl hi hL dL_law_440 dL_law_441 dL_law_442 dL_law_443 dL_law_444 (by decide) rfl ?_
  refine L_call (b0 := 0) (us := [.inl (X.xs (i + 1)).toInt, .inl (X.xs (i + 2)).toInt]) hF hl dL_law_445 (K_X1_text ((X.xs (i + 1)).toInt) ((X.xs (i + 2)).toInt) μ) hq (okS_i (toI_ok _) (okS_i (toI_ok _) okS_n)) hM l_L_41 yoL_41 rfl rfl rfl rfl (Nat.le_of_ble_eq_true rfl) (fun hM1 => ?_)
  refine L_x2 hF hl dL_law_448 ?_
  refine L_arg hF hl hi hL dL_law_449 dL_law_450 dL_law_451 dL_law_452 dL_law_453 (by decide) rfl ?_
  refine L_arg hF hl hi hL dL_law_454 dL_law_455 dL_law_456 dL_law_457 dL_law_458 (by decide) rfl ?_
  refine L_call (b0 := 60) (us := [.inl (X.xs (i + 1)).toInt, .inl (X.xs (i + 2)).toInt]) hF hl dL_law_459 (K_X2_text ((X.xs (i + 1)).toInt) ((X.xs (i + 2)).toInt) q.2) hq' (okS_i (toI_ok _) (okS_i (toI_ok _) okS_n)) hM1 l_L_44 yoL_44 rfl rfl rfl rfl (Nat.le_of_ble_eq_true rfl) (fun hM2 => ?_)
  have fin : LAt X q'.2 462 ls [cv X.G (.inl q.1), cv X.G (.inl q.1)] := L_eqI (tgt := 1425) hF dL_law_462 (by decide) (kk _ hI hM2)
  show LAt X q'.2 462 ls [cv X.G (.inl q'.1), cv X.G (.inl q.1)]
  rw [he]
  exact fin
theorem case_put {X : LC} {μ : Mem} {i : Nat} {ls : Array Slot} (hF : LFx X) (hl : lv_has ls 4 (lvs X i)) (hi : i + 6 ≤ X.L) (hL : X.L ≤ 3072) (h : Inv μ) (hM : okM μ) (kk : ∀ ν : Mem, Inv ν → okM ν → LAt X ν 1425 ls []) : LAt X μ 467 ls [] := by
  obtain ⟨q, hq, q', hq', he, hI⟩ := P_put (t := (X.xs (i + 1)).toInt) (i := (X.xs (i + 2)).toInt) (v := (X.xs (i + 3)).toInt) h
  refine L_x1 hF hl dL_law_467 ?_
  refine L_arg hF hl hi hL dL_law_468 dL_law_469 dL_law_470 dL_law_471 dL_law_472 (by decide) rfl ?_
  refine L_arg hF hl hi hL dL_law_473 dL_law_474 dL_law_475 dL_law_476 dL_law_477 (by decide) rfl ?_
  refine L_arg hF hl hi hL dL_law_478 dL_law_479 dL_law_480 dL_law_481 dL_law_482 (by decide) rfl ?_
  refine L_call (b0 := 0) (us := [.inl (X.xs (i + 1)).toInt, .inl (X.xs (i + 2)).toInt, .inl (X.xs (i + 3)).toInt]) hF hl dL_law_483 (K_X1_put ((X.xs (i + 1)).toInt) ((X.xs (i + 2)).toInt) ((X.xs (i + 3)).toInt) μ) hq (okS_i (toI_ok _) (okS_i (toI_ok _) (okS_i (toI_ok _) okS_n))) hM l_L_45 yoL_45 rfl rfl rfl rfl (Nat.le_of_ble_eq_true rfl) (fun hM1 => ?_)
  refine L_x2 hF hl dL_law_486 ?_
  refine L_arg hF hl hi hL dL_law_487 dL_law_488 dL_law_489 dL_law_490 dL_law_491 (by decide) rfl ?_
  refine L_arg hF hl hi hL dL_law_492 dL_law_493 dL_law_494 dL_law_495 dL_law_496 (by decide) rfl ?_
  refine L_arg hF hl hi hL dL_law_497 dL_law_498 dL_law_499 dL_law_500 dL_law_501 (by decide) rfl ?_
  refine L_call (b0 := 60) (us := [.inl (X.xs (i + 1)).toInt, .inl (X.xs (i + 2)).toInt, .inl (X.xs (i + 3)).toInt]) hF hl dL_law_502 (K_X2_put ((X.xs (i + 1)).toInt) ((X.xs (i + 2)).toInt) ((X.xs (i + 3)).toInt) q.2) hq' (okS_i (toI_ok _) (okS_i (toI_ok _) (okS_i (toI_ok _) okS_n))) hM1 l_L_48 yoL_48 rfl rfl rfl rfl (Nat.le_of_ble_eq_true rfl) (fun hM2 => ?_)
  have fin : LAt X q'.2 505 ls [cv X.G (.inl q.1), cv X.G (.inl q.1)] := L_eqI (tgt := 1425) hF dL_law_505 (by decide) (kk _ hI hM2)
  show LAt X q'.2 505 ls [cv X.G (.inl q'.1), cv X.G (.inl q.1)]
  rw [he]
  exact fin
theorem case_fault {X : LC} {μ : Mem} {i : Nat} {ls : Array Slot} (hF : LFx X) (hl : lv_has ls 4 (lvs X i)) (hi : i + 6 ≤ X.L) (hL : X.L ≤ 3072) (h : Inv μ) (hM : okM μ) (kk : ∀ ν : Mem, Inv ν → okM ν → LAt X ν 1425 ls []) : LAt X μ 510 ls [] := by
  obtain ⟨q, hq, q', hq', he, hI⟩ := P_fault (t := (X.xs (i + 1)).toInt) h
  refine L_x1 hF hl dL_law_510 ?_
  refine L_arg hF hl hi hL dL_law_511 dL_law_512 dL_law_513 dL_law_514 dL_law_515 (by decide) rfl ?_
  refine L_call (b0 := 0) (us := [.inl (X.xs (i + 1)).toInt]) hF hl dL_law_516 (K_X1_fault ((X.xs (i + 1)).toInt) μ) hq (okS_i (toI_ok _) okS_n) hM l_L_49 yoL_49 rfl rfl rfl rfl (Nat.le_of_ble_eq_true rfl) (fun hM1 => ?_)
  refine L_x2 hF hl dL_law_519 ?_
  refine L_arg hF hl hi hL dL_law_520 dL_law_521 dL_law_522 dL_law_523 dL_law_524 (by decide) rfl ?_
  refine L_call (b0 := 60) (us := [.inl (X.xs (i + 1)).toInt]) hF hl dL_law_525 (K_X2_fault ((X.xs (i + 1)).toInt) q.2) hq' (okS_i (toI_ok _) okS_n) hM1 l_L_52 yoL_52 rfl rfl rfl rfl (Nat.le_of_ble_eq_true rfl) (fun hM2 => ?_)
  have fin : LAt X q'.2 528 ls [cv X.G (.inl q.1), cv X.G (.inl q.1)] := L_eqI (tgt := 1425) hF dL_law_528 (by decide) (kk _ hI hM2)
  show LAt X q'.2 528 ls [cv X.G (.inl q'.1), cv X.G (.inl q.1)]
  rw [he]
  exact fin
theorem case_river {X : LC} {μ : Mem} {i : Nat} {ls : Array Slot} (hF : LFx X) (hl : lv_has ls 4 (lvs X i)) (hi : i + 6 ≤ X.L) (hL : X.L ≤ 3072) (h : Inv μ) (hM : okM μ) (kk : ∀ ν : Mem, Inv ν → okM ν → LAt X ν 1425 ls []) : LAt X μ 533 ls [] := by
  obtain ⟨q, hq, q', hq', he, hI⟩ := P_river (t := (X.xs (i + 1)).toInt) h
  refine L_x1 hF hl dL_law_533 ?_
  refine L_arg hF hl hi hL dL_law_534 dL_law_535 dL_law_536 dL_law_537 dL_law_538 (by decide) rfl ?_
  refine L_call (b0 := 0) (us := [.inl (X.xs (i + 1)).toInt]) hF hl dL_law_539 (K_X1_river ((X.xs (i + 1)).toInt) μ) hq (okS_i (toI_ok _) okS_n) hM l_L_53 yoL_53 rfl rfl rfl rfl (Nat.le_of_ble_eq_true rfl) (fun hM1 => ?_)
  refine L_x2 hF hl dL_law_542 ?_
  refine L_arg hF hl hi hL dL_law_543 dL_law_544 dL_law_545 dL_law_546 dL_law_547 (by decide) rfl ?_
  refine L_call (b0 := 60) (us := [.inl (X.xs (i + 1)).toInt]) hF hl dL_law_548 (K_X2_river ((X.xs (i + 1)).toInt) q.2) hq' (okS_i (toI_ok _) okS_n) hM1 l_L_56 yoL_56 rfl rfl rfl rfl (Nat.le_of_ble_eq_true rfl) (fun hM2 => ?_)
  have fin : LAt X q'.2 551 ls [cv X.G (.inl q.1), cv X.G (.inl q.1)] := L_eqI (tgt := 1425) hF dL_law_551 (by decide) (kk _ hI hM2)
  show LAt X q'.2 551 ls [cv X.G (.inl q'.1), cv X.G (.inl q.1)]
  rw [he]
  exact fin
theorem case_one {X : LC} {μ : Mem} {i : Nat} {ls : Array Slot} (hF : LFx X) (hl : lv_has ls 4 (lvs X i)) (hi : i + 6 ≤ X.L) (hL : X.L ≤ 3072) (h : Inv μ) (hM : okM μ) (kk : ∀ ν : Mem, Inv ν → okM ν → LAt X ν 1425 ls []) : LAt X μ 556 ls [] := by
  obtain ⟨q, hq, q', hq', he, hI⟩ := P_one (i := (X.xs (i + 1)).toInt) (w := (X.xs (i + 2)).toInt) h
  refine L_x1 hF hl dL_law_556 ?_
  refine L_arg hF hl hi hL dL_law_557 dL_law_558 dL_law_559 dL_law_560 dL_law_561 (by decide) rfl ?_
  refine L_arg hF hl hi hL dL_law_562 dL_law_563 dL_law_564 dL_law_565 dL_law_566 (by decide) rfl ?_
  refine L_call (b0 := 0) (us := [.inl (X.xs (i + 1)).toInt, .inl (X.xs (i + 2)).toInt]) hF hl dL_law_567 (K_X1_one ((X.xs (i + 1)).toInt) ((X.xs (i + 2)).toInt) μ) hq (okS_i (toI_ok _) (okS_i (toI_ok _) okS_n)) hM l_L_57 yoL_57 rfl rfl rfl rfl (Nat.le_of_ble_eq_true rfl) (fun hM1 => ?_)
  refine L_x2 hF hl dL_law_570 ?_
  refine L_arg hF hl hi hL dL_law_571 dL_law_572 dL_law_573 dL_law_574 dL_law_575 (by decide) rfl ?_
  refine L_arg hF hl hi hL dL_law_576 dL_law_577 dL_law_578 dL_law_579 dL_law_580 (by decide) rfl ?_
  refine L_call (b0 := 60) (us := [.inl (X.xs (i + 1)).toInt, .inl (X.xs (i + 2)).toInt]) hF hl dL_law_581 (K_X2_one ((X.xs (i + 1)).toInt) ((X.xs (i + 2)).toInt) q.2) hq' (okS_i (toI_ok _) (okS_i (toI_ok _) okS_n)) hM1 l_L_60 yoL_60 rfl rfl rfl rfl (Nat.le_of_ble_eq_true rfl) (fun hM2 => ?_)
  have fin : LAt X q'.2 584 ls [cv X.G (.inl q.1), cv X.G (.inl q.1)] := L_eqI (tgt := 1425) hF dL_law_584 (by decide) (kk _ hI hM2)
  show LAt X q'.2 584 ls [cv X.G (.inl q'.1), cv X.G (.inl q.1)]
  rw [he]
  exact fin
theorem case_mark {X : LC} {μ : Mem} {i : Nat} {ls : Array Slot} (hF : LFx X) (hl : lv_has ls 4 (lvs X i)) (hi : i + 6 ≤ X.L) (hL : X.L ≤ 3072) (h : Inv μ) (hM : okM μ) (kk : ∀ ν : Mem, Inv ν → okM ν → LAt X ν 1425 ls []) : LAt X μ 589 ls [] := by
  obtain ⟨q, hq, q', hq', he, hI⟩ := P_mark (i := (X.xs (i + 1)).toInt) (o := (X.xs (i + 2)).toInt) h
  refine L_x1 hF hl dL_law_589 ?_
  refine L_arg hF hl hi hL dL_law_590 dL_law_591 dL_law_592 dL_law_593 dL_law_594 (by decide) rfl ?_
  refine L_arg hF hl hi hL dL_law_595 dL_law_596 dL_law_597 dL_law_598 dL_law_599 (by decide) rfl ?_
  refine L_call (b0 := 0) (us := [.inl (X.xs (i + 1)).toInt, .inl (X.xs (i + 2)).toInt]) hF hl dL_law_600 (K_X1_mark ((X.xs (i + 1)).toInt) ((X.xs (i + 2)).toInt) μ) hq (okS_i (toI_ok _) (okS_i (toI_ok _) okS_n)) hM l_L_61 yoL_61 rfl rfl rfl rfl (Nat.le_of_ble_eq_true rfl) (fun hM1 => ?_)
  refine L_x2 hF hl dL_law_603 ?_
  refine L_arg hF hl hi hL dL_law_604 dL_law_605 dL_law_606 dL_law_607 dL_law_608 (by decide) rfl ?_
  refine L_arg hF hl hi hL dL_law_609 dL_law_610 dL_law_611 dL_law_612 dL_law_613 (by decide) rfl ?_
  refine L_call (b0 := 60) (us := [.inl (X.xs (i + 1)).toInt, .inl (X.xs (i + 2)).toInt]) hF hl dL_law_614 (K_X2_mark ((X.xs (i + 1)).toInt) ((X.xs (i + 2)).toInt) q.2) hq' (okS_i (toI_ok _) (okS_i (toI_ok _) okS_n)) hM1 l_L_64 yoL_64 rfl rfl rfl rfl (Nat.le_of_ble_eq_true rfl) (fun hM2 => ?_)
  have fin : LAt X q'.2 617 ls [cv X.G (.inl q.1), cv X.G (.inl q.1)] := L_eqI (tgt := 1425) hF dL_law_617 (by decide) (kk _ hI hM2)
  show LAt X q'.2 617 ls [cv X.G (.inl q'.1), cv X.G (.inl q.1)]
  rw [he]
  exact fin
theorem case_night {X : LC} {μ : Mem} {i : Nat} {ls : Array Slot} (hF : LFx X) (hl : lv_has ls 4 (lvs X i)) (hi : i + 6 ≤ X.L) (hL : X.L ≤ 3072) (h : Inv μ) (hM : okM μ) (kk : ∀ ν : Mem, Inv ν → okM ν → LAt X ν 1425 ls []) : LAt X μ 622 ls [] := by
  obtain ⟨q, hq, q', hq', he, hI⟩ := P_night  h
  refine L_x1 hF hl dL_law_622 ?_
  refine L_call (b0 := 0) (us := []) hF hl dL_law_623 (K_X1_night  μ) hq okS_n hM l_L_65 yoL_65 rfl rfl rfl rfl (Nat.le_of_ble_eq_true rfl) (fun hM1 => ?_)
  refine L_x2 hF hl dL_law_626 ?_
  refine L_call (b0 := 60) (us := []) hF hl dL_law_627 (K_X2_night  q.2) hq' okS_n hM1 l_L_69 yoL_69 rfl rfl rfl rfl (Nat.le_of_ble_eq_true rfl) (fun hM2 => ?_)
  have fin : LAt X q'.2 630 ls [cv X.G (.inl q.1), cv X.G (.inl q.1)] := L_eqI (tgt := 1425) hF dL_law_630 (by decide) (kk _ hI hM2)
  show LAt X q'.2 630 ls [cv X.G (.inl q'.1), cv X.G (.inl q.1)]
  rw [he]
  exact fin
theorem case_raise {X : LC} {μ : Mem} {i : Nat} {ls : Array Slot} (hF : LFx X) (hl : lv_has ls 4 (lvs X i)) (hi : i + 6 ≤ X.L) (hL : X.L ≤ 3072) (h : Inv μ) (hM : okM μ) (kk : ∀ ν : Mem, Inv ν → okM ν → LAt X ν 1425 ls []) : LAt X μ 635 ls [] := by
  obtain ⟨q, hq, q', hq', he, hI⟩ := P_raise (i := (X.xs (i + 1)).toInt) (n := (X.xs (i + 2)).toInt) h
  refine L_x1 hF hl dL_law_635 ?_
  refine L_arg hF hl hi hL dL_law_636 dL_law_637 dL_law_638 dL_law_639 dL_law_640 (by decide) rfl ?_
  refine L_arg hF hl hi hL dL_law_641 dL_law_642 dL_law_643 dL_law_644 dL_law_645 (by decide) rfl ?_
  refine L_call (b0 := 0) (us := [.inl (X.xs (i + 1)).toInt, .inl (X.xs (i + 2)).toInt]) hF hl dL_law_646 (K_X1_raise ((X.xs (i + 1)).toInt) ((X.xs (i + 2)).toInt) μ) hq (okS_i (toI_ok _) (okS_i (toI_ok _) okS_n)) hM l_L_70 yoL_70 rfl rfl rfl rfl (Nat.le_of_ble_eq_true rfl) (fun hM1 => ?_)
  refine L_x2 hF hl dL_law_649 ?_
  refine L_arg hF hl hi hL dL_law_650 dL_law_651 dL_law_652 dL_law_653 dL_law_654 (by decide) rfl ?_
  refine L_arg hF hl hi hL dL_law_655 dL_law_656 dL_law_657 dL_law_658 dL_law_659 (by decide) rfl ?_
  refine L_call (b0 := 60) (us := [.inl (X.xs (i + 1)).toInt, .inl (X.xs (i + 2)).toInt]) hF hl dL_law_660 (K_X2_raise ((X.xs (i + 1)).toInt) ((X.xs (i + 2)).toInt) q.2) hq' (okS_i (toI_ok _) (okS_i (toI_ok _) okS_n)) hM1 l_L_73 yoL_73 rfl rfl rfl rfl (Nat.le_of_ble_eq_true rfl) (fun hM2 => ?_)
  have fin : LAt X q'.2 663 ls [cv X.G (.inl q.1), cv X.G (.inl q.1)] := L_eqI (tgt := 1425) hF dL_law_663 (by decide) (kk _ hI hM2)
  show LAt X q'.2 663 ls [cv X.G (.inl q'.1), cv X.G (.inl q.1)]
  rw [he]
  exact fin
theorem case_shame {X : LC} {μ : Mem} {i : Nat} {ls : Array Slot} (hF : LFx X) (hl : lv_has ls 4 (lvs X i)) (hi : i + 6 ≤ X.L) (hL : X.L ≤ 3072) (h : Inv μ) (hM : okM μ) (kk : ∀ ν : Mem, Inv ν → okM ν → LAt X ν 1425 ls []) : LAt X μ 668 ls [] := by
  obtain ⟨q, hq, q', hq', he, hI⟩ := P_shame (i := (X.xs (i + 1)).toInt) (n := (X.xs (i + 2)).toInt) h
  refine L_x1 hF hl dL_law_668 ?_
  refine L_arg hF hl hi hL dL_law_669 dL_law_670 dL_law_671 dL_law_672 dL_law_673 (by decide) rfl ?_
  refine L_arg hF hl hi hL dL_law_674 dL_law_675 dL_law_676 dL_law_677 dL_law_678 (by decide) rfl ?_
  refine L_call (b0 := 0) (us := [.inl (X.xs (i + 1)).toInt, .inl (X.xs (i + 2)).toInt]) hF hl dL_law_679 (K_X1_shame ((X.xs (i + 1)).toInt) ((X.xs (i + 2)).toInt) μ) hq (okS_i (toI_ok _) (okS_i (toI_ok _) okS_n)) hM l_L_74 yoL_74 rfl rfl rfl rfl (Nat.le_of_ble_eq_true rfl) (fun hM1 => ?_)
  refine L_x2 hF hl dL_law_682 ?_
  refine L_arg hF hl hi hL dL_law_683 dL_law_684 dL_law_685 dL_law_686 dL_law_687 (by decide) rfl ?_
  refine L_arg hF hl hi hL dL_law_688 dL_law_689 dL_law_690 dL_law_691 dL_law_692 (by decide) rfl ?_
  refine L_call (b0 := 60) (us := [.inl (X.xs (i + 1)).toInt, .inl (X.xs (i + 2)).toInt]) hF hl dL_law_693 (K_X2_shame ((X.xs (i + 1)).toInt) ((X.xs (i + 2)).toInt) q.2) hq' (okS_i (toI_ok _) (okS_i (toI_ok _) okS_n)) hM1 l_L_77 yoL_77 rfl rfl rfl rfl (Nat.le_of_ble_eq_true rfl) (fun hM2 => ?_)
  have fin : LAt X q'.2 696 ls [cv X.G (.inl q.1), cv X.G (.inl q.1)] := L_eqI (tgt := 1425) hF dL_law_696 (by decide) (kk _ hI hM2)
  show LAt X q'.2 696 ls [cv X.G (.inl q'.1), cv X.G (.inl q.1)]
  rw [he]
  exact fin
theorem case_door {X : LC} {μ : Mem} {i : Nat} {ls : Array Slot} (hF : LFx X) (hl : lv_has ls 4 (lvs X i)) (hi : i + 6 ≤ X.L) (hL : X.L ≤ 3072) (h : Inv μ) (hM : okM μ) (kk : ∀ ν : Mem, Inv ν → okM ν → LAt X ν 1425 ls []) : LAt X μ 701 ls [] := by
  obtain ⟨q, hq, q', hq', he, hI⟩ := P_door (i := (X.xs (i + 1)).toInt) (p := (X.xs (i + 2)).toInt) h
  refine L_x1 hF hl dL_law_701 ?_
  refine L_arg hF hl hi hL dL_law_702 dL_law_703 dL_law_704 dL_law_705 dL_law_706 (by decide) rfl ?_
  refine L_arg hF hl hi hL dL_law_707 dL_law_708 dL_law_709 dL_law_710 dL_law_711 (by decide) rfl ?_
  refine L_call (b0 := 0) (us := [.inl (X.xs (i + 1)).toInt, .inl (X.xs (i + 2)).toInt]) hF hl dL_law_712 (K_X1_door ((X.xs (i + 1)).toInt) ((X.xs (i + 2)).toInt) μ) hq (okS_i (toI_ok _) (okS_i (toI_ok _) okS_n)) hM l_L_78 yoL_78 rfl rfl rfl rfl (Nat.le_of_ble_eq_true rfl) (fun hM1 => ?_)
  refine L_x2 hF hl dL_law_715 ?_
  refine L_arg hF hl hi hL dL_law_716 dL_law_717 dL_law_718 dL_law_719 dL_law_720 (by decide) rfl ?_
  refine L_arg hF hl hi hL dL_law_721 dL_law_722 dL_law_723 dL_law_724 dL_law_725 (by decide) rfl ?_
  refine L_call (b0 := 60) (us := [.inl (X.xs (i + 1)).toInt, .inl (X.xs (i + 2)).toInt]) hF hl dL_law_726 (K_X2_door ((X.xs (i + 1)).toInt) ((X.xs (i + 2)).toInt) q.2) hq' (okS_i (toI_ok _) (okS_i (toI_ok _) okS_n)) hM1 l_L_81 yoL_81 rfl rfl rfl rfl (Nat.le_of_ble_eq_true rfl) (fun hM2 => ?_)
  have fin : LAt X q'.2 729 ls [cv X.G (.inl q.1), cv X.G (.inl q.1)] := L_eqI (tgt := 1425) hF dL_law_729 (by decide) (kk _ hI hM2)
  show LAt X q'.2 729 ls [cv X.G (.inl q'.1), cv X.G (.inl q.1)]
  rw [he]
  exact fin
theorem case_undo {X : LC} {μ : Mem} {i : Nat} {ls : Array Slot} (hF : LFx X) (hl : lv_has ls 4 (lvs X i)) (hi : i + 6 ≤ X.L) (hL : X.L ≤ 3072) (h : Inv μ) (hM : okM μ) (kk : ∀ ν : Mem, Inv ν → okM ν → LAt X ν 1425 ls []) : LAt X μ 734 ls [] := by
  obtain ⟨q, hq, q', hq', he, hI⟩ := P_undo (n := (X.xs (i + 1)).toInt) h
  refine L_x1 hF hl dL_law_734 ?_
  refine L_arg hF hl hi hL dL_law_735 dL_law_736 dL_law_737 dL_law_738 dL_law_739 (by decide) rfl ?_
  refine L_call (b0 := 0) (us := [.inl (X.xs (i + 1)).toInt]) hF hl dL_law_740 (K_X1_undo ((X.xs (i + 1)).toInt) μ) hq (okS_i (toI_ok _) okS_n) hM l_L_82 yoL_82 rfl rfl rfl rfl (Nat.le_of_ble_eq_true rfl) (fun hM1 => ?_)
  refine L_x2 hF hl dL_law_743 ?_
  refine L_arg hF hl hi hL dL_law_744 dL_law_745 dL_law_746 dL_law_747 dL_law_748 (by decide) rfl ?_
  refine L_call (b0 := 60) (us := [.inl (X.xs (i + 1)).toInt]) hF hl dL_law_749 (K_X2_undo ((X.xs (i + 1)).toInt) q.2) hq' (okS_i (toI_ok _) okS_n) hM1 l_L_85 yoL_85 rfl rfl rfl rfl (Nat.le_of_ble_eq_true rfl) (fun hM2 => ?_)
  have fin : LAt X q'.2 752 ls [cv X.G (.inl q.1), cv X.G (.inl q.1)] := L_eqI (tgt := 1425) hF dL_law_752 (by decide) (kk _ hI hM2)
  show LAt X q'.2 752 ls [cv X.G (.inl q'.1), cv X.G (.inl q.1)]
  rw [he]
  exact fin
theorem case_keep {X : LC} {μ : Mem} {i : Nat} {ls : Array Slot} (hF : LFx X) (hl : lv_has ls 4 (lvs X i)) (hi : i + 6 ≤ X.L) (hL : X.L ≤ 3072) (h : Inv μ) (hM : okM μ) (kk : ∀ ν : Mem, Inv ν → okM ν → LAt X ν 1425 ls []) : LAt X μ 757 ls [] := by
  obtain ⟨q, hq, q', hq', he, hI⟩ := P_keep (k := (X.xs (i + 1)).toInt) h
  refine L_x1 hF hl dL_law_757 ?_
  refine L_arg hF hl hi hL dL_law_758 dL_law_759 dL_law_760 dL_law_761 dL_law_762 (by decide) rfl ?_
  refine L_call (b0 := 0) (us := [.inl (X.xs (i + 1)).toInt]) hF hl dL_law_763 (K_X1_keep ((X.xs (i + 1)).toInt) μ) hq (okS_i (toI_ok _) okS_n) hM l_L_86 yoL_86 rfl rfl rfl rfl (Nat.le_of_ble_eq_true rfl) (fun hM1 => ?_)
  refine L_x2 hF hl dL_law_766 ?_
  refine L_arg hF hl hi hL dL_law_767 dL_law_768 dL_law_769 dL_law_770 dL_law_771 (by decide) rfl ?_
  refine L_call (b0 := 60) (us := [.inl (X.xs (i + 1)).toInt]) hF hl dL_law_772 (K_X2_keep ((X.xs (i + 1)).toInt) q.2) hq' (okS_i (toI_ok _) okS_n) hM1 l_L_89 yoL_89 rfl rfl rfl rfl (Nat.le_of_ble_eq_true rfl) (fun hM2 => ?_)
  have fin : LAt X q'.2 775 ls [cv X.G (.inl q.1), cv X.G (.inl q.1)] := L_eqI (tgt := 1425) hF dL_law_775 (by decide) (kk _ hI hM2)
  show LAt X q'.2 775 ls [cv X.G (.inl q'.1), cv X.G (.inl q.1)]
  rw [he]
  exact fin
theorem case_on {X : LC} {μ : Mem} {i : Nat} {ls : Array Slot} (hF : LFx X) (hl : lv_has ls 4 (lvs X i)) (hi : i + 6 ≤ X.L) (hL : X.L ≤ 3072) (h : Inv μ) (hM : okM μ) (kk : ∀ ν : Mem, Inv ν → okM ν → LAt X ν 1425 ls []) : LAt X μ 780 ls [] := by
  obtain ⟨q, hq, q', hq', he, hI⟩ := P_on (k := (X.xs (i + 1)).toInt) h
  refine L_x1 hF hl dL_law_780 ?_
  refine L_arg hF hl hi hL dL_law_781 dL_law_782 dL_law_783 dL_law_784 dL_law_785 (by decide) rfl ?_
  refine L_call (b0 := 0) (us := [.inl (X.xs (i + 1)).toInt]) hF hl dL_law_786 (K_X1_on ((X.xs (i + 1)).toInt) μ) hq (okS_i (toI_ok _) okS_n) hM l_L_90 yoL_90 rfl rfl rfl rfl (Nat.le_of_ble_eq_true rfl) (fun hM1 => ?_)
  refine L_x2 hF hl dL_law_789 ?_
  refine L_arg hF hl hi hL dL_law_790 dL_law_791 dL_law_792 dL_law_793 dL_law_794 (by decide) rfl ?_
  refine L_call (b0 := 60) (us := [.inl (X.xs (i + 1)).toInt]) hF hl dL_law_795 (K_X2_on ((X.xs (i + 1)).toInt) q.2) hq' (okS_i (toI_ok _) okS_n) hM1 l_L_93 yoL_93 rfl rfl rfl rfl (Nat.le_of_ble_eq_true rfl) (fun hM2 => ?_)
  have fin : LAt X q'.2 798 ls [cv X.G (.inl q.1), cv X.G (.inl q.1)] := L_eqI (tgt := 1425) hF dL_law_798 (by decide) (kk _ hI hM2)
  show LAt X q'.2 798 ls [cv X.G (.inl q'.1), cv X.G (.inl q.1)]
  rw [he]
  exact fin
theorem case_dares {X : LC} {μ : Mem} {i : Nat} {ls : Array Slot} (hF : LFx X) (hl : lv_has ls 4 (lvs X i)) (hi : i + 6 ≤ X.L) (hL : X.L ≤ 3072) (h : Inv μ) (hM : okM μ) (kk : ∀ ν : Mem, Inv ν → okM ν → LAt X ν 1425 ls []) : LAt X μ 803 ls [] := by
  obtain ⟨q, hq, hq'⟩ := P_dares (i := (X.xs (i + 1)).toInt) (d := (X.xs (i + 2)).toInt) (n := (X.xs (i + 3)).toInt) (f := (X.xs (i + 4)).toInt) h
  refine L_x1 hF hl dL_law_803 ?_
  refine L_arg hF hl hi hL dL_law_804 dL_law_805 dL_law_806 dL_law_807 dL_law_808 (by decide) rfl ?_
  refine L_arg hF hl hi hL dL_law_809 dL_law_810 dL_law_811 dL_law_812 dL_law_813 (by decide) rfl ?_
  refine L_arg hF hl hi hL dL_law_814 dL_law_815 dL_law_816 dL_law_817 dL_law_818 (by decide) rfl ?_
  refine L_arg hF hl hi hL dL_law_819 dL_law_820 dL_law_821 dL_law_822 dL_law_823 (by decide) rfl ?_
  refine L_call (b0 := 0) (us := [.inl (X.xs (i + 1)).toInt, .inl (X.xs (i + 2)).toInt, .inl (X.xs (i + 3)).toInt, .inl (X.xs (i + 4)).toInt]) hF hl dL_law_824 (K_X1_dares ((X.xs (i + 1)).toInt) ((X.xs (i + 2)).toInt) ((X.xs (i + 3)).toInt) ((X.xs (i + 4)).toInt) μ) hq (okS_i (toI_ok _) (okS_i (toI_ok _) (okS_i (toI_ok _) (okS_i (toI_ok _) okS_n)))) hM l_L_94 yoL_94 rfl rfl rfl rfl (Nat.le_of_ble_eq_true rfl) (fun hM1 => ?_)
  refine L_x2 hF hl dL_law_827 ?_
  refine L_arg hF hl hi hL dL_law_828 dL_law_829 dL_law_830 dL_law_831 dL_law_832 (by decide) rfl ?_
  refine L_arg hF hl hi hL dL_law_833 dL_law_834 dL_law_835 dL_law_836 dL_law_837 (by decide) rfl ?_
  refine L_arg hF hl hi hL dL_law_838 dL_law_839 dL_law_840 dL_law_841 dL_law_842 (by decide) rfl ?_
  refine L_arg hF hl hi hL dL_law_843 dL_law_844 dL_law_845 dL_law_846 dL_law_847 (by decide) rfl ?_
  refine L_call (b0 := 60) (us := [.inl (X.xs (i + 1)).toInt, .inl (X.xs (i + 2)).toInt, .inl (X.xs (i + 3)).toInt, .inl (X.xs (i + 4)).toInt]) hF hl dL_law_848 (K_X2_dares ((X.xs (i + 1)).toInt) ((X.xs (i + 2)).toInt) ((X.xs (i + 3)).toInt) ((X.xs (i + 4)).toInt) μ) hq' (okS_i (toI_ok _) (okS_i (toI_ok _) (okS_i (toI_ok _) (okS_i (toI_ok _) okS_n)))) hM1 l_L_98 yoL_98 rfl rfl rfl rfl (Nat.le_of_ble_eq_true rfl) (fun hM2 => ?_)
  exact L_eqI (tgt := 1425) hF dL_law_851 (by decide) (kk _ h hM2)
theorem case_where {X : LC} {μ : Mem} {i : Nat} {ls : Array Slot} (hF : LFx X) (hl : lv_has ls 4 (lvs X i)) (hi : i + 6 ≤ X.L) (hL : X.L ≤ 3072) (h : Inv μ) (hM : okM μ) (kk : ∀ ν : Mem, Inv ν → okM ν → LAt X ν 1425 ls []) : LAt X μ 856 ls [] := by
  obtain ⟨q, hq, q', hq', he, hI⟩ := P_where (n := (X.xs (i + 1)).toInt) h
  refine L_x1 hF hl dL_law_856 ?_
  refine L_arg hF hl hi hL dL_law_857 dL_law_858 dL_law_859 dL_law_860 dL_law_861 (by decide) rfl ?_
  refine L_call (b0 := 0) (us := [.inl (X.xs (i + 1)).toInt]) hF hl dL_law_862 (K_X1_where ((X.xs (i + 1)).toInt) μ) hq (okS_i (toI_ok _) okS_n) hM l_L_99 yoL_99 rfl rfl rfl rfl (Nat.le_of_ble_eq_true rfl) (fun hM1 => ?_)
  refine L_x2 hF hl dL_law_865 ?_
  refine L_arg hF hl hi hL dL_law_866 dL_law_867 dL_law_868 dL_law_869 dL_law_870 (by decide) rfl ?_
  refine L_call (b0 := 60) (us := [.inl (X.xs (i + 1)).toInt]) hF hl dL_law_871 (K_X2_where ((X.xs (i + 1)).toInt) q.2) hq' (okS_i (toI_ok _) okS_n) hM1 l_L_102 yoL_102 rfl rfl rfl rfl (Nat.le_of_ble_eq_true rfl) (fun hM2 => ?_)
  have fin : LAt X q'.2 874 ls [cv X.G (.inl q.1), cv X.G (.inl q.1)] := L_eqI (tgt := 1425) hF dL_law_874 (by decide) (kk _ hI hM2)
  show LAt X q'.2 874 ls [cv X.G (.inl q'.1), cv X.G (.inl q.1)]
  rw [he]
  exact fin
theorem case_crosses {X : LC} {μ : Mem} {i : Nat} {ls : Array Slot} (hF : LFx X) (hl : lv_has ls 4 (lvs X i)) (hi : i + 6 ≤ X.L) (hL : X.L ≤ 3072) (h : Inv μ) (hM : okM μ) (kk : ∀ ν : Mem, Inv ν → okM ν → LAt X ν 1425 ls []) : LAt X μ 879 ls [] := by
  obtain ⟨q, hq, q', hq', he, hI⟩ := P_crosses (i := (X.xs (i + 1)).toInt) (n := (X.xs (i + 2)).toInt) h
  refine L_x1 hF hl dL_law_879 ?_
  refine L_arg hF hl hi hL dL_law_880 dL_law_881 dL_law_882 dL_law_883 dL_law_884 (by decide) rfl ?_
  refine L_arg hF hl hi hL dL_law_885 dL_law_886 dL_law_887 dL_law_888 dL_law_889 (by decide) rfl ?_
  refine L_call (b0 := 0) (us := [.inl (X.xs (i + 1)).toInt, .inl (X.xs (i + 2)).toInt]) hF hl dL_law_890 (K_X1_crosses ((X.xs (i + 1)).toInt) ((X.xs (i + 2)).toInt) μ) hq (okS_i (toI_ok _) (okS_i (toI_ok _) okS_n)) hM l_L_103 yoL_103 rfl rfl rfl rfl (Nat.le_of_ble_eq_true rfl) (fun hM1 => ?_)
  refine L_x2 hF hl dL_law_893 ?_
  refine L_arg hF hl hi hL dL_law_894 dL_law_895 dL_law_896 dL_law_897 dL_law_898 (by decide) rfl ?_
  refine L_arg hF hl hi hL dL_law_899 dL_law_900 dL_law_901 dL_law_902 dL_law_903 (by decide) rfl ?_
  refine L_call (b0 := 60) (us := [.inl (X.xs (i + 1)).toInt, .inl (X.xs (i + 2)).toInt]) hF hl dL_law_904 (K_X2_crosses ((X.xs (i + 1)).toInt) ((X.xs (i + 2)).toInt) q.2) hq' (okS_i (toI_ok _) (okS_i (toI_ok _) okS_n)) hM1 l_L_106 yoL_106 rfl rfl rfl rfl (Nat.le_of_ble_eq_true rfl) (fun hM2 => ?_)
  have fin : LAt X q'.2 907 ls [cv X.G (.inl q.1), cv X.G (.inl q.1)] := L_eqI (tgt := 1425) hF dL_law_907 (by decide) (kk _ hI hM2)
  show LAt X q'.2 907 ls [cv X.G (.inl q'.1), cv X.G (.inl q.1)]
  rw [he]
  exact fin
theorem case_first {X : LC} {μ : Mem} {i : Nat} {ls : Array Slot} (hF : LFx X) (hl : lv_has ls 4 (lvs X i)) (hi : i + 6 ≤ X.L) (hL : X.L ≤ 3072) (h : Inv μ) (hM : okM μ) (kk : ∀ ν : Mem, Inv ν → okM ν → LAt X ν 1425 ls []) : LAt X μ 912 ls [] := by
  obtain ⟨q, hq, q', hq', he, hI⟩ := P_first (i := (X.xs (i + 1)).toInt) h
  refine L_x1 hF hl dL_law_912 ?_
  refine L_arg hF hl hi hL dL_law_913 dL_law_914 dL_law_915 dL_law_916 dL_law_917 (by decide) rfl ?_
  refine L_call (b0 := 0) (us := [.inl (X.xs (i + 1)).toInt]) hF hl dL_law_918 (K_X1_first ((X.xs (i + 1)).toInt) μ) hq (okS_i (toI_ok _) okS_n) hM l_L_107 yoL_107 rfl rfl rfl rfl (Nat.le_of_ble_eq_true rfl) (fun hM1 => ?_)
  refine L_x2 hF hl dL_law_921 ?_
  refine L_arg hF hl hi hL dL_law_922 dL_law_923 dL_law_924 dL_law_925 dL_law_926 (by decide) rfl ?_
  refine L_call (b0 := 60) (us := [.inl (X.xs (i + 1)).toInt]) hF hl dL_law_927 (K_X2_first ((X.xs (i + 1)).toInt) q.2) hq' (okS_i (toI_ok _) okS_n) hM1 l_L_110 yoL_110 rfl rfl rfl rfl (Nat.le_of_ble_eq_true rfl) (fun hM2 => ?_)
  have fin : LAt X q'.2 930 ls [cv X.G (.inl q.1), cv X.G (.inl q.1)] := L_eqI (tgt := 1425) hF dL_law_930 (by decide) (kk _ hI hM2)
  show LAt X q'.2 930 ls [cv X.G (.inl q'.1), cv X.G (.inl q.1)]
  rw [he]
  exact fin
theorem case_lift {X : LC} {μ : Mem} {i : Nat} {ls : Array Slot} (hF : LFx X) (hl : lv_has ls 4 (lvs X i)) (hi : i + 6 ≤ X.L) (hL : X.L ≤ 3072) (h : Inv μ) (hM : okM μ) (kk : ∀ ν : Mem, Inv ν → okM ν → LAt X ν 1425 ls []) : LAt X μ 935 ls [] := by
  obtain ⟨q, hq, q', hq', he, hI⟩ := P_lift (i := (X.xs (i + 1)).toInt) (n := (X.xs (i + 2)).toInt) h
  refine L_x1 hF hl dL_law_935 ?_
  refine L_arg hF hl hi hL dL_law_936 dL_law_937 dL_law_938 dL_law_939 dL_law_940 (by decide) rfl ?_
  refine L_arg hF hl hi hL dL_law_941 dL_law_942 dL_law_943 dL_law_944 dL_law_945 (by decide) rfl ?_
  refine L_call (b0 := 0) (us := [.inl (X.xs (i + 1)).toInt, .inl (X.xs (i + 2)).toInt]) hF hl dL_law_946 (K_X1_lift ((X.xs (i + 1)).toInt) ((X.xs (i + 2)).toInt) μ) hq (okS_i (toI_ok _) (okS_i (toI_ok _) okS_n)) hM l_L_111 yoL_111 rfl rfl rfl rfl (Nat.le_of_ble_eq_true rfl) (fun hM1 => ?_)
  refine L_x2 hF hl dL_law_949 ?_
  refine L_arg hF hl hi hL dL_law_950 dL_law_951 dL_law_952 dL_law_953 dL_law_954 (by decide) rfl ?_
  refine L_arg hF hl hi hL dL_law_955 dL_law_956 dL_law_957 dL_law_958 dL_law_959 (by decide) rfl ?_
  refine L_call (b0 := 60) (us := [.inl (X.xs (i + 1)).toInt, .inl (X.xs (i + 2)).toInt]) hF hl dL_law_960 (K_X2_lift ((X.xs (i + 1)).toInt) ((X.xs (i + 2)).toInt) q.2) hq' (okS_i (toI_ok _) (okS_i (toI_ok _) okS_n)) hM1 l_L_114 yoL_114 rfl rfl rfl rfl (Nat.le_of_ble_eq_true rfl) (fun hM2 => ?_)
  have fin : LAt X q'.2 963 ls [cv X.G (.inl q.1), cv X.G (.inl q.1)] := L_eqI (tgt := 1425) hF dL_law_963 (by decide) (kk _ hI hM2)
  show LAt X q'.2 963 ls [cv X.G (.inl q'.1), cv X.G (.inl q.1)]
  rw [he]
  exact fin
theorem case_cheap {X : LC} {μ : Mem} {i : Nat} {ls : Array Slot} (hF : LFx X) (hl : lv_has ls 4 (lvs X i)) (hi : i + 6 ≤ X.L) (hL : X.L ≤ 3072) (h : Inv μ) (hM : okM μ) (kk : ∀ ν : Mem, Inv ν → okM ν → LAt X ν 1425 ls []) : LAt X μ 968 ls [] := by
  obtain ⟨q, hq, q', hq', he, hI⟩ := P_cheap (i := (X.xs (i + 1)).toInt) (r := (X.xs (i + 2)).toInt) h
  refine L_x1 hF hl dL_law_968 ?_
  refine L_arg hF hl hi hL dL_law_969 dL_law_970 dL_law_971 dL_law_972 dL_law_973 (by decide) rfl ?_
  refine L_arg hF hl hi hL dL_law_974 dL_law_975 dL_law_976 dL_law_977 dL_law_978 (by decide) rfl ?_
  refine L_call (b0 := 0) (us := [.inl (X.xs (i + 1)).toInt, .inl (X.xs (i + 2)).toInt]) hF hl dL_law_979 (K_X1_cheap ((X.xs (i + 1)).toInt) ((X.xs (i + 2)).toInt) μ) hq (okS_i (toI_ok _) (okS_i (toI_ok _) okS_n)) hM l_L_115 yoL_115 rfl rfl rfl rfl (Nat.le_of_ble_eq_true rfl) (fun hM1 => ?_)
  refine L_x2 hF hl dL_law_982 ?_
  refine L_arg hF hl hi hL dL_law_983 dL_law_984 dL_law_985 dL_law_986 dL_law_987 (by decide) rfl ?_
  refine L_arg hF hl hi hL dL_law_988 dL_law_989 dL_law_990 dL_law_991 dL_law_992 (by decide) rfl ?_
  refine L_call (b0 := 60) (us := [.inl (X.xs (i + 1)).toInt, .inl (X.xs (i + 2)).toInt]) hF hl dL_law_993 (K_X2_cheap ((X.xs (i + 1)).toInt) ((X.xs (i + 2)).toInt) q.2) hq' (okS_i (toI_ok _) (okS_i (toI_ok _) okS_n)) hM1 l_L_118 yoL_118 rfl rfl rfl rfl (Nat.le_of_ble_eq_true rfl) (fun hM2 => ?_)
  have fin : LAt X q'.2 996 ls [cv X.G (.inl q.1), cv X.G (.inl q.1)] := L_eqI (tgt := 1425) hF dL_law_996 (by decide) (kk _ hI hM2)
  show LAt X q'.2 996 ls [cv X.G (.inl q'.1), cv X.G (.inl q.1)]
  rw [he]
  exact fin
theorem case_darings {X : LC} {μ : Mem} {i : Nat} {ls : Array Slot} (hF : LFx X) (hl : lv_has ls 4 (lvs X i)) (hi : i + 6 ≤ X.L) (hL : X.L ≤ 3072) (h : Inv μ) (hM : okM μ) (kk : ∀ ν : Mem, Inv ν → okM ν → LAt X ν 1425 ls []) : LAt X μ 1001 ls [] := by
  obtain ⟨q, hq, q', hq', he, hI⟩ := P_darings (i := (X.xs (i + 1)).toInt) (r := (X.xs (i + 2)).toInt) h
  refine L_x1 hF hl dL_law_1001 ?_
  refine L_arg hF hl hi hL dL_law_1002 dL_law_1003 dL_law_1004 dL_law_1005 dL_law_1006 (by decide) rfl ?_
  refine L_arg hF hl hi hL dL_law_1007 dL_law_1008 dL_law_1009 dL_law_1010 dL_law_1011 (by decide) rfl ?_
  refine L_call (b0 := 0) (us := [.inl (X.xs (i + 1)).toInt, .inl (X.xs (i + 2)).toInt]) hF hl dL_law_1012 (K_X1_darings ((X.xs (i + 1)).toInt) ((X.xs (i + 2)).toInt) μ) hq (okS_i (toI_ok _) (okS_i (toI_ok _) okS_n)) hM l_L_119 yoL_119 rfl rfl rfl rfl (Nat.le_of_ble_eq_true rfl) (fun hM1 => ?_)
  refine L_x2 hF hl dL_law_1015 ?_
  refine L_arg hF hl hi hL dL_law_1016 dL_law_1017 dL_law_1018 dL_law_1019 dL_law_1020 (by decide) rfl ?_
  refine L_arg hF hl hi hL dL_law_1021 dL_law_1022 dL_law_1023 dL_law_1024 dL_law_1025 (by decide) rfl ?_
  refine L_call (b0 := 60) (us := [.inl (X.xs (i + 1)).toInt, .inl (X.xs (i + 2)).toInt]) hF hl dL_law_1026 (K_X2_darings ((X.xs (i + 1)).toInt) ((X.xs (i + 2)).toInt) q.2) hq' (okS_i (toI_ok _) (okS_i (toI_ok _) okS_n)) hM1 l_L_122 yoL_122 rfl rfl rfl rfl (Nat.le_of_ble_eq_true rfl) (fun hM2 => ?_)
  have fin : LAt X q'.2 1029 ls [cv X.G (.inl q.1), cv X.G (.inl q.1)] := L_eqI (tgt := 1425) hF dL_law_1029 (by decide) (kk _ hI hM2)
  show LAt X q'.2 1029 ls [cv X.G (.inl q'.1), cv X.G (.inl q.1)]
  rw [he]
  exact fin
theorem case_kinds {X : LC} {μ : Mem} {i : Nat} {ls : Array Slot} (hF : LFx X) (hl : lv_has ls 4 (lvs X i)) (hi : i + 6 ≤ X.L) (hL : X.L ≤ 3072) (h : Inv μ) (hM : okM μ) (kk : ∀ ν : Mem, Inv ν → okM ν → LAt X ν 1425 ls []) : LAt X μ 1034 ls [] := by
  obtain ⟨q, hq, q', hq', he, hI⟩ := P_kinds (i := (X.xs (i + 1)).toInt) (r := (X.xs (i + 2)).toInt) h
  refine L_x1 hF hl dL_law_1034 ?_
  refine L_arg hF hl hi hL dL_law_1035 dL_law_1036 dL_law_1037 dL_law_1038 dL_law_1039 (by decide) rfl ?_
  refine L_arg hF hl hi hL dL_law_1040 dL_law_1041 dL_law_1042 dL_law_1043 dL_law_1044 (by decide) rfl ?_
  refine L_call (b0 := 0) (us := [.inl (X.xs (i + 1)).toInt, .inl (X.xs (i + 2)).toInt]) hF hl dL_law_1045 (K_X1_kinds ((X.xs (i + 1)).toInt) ((X.xs (i + 2)).toInt) μ) hq (okS_i (toI_ok _) (okS_i (toI_ok _) okS_n)) hM l_L_123 yoL_123 rfl rfl rfl rfl (Nat.le_of_ble_eq_true rfl) (fun hM1 => ?_)
  refine L_x2 hF hl dL_law_1048 ?_
  refine L_arg hF hl hi hL dL_law_1049 dL_law_1050 dL_law_1051 dL_law_1052 dL_law_1053 (by decide) rfl ?_
  refine L_arg hF hl hi hL dL_law_1054 dL_law_1055 dL_law_1056 dL_law_1057 dL_law_1058 (by decide) rfl ?_
  refine L_call (b0 := 60) (us := [.inl (X.xs (i + 1)).toInt, .inl (X.xs (i + 2)).toInt]) hF hl dL_law_1059 (K_X2_kinds ((X.xs (i + 1)).toInt) ((X.xs (i + 2)).toInt) q.2) hq' (okS_i (toI_ok _) (okS_i (toI_ok _) okS_n)) hM1 l_L_126 yoL_126 rfl rfl rfl rfl (Nat.le_of_ble_eq_true rfl) (fun hM2 => ?_)
  have fin : LAt X q'.2 1062 ls [cv X.G (.inl q.1), cv X.G (.inl q.1)] := L_eqI (tgt := 1425) hF dL_law_1062 (by decide) (kk _ hI hM2)
  show LAt X q'.2 1062 ls [cv X.G (.inl q'.1), cv X.G (.inl q.1)]
  rw [he]
  exact fin
theorem case_look {X : LC} {μ : Mem} {i : Nat} {ls : Array Slot} (hF : LFx X) (hl : lv_has ls 4 (lvs X i)) (hi : i + 6 ≤ X.L) (hL : X.L ≤ 3072) (h : Inv μ) (hM : okM μ) (kk : ∀ ν : Mem, Inv ν → okM ν → LAt X ν 1425 ls []) : LAt X μ 1067 ls [] := by
  obtain ⟨q, hq, q', hq', he, hI⟩ := P_look (i := (X.xs (i + 1)).toInt) (r := (X.xs (i + 2)).toInt) h
  refine L_x1 hF hl dL_law_1067 ?_
  refine L_arg hF hl hi hL dL_law_1068 dL_law_1069 dL_law_1070 dL_law_1071 dL_law_1072 (by decide) rfl ?_
  refine L_arg hF hl hi hL dL_law_1073 dL_law_1074 dL_law_1075 dL_law_1076 dL_law_1077 (by decide) rfl ?_
  refine L_call (b0 := 0) (us := [.inl (X.xs (i + 1)).toInt, .inl (X.xs (i + 2)).toInt]) hF hl dL_law_1078 (K_X1_look ((X.xs (i + 1)).toInt) ((X.xs (i + 2)).toInt) μ) hq (okS_i (toI_ok _) (okS_i (toI_ok _) okS_n)) hM l_L_127 yoL_127 rfl rfl rfl rfl (Nat.le_of_ble_eq_true rfl) (fun hM1 => ?_)
  refine L_x2 hF hl dL_law_1081 ?_
  refine L_arg hF hl hi hL dL_law_1082 dL_law_1083 dL_law_1084 dL_law_1085 dL_law_1086 (by decide) rfl ?_
  refine L_arg hF hl hi hL dL_law_1087 dL_law_1088 dL_law_1089 dL_law_1090 dL_law_1091 (by decide) rfl ?_
  refine L_call (b0 := 60) (us := [.inl (X.xs (i + 1)).toInt, .inl (X.xs (i + 2)).toInt]) hF hl dL_law_1092 (K_X2_look ((X.xs (i + 1)).toInt) ((X.xs (i + 2)).toInt) q.2) hq' (okS_i (toI_ok _) (okS_i (toI_ok _) okS_n)) hM1 l_L_130 yoL_130 rfl rfl rfl rfl (Nat.le_of_ble_eq_true rfl) (fun hM2 => ?_)
  have fin : LAt X q'.2 1095 ls [cv X.G (.inl q.1), cv X.G (.inl q.1)] := L_eqI (tgt := 1425) hF dL_law_1095 (by decide) (kk _ hI hM2)
  show LAt X q'.2 1095 ls [cv X.G (.inl q'.1), cv X.G (.inl q.1)]
  rw [he]
  exact fin
theorem case_sets {X : LC} {μ : Mem} {i : Nat} {ls : Array Slot} (hF : LFx X) (hl : lv_has ls 4 (lvs X i)) (hi : i + 6 ≤ X.L) (hL : X.L ≤ 3072) (h : Inv μ) (hM : okM μ) (kk : ∀ ν : Mem, Inv ν → okM ν → LAt X ν 1425 ls []) : LAt X μ 1100 ls [] := by
  obtain ⟨q, hq, q', hq', he, hI⟩ := P_sets (v := (X.xs (i + 1)).toInt) h
  refine L_x1 hF hl dL_law_1100 ?_
  refine L_arg hF hl hi hL dL_law_1101 dL_law_1102 dL_law_1103 dL_law_1104 dL_law_1105 (by decide) rfl ?_
  refine L_call (b0 := 0) (us := [.inl (X.xs (i + 1)).toInt]) hF hl dL_law_1106 (K_X1_sets ((X.xs (i + 1)).toInt) μ) hq (okS_i (toI_ok _) okS_n) hM l_L_131 yoL_131 rfl rfl rfl rfl (Nat.le_of_ble_eq_true rfl) (fun hM1 => ?_)
  refine L_x2 hF hl dL_law_1109 ?_
  refine L_arg hF hl hi hL dL_law_1110 dL_law_1111 dL_law_1112 dL_law_1113 dL_law_1114 (by decide) rfl ?_
  refine L_call (b0 := 60) (us := [.inl (X.xs (i + 1)).toInt]) hF hl dL_law_1115 (K_X2_sets ((X.xs (i + 1)).toInt) q.2) hq' (okS_i (toI_ok _) okS_n) hM1 l_L_134 yoL_134 rfl rfl rfl rfl (Nat.le_of_ble_eq_true rfl) (fun hM2 => ?_)
  have fin : LAt X q'.2 1118 ls [cv X.G (.inl q.1), cv X.G (.inl q.1)] := L_eqI (tgt := 1425) hF dL_law_1118 (by decide) (kk _ hI hM2)
  show LAt X q'.2 1118 ls [cv X.G (.inl q'.1), cv X.G (.inl q.1)]
  rw [he]
  exact fin
theorem case_sure {X : LC} {μ : Mem} {i : Nat} {ls : Array Slot} (hF : LFx X) (hl : lv_has ls 4 (lvs X i)) (hi : i + 6 ≤ X.L) (hL : X.L ≤ 3072) (h : Inv μ) (hM : okM μ) (kk : ∀ ν : Mem, Inv ν → okM ν → LAt X ν 1425 ls []) : LAt X μ 1123 ls [] := by
  obtain ⟨q, hq, q', hq', he, hI⟩ := P_sure (v := (X.xs (i + 1)).toInt) h
  refine L_x1 hF hl dL_law_1123 ?_
  refine L_arg hF hl hi hL dL_law_1124 dL_law_1125 dL_law_1126 dL_law_1127 dL_law_1128 (by decide) rfl ?_
  refine L_call (b0 := 0) (us := [.inl (X.xs (i + 1)).toInt]) hF hl dL_law_1129 (K_X1_sure ((X.xs (i + 1)).toInt) μ) hq (okS_i (toI_ok _) okS_n) hM l_L_135 yoL_135 rfl rfl rfl rfl (Nat.le_of_ble_eq_true rfl) (fun hM1 => ?_)
  refine L_x2 hF hl dL_law_1132 ?_
  refine L_arg hF hl hi hL dL_law_1133 dL_law_1134 dL_law_1135 dL_law_1136 dL_law_1137 (by decide) rfl ?_
  refine L_call (b0 := 60) (us := [.inl (X.xs (i + 1)).toInt]) hF hl dL_law_1138 (K_X2_sure ((X.xs (i + 1)).toInt) q.2) hq' (okS_i (toI_ok _) okS_n) hM1 l_L_138 yoL_138 rfl rfl rfl rfl (Nat.le_of_ble_eq_true rfl) (fun hM2 => ?_)
  have fin : LAt X q'.2 1141 ls [cv X.G (.inl q.1), cv X.G (.inl q.1)] := L_eqI (tgt := 1425) hF dL_law_1141 (by decide) (kk _ hI hM2)
  show LAt X q'.2 1141 ls [cv X.G (.inl q'.1), cv X.G (.inl q.1)]
  rw [he]
  exact fin
theorem case_duel {X : LC} {μ : Mem} {i : Nat} {ls : Array Slot} (hF : LFx X) (hl : lv_has ls 4 (lvs X i)) (hi : i + 6 ≤ X.L) (hL : X.L ≤ 3072) (h : Inv μ) (hM : okM μ) (kk : ∀ ν : Mem, Inv ν → okM ν → LAt X ν 1425 ls []) : LAt X μ 1146 ls [] := by
  obtain ⟨q, hq, q', hq', he, hI⟩ := P_duel (i := (X.xs (i + 1)).toInt) (j := (X.xs (i + 2)).toInt) (n := (X.xs (i + 3)).toInt) h
  refine L_x1 hF hl dL_law_1146 ?_
  refine L_arg hF hl hi hL dL_law_1147 dL_law_1148 dL_law_1149 dL_law_1150 dL_law_1151 (by decide) rfl ?_
  refine L_arg hF hl hi hL dL_law_1152 dL_law_1153 dL_law_1154 dL_law_1155 dL_law_1156 (by decide) rfl ?_
  refine L_arg hF hl hi hL dL_law_1157 dL_law_1158 dL_law_1159 dL_law_1160 dL_law_1161 (by decide) rfl ?_
  refine L_call (b0 := 0) (us := [.inl (X.xs (i + 1)).toInt, .inl (X.xs (i + 2)).toInt, .inl (X.xs (i + 3)).toInt]) hF hl dL_law_1162 (K_X1_duel ((X.xs (i + 1)).toInt) ((X.xs (i + 2)).toInt) ((X.xs (i + 3)).toInt) μ) hq (okS_i (toI_ok _) (okS_i (toI_ok _) (okS_i (toI_ok _) okS_n))) hM l_L_139 yoL_139 rfl rfl rfl rfl (Nat.le_of_ble_eq_true rfl) (fun hM1 => ?_)
  refine L_x2 hF hl dL_law_1165 ?_
  refine L_arg hF hl hi hL dL_law_1166 dL_law_1167 dL_law_1168 dL_law_1169 dL_law_1170 (by decide) rfl ?_
  refine L_arg hF hl hi hL dL_law_1171 dL_law_1172 dL_law_1173 dL_law_1174 dL_law_1175 (by decide) rfl ?_
  refine L_arg hF hl hi hL dL_law_1176 dL_law_1177 dL_law_1178 dL_law_1179 dL_law_1180 (by decide) rfl ?_
  refine L_call (b0 := 60) (us := [.inl (X.xs (i + 1)).toInt, .inl (X.xs (i + 2)).toInt, .inl (X.xs (i + 3)).toInt]) hF hl dL_law_1181 (K_X2_duel ((X.xs (i + 1)).toInt) ((X.xs (i + 2)).toInt) ((X.xs (i + 3)).toInt) q.2) hq' (okS_i (toI_ok _) (okS_i (toI_ok _) (okS_i (toI_ok _) okS_n))) hM1 l_L_142 yoL_142 rfl rfl rfl rfl (Nat.le_of_ble_eq_true rfl) (fun hM2 => ?_)
  have fin : LAt X q'.2 1184 ls [cv X.G (.inl q.1), cv X.G (.inl q.1)] := L_eqI (tgt := 1425) hF dL_law_1184 (by decide) (kk _ hI hM2)
  show LAt X q'.2 1184 ls [cv X.G (.inl q'.1), cv X.G (.inl q.1)]
  rw [he]
  exact fin
theorem case_odds {X : LC} {μ : Mem} {i : Nat} {ls : Array Slot} (hF : LFx X) (hl : lv_has ls 4 (lvs X i)) (hi : i + 6 ≤ X.L) (hL : X.L ≤ 3072) (h : Inv μ) (hM : okM μ) (kk : ∀ ν : Mem, Inv ν → okM ν → LAt X ν 1425 ls []) : LAt X μ 1189 ls [] := by
  obtain ⟨q, hq, q', hq', he, hI⟩ := P_odds (i := (X.xs (i + 1)).toInt) (p := (X.xs (i + 2)).toInt) h
  refine L_x1 hF hl dL_law_1189 ?_
  refine L_arg hF hl hi hL dL_law_1190 dL_law_1191 dL_law_1192 dL_law_1193 dL_law_1194 (by decide) rfl ?_
  refine L_arg hF hl hi hL dL_law_1195 dL_law_1196 dL_law_1197 dL_law_1198 dL_law_1199 (by decide) rfl ?_
  refine L_call (b0 := 0) (us := [.inl (X.xs (i + 1)).toInt, .inl (X.xs (i + 2)).toInt]) hF hl dL_law_1200 (K_X1_odds ((X.xs (i + 1)).toInt) ((X.xs (i + 2)).toInt) μ) hq (okS_i (toI_ok _) (okS_i (toI_ok _) okS_n)) hM l_L_143 yoL_143 rfl rfl rfl rfl (Nat.le_of_ble_eq_true rfl) (fun hM1 => ?_)
  refine L_x2 hF hl dL_law_1203 ?_
  refine L_arg hF hl hi hL dL_law_1204 dL_law_1205 dL_law_1206 dL_law_1207 dL_law_1208 (by decide) rfl ?_
  refine L_arg hF hl hi hL dL_law_1209 dL_law_1210 dL_law_1211 dL_law_1212 dL_law_1213 (by decide) rfl ?_
  refine L_call (b0 := 60) (us := [.inl (X.xs (i + 1)).toInt, .inl (X.xs (i + 2)).toInt]) hF hl dL_law_1214 (K_X2_odds ((X.xs (i + 1)).toInt) ((X.xs (i + 2)).toInt) q.2) hq' (okS_i (toI_ok _) (okS_i (toI_ok _) okS_n)) hM1 l_L_146 yoL_146 rfl rfl rfl rfl (Nat.le_of_ble_eq_true rfl) (fun hM2 => ?_)
  have fin : LAt X q'.2 1217 ls [cv X.G (.inl q.1), cv X.G (.inl q.1)] := L_eqI (tgt := 1425) hF dL_law_1217 (by decide) (kk _ hI hM2)
  show LAt X q'.2 1217 ls [cv X.G (.inl q'.1), cv X.G (.inl q.1)]
  rw [he]
  exact fin
theorem case_mid {X : LC} {μ : Mem} {i : Nat} {ls : Array Slot} (hF : LFx X) (hl : lv_has ls 4 (lvs X i)) (hi : i + 6 ≤ X.L) (hL : X.L ≤ 3072) (h : Inv μ) (hM : okM μ) (kk : ∀ ν : Mem, Inv ν → okM ν → LAt X ν 1425 ls []) : LAt X μ 1222 ls [] := by
  obtain ⟨q, hq, q', hq', he, hI⟩ := P_mid (x := (X.xs (i + 1)).toInt) (p := (X.xs (i + 2)).toInt) h
  refine L_x1 hF hl dL_law_1222 ?_
  refine L_arg hF hl hi hL dL_law_1223 dL_law_1224 dL_law_1225 dL_law_1226 dL_law_1227 (by decide) rfl ?_
  refine L_arg hF hl hi hL dL_law_1228 dL_law_1229 dL_law_1230 dL_law_1231 dL_law_1232 (by decide) rfl ?_
  refine L_call (b0 := 0) (us := [.inl (X.xs (i + 1)).toInt, .inl (X.xs (i + 2)).toInt]) hF hl dL_law_1233 (K_X1_mid ((X.xs (i + 1)).toInt) ((X.xs (i + 2)).toInt) μ) hq (okS_i (toI_ok _) (okS_i (toI_ok _) okS_n)) hM l_L_147 yoL_147 rfl rfl rfl rfl (Nat.le_of_ble_eq_true rfl) (fun hM1 => ?_)
  refine L_x2 hF hl dL_law_1236 ?_
  refine L_arg hF hl hi hL dL_law_1237 dL_law_1238 dL_law_1239 dL_law_1240 dL_law_1241 (by decide) rfl ?_
  refine L_arg hF hl hi hL dL_law_1242 dL_law_1243 dL_law_1244 dL_law_1245 dL_law_1246 (by decide) rfl ?_
  refine L_call (b0 := 60) (us := [.inl (X.xs (i + 1)).toInt, .inl (X.xs (i + 2)).toInt]) hF hl dL_law_1247 (K_X2_mid ((X.xs (i + 1)).toInt) ((X.xs (i + 2)).toInt) q.2) hq' (okS_i (toI_ok _) (okS_i (toI_ok _) okS_n)) hM1 l_L_150 yoL_150 rfl rfl rfl rfl (Nat.le_of_ble_eq_true rfl) (fun hM2 => ?_)
  have fin : LAt X q'.2 1250 ls [cv X.G (.inl q.1), cv X.G (.inl q.1)] := L_eqI (tgt := 1425) hF dL_law_1250 (by decide) (kk _ hI hM2)
  show LAt X q'.2 1250 ls [cv X.G (.inl q'.1), cv X.G (.inl q.1)]
  rw [he]
  exact fin
theorem case_fair {X : LC} {μ : Mem} {i : Nat} {ls : Array Slot} (hF : LFx X) (hl : lv_has ls 4 (lvs X i)) (hi : i + 6 ≤ X.L) (hL : X.L ≤ 3072) (h : Inv μ) (hM : okM μ) (kk : ∀ ν : Mem, Inv ν → okM ν → LAt X ν 1425 ls []) : LAt X μ 1255 ls [] := by
  obtain ⟨q, hq, q', hq', he, hI⟩ := P_fair (p := (X.xs (i + 1)).toInt) h
  refine L_x1 hF hl dL_law_1255 ?_
  refine L_arg hF hl hi hL dL_law_1256 dL_law_1257 dL_law_1258 dL_law_1259 dL_law_1260 (by decide) rfl ?_
  refine L_call (b0 := 0) (us := [.inl (X.xs (i + 1)).toInt]) hF hl dL_law_1261 (K_X1_fair ((X.xs (i + 1)).toInt) μ) hq (okS_i (toI_ok _) okS_n) hM l_L_151 yoL_151 rfl rfl rfl rfl (Nat.le_of_ble_eq_true rfl) (fun hM1 => ?_)
  refine L_x2 hF hl dL_law_1264 ?_
  refine L_arg hF hl hi hL dL_law_1265 dL_law_1266 dL_law_1267 dL_law_1268 dL_law_1269 (by decide) rfl ?_
  refine L_call (b0 := 60) (us := [.inl (X.xs (i + 1)).toInt]) hF hl dL_law_1270 (K_X2_fair ((X.xs (i + 1)).toInt) q.2) hq' (okS_i (toI_ok _) okS_n) hM1 l_L_154 yoL_154 rfl rfl rfl rfl (Nat.le_of_ble_eq_true rfl) (fun hM2 => ?_)
  have fin : LAt X q'.2 1273 ls [cv X.G (.inl q.1), cv X.G (.inl q.1)] := L_eqI (tgt := 1425) hF dL_law_1273 (by decide) (kk _ hI hM2)
  show LAt X q'.2 1273 ls [cv X.G (.inl q'.1), cv X.G (.inl q.1)]
  rw [he]
  exact fin
theorem case_lots {X : LC} {μ : Mem} {i : Nat} {ls : Array Slot} (hF : LFx X) (hl : lv_has ls 4 (lvs X i)) (hi : i + 6 ≤ X.L) (hL : X.L ≤ 3072) (h : Inv μ) (hM : okM μ) (kk : ∀ ν : Mem, Inv ν → okM ν → LAt X ν 1425 ls []) : LAt X μ 1278 ls [] := by
  obtain ⟨q, hq, q', hq', he, hI⟩ := P_lots (n := (X.xs (i + 1)).toInt) (seed := (X.xs (i + 2)).toInt) h
  refine L_x1 hF hl dL_law_1278 ?_
  refine L_arg hF hl hi hL dL_law_1279 dL_law_1280 dL_law_1281 dL_law_1282 dL_law_1283 (by decide) rfl ?_
  refine L_arg hF hl hi hL dL_law_1284 dL_law_1285 dL_law_1286 dL_law_1287 dL_law_1288 (by decide) rfl ?_
  refine L_call (b0 := 0) (us := [.inl (X.xs (i + 1)).toInt, .inl (X.xs (i + 2)).toInt]) hF hl dL_law_1289 (K_X1_lots ((X.xs (i + 1)).toInt) ((X.xs (i + 2)).toInt) μ) hq (okS_i (toI_ok _) (okS_i (toI_ok _) okS_n)) hM l_L_155 yoL_155 rfl rfl rfl rfl (Nat.le_of_ble_eq_true rfl) (fun hM1 => ?_)
  refine L_x2 hF hl dL_law_1292 ?_
  refine L_arg hF hl hi hL dL_law_1293 dL_law_1294 dL_law_1295 dL_law_1296 dL_law_1297 (by decide) rfl ?_
  refine L_arg hF hl hi hL dL_law_1298 dL_law_1299 dL_law_1300 dL_law_1301 dL_law_1302 (by decide) rfl ?_
  refine L_call (b0 := 60) (us := [.inl (X.xs (i + 1)).toInt, .inl (X.xs (i + 2)).toInt]) hF hl dL_law_1303 (K_X2_lots ((X.xs (i + 1)).toInt) ((X.xs (i + 2)).toInt) q.2) hq' (okS_i (toI_ok _) (okS_i (toI_ok _) okS_n)) hM1 l_L_158 yoL_158 rfl rfl rfl rfl (Nat.le_of_ble_eq_true rfl) (fun hM2 => ?_)
  have fin : LAt X q'.2 1306 ls [cv X.G (.inl q.1), cv X.G (.inl q.1)] := L_eqI (tgt := 1425) hF dL_law_1306 (by decide) (kk _ hI hM2)
  show LAt X q'.2 1306 ls [cv X.G (.inl q'.1), cv X.G (.inl q.1)]
  rw [he]
  exact fin
theorem case_asked {X : LC} {μ : Mem} {i : Nat} {ls : Array Slot} (hF : LFx X) (hl : lv_has ls 4 (lvs X i)) (hi : i + 6 ≤ X.L) (hL : X.L ≤ 3072) (h : Inv μ) (hM : okM μ) (kk : ∀ ν : Mem, Inv ν → okM ν → LAt X ν 1425 ls []) : LAt X μ 1311 ls [] := by
  obtain ⟨q, hq, hq'⟩ := P_asked  h
  refine L_x1 hF hl dL_law_1311 ?_
  refine L_call (b0 := 0) (us := []) hF hl dL_law_1312 (K_X1_asked  μ) hq okS_n hM l_L_159 yoL_159 rfl rfl rfl rfl (Nat.le_of_ble_eq_true rfl) (fun hM1 => ?_)
  refine L_x2 hF hl dL_law_1315 ?_
  refine L_call (b0 := 60) (us := []) hF hl dL_law_1316 (K_X2_asked  μ) hq' okS_n hM1 l_L_162 yoL_162 rfl rfl rfl rfl (Nat.le_of_ble_eq_true rfl) (fun hM2 => ?_)
  exact L_eqI (tgt := 1425) hF dL_law_1319 (by decide) (kk _ h hM2)
theorem case_upper {X : LC} {μ : Mem} {i : Nat} {ls : Array Slot} (hF : LFx X) (hl : lv_has ls 4 (lvs X i)) (hi : i + 6 ≤ X.L) (hL : X.L ≤ 3072) (h : Inv μ) (hM : okM μ) (kk : ∀ ν : Mem, Inv ν → okM ν → LAt X ν 1425 ls []) : LAt X μ 1324 ls [] := by
  obtain ⟨q, hq, hq'⟩ := P_upper  h
  refine L_x1 hF hl dL_law_1324 ?_
  refine L_call (b0 := 0) (us := []) hF hl dL_law_1325 (K_X1_upper  μ) hq okS_n hM l_L_163 yoL_163 rfl rfl rfl rfl (Nat.le_of_ble_eq_true rfl) (fun hM1 => ?_)
  refine L_x2 hF hl dL_law_1328 ?_
  refine L_call (b0 := 60) (us := []) hF hl dL_law_1329 (K_X2_upper  μ) hq' okS_n hM1 l_L_167 yoL_167 rfl rfl rfl rfl (Nat.le_of_ble_eq_true rfl) (fun hM2 => ?_)
  exact L_eqL (tgt := 1425) hF dL_law_1332 dL_law_1333 (by decide) (kk _ h hM2)
theorem case_lower {X : LC} {μ : Mem} {i : Nat} {ls : Array Slot} (hF : LFx X) (hl : lv_has ls 4 (lvs X i)) (hi : i + 6 ≤ X.L) (hL : X.L ≤ 3072) (h : Inv μ) (hM : okM μ) (kk : ∀ ν : Mem, Inv ν → okM ν → LAt X ν 1425 ls []) : LAt X μ 1338 ls [] := by
  obtain ⟨q, hq, hq'⟩ := P_lower  h
  refine L_x1 hF hl dL_law_1338 ?_
  refine L_call (b0 := 0) (us := []) hF hl dL_law_1339 (K_X1_lower  μ) hq okS_n hM l_L_168 yoL_168 rfl rfl rfl rfl (Nat.le_of_ble_eq_true rfl) (fun hM1 => ?_)
  refine L_x2 hF hl dL_law_1342 ?_
  refine L_call (b0 := 60) (us := []) hF hl dL_law_1343 (K_X2_lower  μ) hq' okS_n hM1 l_L_171 yoL_171 rfl rfl rfl rfl (Nat.le_of_ble_eq_true rfl) (fun hM2 => ?_)
  exact L_eqL (tgt := 1425) hF dL_law_1346 dL_law_1347 (by decide) (kk _ h hM2)
theorem case_count {X : LC} {μ : Mem} {i : Nat} {ls : Array Slot} (hF : LFx X) (hl : lv_has ls 4 (lvs X i)) (hi : i + 6 ≤ X.L) (hL : X.L ≤ 3072) (h : Inv μ) (hM : okM μ) (kk : ∀ ν : Mem, Inv ν → okM ν → LAt X ν 1425 ls []) : LAt X μ 1352 ls [] := by
  obtain ⟨q, hq, hq'⟩ := P_count (w := (X.xs (i + 1)).toInt) h
  refine L_x1 hF hl dL_law_1352 ?_
  refine L_arg hF hl hi hL dL_law_1353 dL_law_1354 dL_law_1355 dL_law_1356 dL_law_1357 (by decide) rfl ?_
  refine L_call (b0 := 0) (us := [.inl (X.xs (i + 1)).toInt]) hF hl dL_law_1358 (K_X1_count ((X.xs (i + 1)).toInt) μ) hq (okS_i (toI_ok _) okS_n) hM l_L_172 yoL_172 rfl rfl rfl rfl (Nat.le_of_ble_eq_true rfl) (fun hM1 => ?_)
  refine L_x2 hF hl dL_law_1361 ?_
  refine L_arg hF hl hi hL dL_law_1362 dL_law_1363 dL_law_1364 dL_law_1365 dL_law_1366 (by decide) rfl ?_
  refine L_call (b0 := 60) (us := [.inl (X.xs (i + 1)).toInt]) hF hl dL_law_1367 (K_X2_count ((X.xs (i + 1)).toInt) μ) hq' (okS_i (toI_ok _) okS_n) hM1 l_L_175 yoL_175 rfl rfl rfl rfl (Nat.le_of_ble_eq_true rfl) (fun hM2 => ?_)
  exact L_eqI (tgt := 1425) hF dL_law_1370 (by decide) (kk _ h hM2)
theorem case_finding {X : LC} {μ : Mem} {i : Nat} {ls : Array Slot} (hF : LFx X) (hl : lv_has ls 4 (lvs X i)) (hi : i + 6 ≤ X.L) (hL : X.L ≤ 3072) (h : Inv μ) (hM : okM μ) (kk : ∀ ν : Mem, Inv ν → okM ν → LAt X ν 1425 ls []) : LAt X μ 1375 ls [] := by
  obtain ⟨q, hq, hq'⟩ := P_finding  h
  refine L_x1 hF hl dL_law_1375 ?_
  refine L_call (b0 := 0) (us := []) hF hl dL_law_1376 (K_X1_finding  μ) hq okS_n hM l_L_176 yoL_176 rfl rfl rfl rfl (Nat.le_of_ble_eq_true rfl) (fun hM1 => ?_)
  refine L_x2 hF hl dL_law_1379 ?_
  refine L_call (b0 := 60) (us := []) hF hl dL_law_1380 (K_X2_finding  μ) hq' okS_n hM1 l_L_179 yoL_179 rfl rfl rfl rfl (Nat.le_of_ble_eq_true rfl) (fun hM2 => ?_)
  exact L_eqI (tgt := 1425) hF dL_law_1383 (by decide) (kk _ h hM2)
theorem case_findings {X : LC} {μ : Mem} {i : Nat} {ls : Array Slot} (hF : LFx X) (hl : lv_has ls 4 (lvs X i)) (hi : i + 6 ≤ X.L) (hL : X.L ≤ 3072) (h : Inv μ) (hM : okM μ) (kk : ∀ ν : Mem, Inv ν → okM ν → LAt X ν 1425 ls []) : LAt X μ 1388 ls [] := by
  obtain ⟨q, hq, hq'⟩ := P_findings (f := (X.xs (i + 1)).toInt) h
  refine L_x1 hF hl dL_law_1388 ?_
  refine L_arg hF hl hi hL dL_law_1389 dL_law_1390 dL_law_1391 dL_law_1392 dL_law_1393 (by decide) rfl ?_
  refine L_call (b0 := 0) (us := [.inl (X.xs (i + 1)).toInt]) hF hl dL_law_1394 (K_X1_findings ((X.xs (i + 1)).toInt) μ) hq (okS_i (toI_ok _) okS_n) hM l_L_180 yoL_180 rfl rfl rfl rfl (Nat.le_of_ble_eq_true rfl) (fun hM1 => ?_)
  refine L_x2 hF hl dL_law_1397 ?_
  refine L_arg hF hl hi hL dL_law_1398 dL_law_1399 dL_law_1400 dL_law_1401 dL_law_1402 (by decide) rfl ?_
  refine L_call (b0 := 60) (us := [.inl (X.xs (i + 1)).toInt]) hF hl dL_law_1403 (K_X2_findings ((X.xs (i + 1)).toInt) μ) hq' (okS_i (toI_ok _) okS_n) hM1 l_L_183 yoL_183 rfl rfl rfl rfl (Nat.le_of_ble_eq_true rfl) (fun hM2 => ?_)
  exact L_eqI (tgt := 1425) hF dL_law_1406 (by decide) (kk _ h hM2)
theorem case_digest {X : LC} {μ : Mem} {i : Nat} {ls : Array Slot} (hF : LFx X) (hl : lv_has ls 4 (lvs X i)) (hi : i + 6 ≤ X.L) (hL : X.L ≤ 3072) (h : Inv μ) (hM : okM μ) (kk : ∀ ν : Mem, Inv ν → okM ν → LAt X ν 1425 ls []) : LAt X μ 1411 ls [] := by
  obtain ⟨q, hq, hq'⟩ := P_digest  h
  refine L_x1 hF hl dL_law_1411 ?_
  refine L_call (b0 := 0) (us := []) hF hl dL_law_1412 (K_X1_digest  μ) hq okS_n hM l_L_184 yoL_184 rfl rfl rfl rfl (Nat.le_of_ble_eq_true rfl) (fun hM1 => ?_)
  refine L_x2 hF hl dL_law_1415 ?_
  refine L_call (b0 := 60) (us := []) hF hl dL_law_1416 (K_X2_digest  μ) hq' okS_n hM1 l_L_187 yoL_187 rfl rfl rfl rfl (Nat.le_of_ble_eq_true rfl) (fun hM2 => ?_)
  exact L_eqL (tgt := 1425) hF dL_law_1419 dL_law_1420 (by decide) (kk _ h hM2)
