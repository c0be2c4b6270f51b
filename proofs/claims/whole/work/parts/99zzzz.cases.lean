/-! the cases of the law: both answer alike, and all is in order behind them -/
theorem dL_law_0 : decode code 0 = .ok (.new 7, 3) := by decide +kernel
theorem dL_law_3 : decode code 3 = .ok (.dup, 1) := by decide +kernel
theorem dL_law_4 : decode code 4 = .ok (.invokespecial 9, 3) := by decide +kernel
theorem dL_law_7 : decode code 7 = .ok (.astore_n 1, 1) := by decide +kernel
theorem dL_law_8 : decode code 8 = .ok (.new 10, 3) := by decide +kernel
theorem dL_law_11 : decode code 11 = .ok (.dup, 1) := by decide +kernel
theorem dL_law_12 : decode code 12 = .ok (.invokespecial 12, 3) := by decide +kernel
theorem dL_law_15 : decode code 15 = .ok (.astore_n 2, 1) := by decide +kernel
theorem dL_law_16 : decode code 16 = .ok (.iconst 0, 1) := by decide +kernel
theorem dL_law_17 : decode code 17 = .ok (.istore_n 3, 1) := by decide +kernel
theorem dL_law_18 : decode code 18 = .ok (.iload_n 3, 1) := by decide +kernel
theorem dL_law_19 : decode code 19 = .ok (.aload_n 0, 1) := by decide +kernel
theorem dL_law_20 : decode code 20 = .ok (.arraylength, 1) := by decide +kernel
theorem dL_law_21 : decode code 21 = .ok (.bipush 6, 2) := by decide +kernel
theorem dL_law_23 : decode code 23 = .ok (.isub, 1) := by decide +kernel
theorem dL_law_24 : decode code 24 = .ok (.if_icmp .gt 1399, 3) := by decide +kernel
theorem dL_law_27 : decode code 27 = .ok (.aload_n 0, 1) := by decide +kernel
theorem dL_law_28 : decode code 28 = .ok (.iload_n 3, 1) := by decide +kernel
theorem dL_law_29 : decode code 29 = .ok (.iaload, 1) := by decide +kernel
theorem dL_law_30 : decode code 30 = .ok (.bipush 63, 2) := by decide +kernel
theorem dL_law_32 : decode code 32 = .ok (.iand, 1) := by decide +kernel
theorem dL_law_33 : decode code 33 = .ok (.tableswitch 1384 0 38 #[171, 234, 257, 270, 293, 316, 359, 392, 425, 458, 491, 524, 587, 620, 643, 666, 689, 738, 771, 804, 827, 840, 883, 926, 959, 992, 1015, 1038, 1071, 1114, 1137, 1190, 1223, 1256, 1289, 1312, 1325, 1348, 1361], 171) := by decide +kernel
theorem dL_law_204 : decode code 204 = .ok (.aload_n 1, 1) := by decide +kernel
theorem dL_law_205 : decode code 205 = .ok (.aload_n 0, 1) := by decide +kernel
theorem dL_law_206 : decode code 206 = .ok (.iload_n 3, 1) := by decide +kernel
theorem dL_law_207 : decode code 207 = .ok (.iconst 1, 1) := by decide +kernel
theorem dL_law_208 : decode code 208 = .ok (.iadd, 1) := by decide +kernel
theorem dL_law_209 : decode code 209 = .ok (.iaload, 1) := by decide +kernel
theorem dL_law_210 : decode code 210 = .ok (.aload_n 0, 1) := by decide +kernel
theorem dL_law_211 : decode code 211 = .ok (.iload_n 3, 1) := by decide +kernel
theorem dL_law_212 : decode code 212 = .ok (.iconst 2, 1) := by decide +kernel
theorem dL_law_213 : decode code 213 = .ok (.iadd, 1) := by decide +kernel
theorem dL_law_214 : decode code 214 = .ok (.iaload, 1) := by decide +kernel
theorem dL_law_215 : decode code 215 = .ok (.aload_n 0, 1) := by decide +kernel
theorem dL_law_216 : decode code 216 = .ok (.iload_n 3, 1) := by decide +kernel
theorem dL_law_217 : decode code 217 = .ok (.iconst 3, 1) := by decide +kernel
theorem dL_law_218 : decode code 218 = .ok (.iadd, 1) := by decide +kernel
theorem dL_law_219 : decode code 219 = .ok (.iaload, 1) := by decide +kernel
theorem dL_law_220 : decode code 220 = .ok (.aload_n 0, 1) := by decide +kernel
theorem dL_law_221 : decode code 221 = .ok (.iload_n 3, 1) := by decide +kernel
theorem dL_law_222 : decode code 222 = .ok (.iconst 4, 1) := by decide +kernel
theorem dL_law_223 : decode code 223 = .ok (.iadd, 1) := by decide +kernel
theorem dL_law_224 : decode code 224 = .ok (.iaload, 1) := by decide +kernel
theorem dL_law_225 : decode code 225 = .ok (.aload_n 0, 1) := by decide +kernel
theorem dL_law_226 : decode code 226 = .ok (.iload_n 3, 1) := by decide +kernel
theorem dL_law_227 : decode code 227 = .ok (.iconst 5, 1) := by decide +kernel
theorem dL_law_228 : decode code 228 = .ok (.iadd, 1) := by decide +kernel
theorem dL_law_229 : decode code 229 = .ok (.iaload, 1) := by decide +kernel
theorem dL_law_230 : decode code 230 = .ok (.invokevirtual 13, 3) := by decide +kernel
theorem dL_law_233 : decode code 233 = .ok (.aload_n 2, 1) := by decide +kernel
theorem dL_law_234 : decode code 234 = .ok (.aload_n 0, 1) := by decide +kernel
theorem dL_law_235 : decode code 235 = .ok (.iload_n 3, 1) := by decide +kernel
theorem dL_law_236 : decode code 236 = .ok (.iconst 1, 1) := by decide +kernel
theorem dL_law_237 : decode code 237 = .ok (.iadd, 1) := by decide +kernel
theorem dL_law_238 : decode code 238 = .ok (.iaload, 1) := by decide +kernel
theorem dL_law_239 : decode code 239 = .ok (.aload_n 0, 1) := by decide +kernel
theorem dL_law_240 : decode code 240 = .ok (.iload_n 3, 1) := by decide +kernel
theorem dL_law_241 : decode code 241 = .ok (.iconst 2, 1) := by decide +kernel
theorem dL_law_242 : decode code 242 = .ok (.iadd, 1) := by decide +kernel
theorem dL_law_243 : decode code 243 = .ok (.iaload, 1) := by decide +kernel
theorem dL_law_244 : decode code 244 = .ok (.aload_n 0, 1) := by decide +kernel
theorem dL_law_245 : decode code 245 = .ok (.iload_n 3, 1) := by decide +kernel
theorem dL_law_246 : decode code 246 = .ok (.iconst 3, 1) := by decide +kernel
theorem dL_law_247 : decode code 247 = .ok (.iadd, 1) := by decide +kernel
theorem dL_law_248 : decode code 248 = .ok (.iaload, 1) := by decide +kernel
theorem dL_law_249 : decode code 249 = .ok (.aload_n 0, 1) := by decide +kernel
theorem dL_law_250 : decode code 250 = .ok (.iload_n 3, 1) := by decide +kernel
theorem dL_law_251 : decode code 251 = .ok (.iconst 4, 1) := by decide +kernel
theorem dL_law_252 : decode code 252 = .ok (.iadd, 1) := by decide +kernel
theorem dL_law_253 : decode code 253 = .ok (.iaload, 1) := by decide +kernel
theorem dL_law_254 : decode code 254 = .ok (.aload_n 0, 1) := by decide +kernel
theorem dL_law_255 : decode code 255 = .ok (.iload_n 3, 1) := by decide +kernel
theorem dL_law_256 : decode code 256 = .ok (.iconst 5, 1) := by decide +kernel
theorem dL_law_257 : decode code 257 = .ok (.iadd, 1) := by decide +kernel
theorem dL_law_258 : decode code 258 = .ok (.iaload, 1) := by decide +kernel
theorem dL_law_259 : decode code 259 = .ok (.invokevirtual 17, 3) := by decide +kernel
theorem dL_law_262 : decode code 262 = .ok (.if_icmp .eq 1155, 3) := by decide +kernel
theorem dL_law_267 : decode code 267 = .ok (.aload_n 1, 1) := by decide +kernel
theorem dL_law_268 : decode code 268 = .ok (.aload_n 0, 1) := by decide +kernel
theorem dL_law_269 : decode code 269 = .ok (.iload_n 3, 1) := by decide +kernel
theorem dL_law_270 : decode code 270 = .ok (.iconst 1, 1) := by decide +kernel
theorem dL_law_271 : decode code 271 = .ok (.iadd, 1) := by decide +kernel
theorem dL_law_272 : decode code 272 = .ok (.iaload, 1) := by decide +kernel
theorem dL_law_273 : decode code 273 = .ok (.invokevirtual 18, 3) := by decide +kernel
theorem dL_law_276 : decode code 276 = .ok (.aload_n 2, 1) := by decide +kernel
theorem dL_law_277 : decode code 277 = .ok (.aload_n 0, 1) := by decide +kernel
theorem dL_law_278 : decode code 278 = .ok (.iload_n 3, 1) := by decide +kernel
theorem dL_law_279 : decode code 279 = .ok (.iconst 1, 1) := by decide +kernel
theorem dL_law_280 : decode code 280 = .ok (.iadd, 1) := by decide +kernel
theorem dL_law_281 : decode code 281 = .ok (.iaload, 1) := by decide +kernel
theorem dL_law_282 : decode code 282 = .ok (.invokevirtual 22, 3) := by decide +kernel
theorem dL_law_285 : decode code 285 = .ok (.if_icmp .eq 1132, 3) := by decide +kernel
theorem dL_law_290 : decode code 290 = .ok (.aload_n 1, 1) := by decide +kernel
theorem dL_law_291 : decode code 291 = .ok (.invokevirtual 23, 3) := by decide +kernel
theorem dL_law_294 : decode code 294 = .ok (.aload_n 2, 1) := by decide +kernel
theorem dL_law_295 : decode code 295 = .ok (.invokevirtual 27, 3) := by decide +kernel
theorem dL_law_298 : decode code 298 = .ok (.if_icmp .eq 1119, 3) := by decide +kernel
theorem dL_law_303 : decode code 303 = .ok (.aload_n 1, 1) := by decide +kernel
theorem dL_law_304 : decode code 304 = .ok (.aload_n 0, 1) := by decide +kernel
theorem dL_law_305 : decode code 305 = .ok (.iload_n 3, 1) := by decide +kernel
theorem dL_law_306 : decode code 306 = .ok (.iconst 1, 1) := by decide +kernel
theorem dL_law_307 : decode code 307 = .ok (.iadd, 1) := by decide +kernel
theorem dL_law_308 : decode code 308 = .ok (.iaload, 1) := by decide +kernel
theorem dL_law_309 : decode code 309 = .ok (.invokevirtual 28, 3) := by decide +kernel
theorem dL_law_312 : decode code 312 = .ok (.aload_n 2, 1) := by decide +kernel
theorem dL_law_313 : decode code 313 = .ok (.aload_n 0, 1) := by decide +kernel
theorem dL_law_314 : decode code 314 = .ok (.iload_n 3, 1) := by decide +kernel
theorem dL_law_315 : decode code 315 = .ok (.iconst 1, 1) := by decide +kernel
theorem dL_law_316 : decode code 316 = .ok (.iadd, 1) := by decide +kernel
theorem dL_law_317 : decode code 317 = .ok (.iaload, 1) := by decide +kernel
theorem dL_law_318 : decode code 318 = .ok (.invokevirtual 32, 3) := by decide +kernel
theorem dL_law_321 : decode code 321 = .ok (.if_icmp .eq 1096, 3) := by decide +kernel
theorem dL_law_326 : decode code 326 = .ok (.aload_n 1, 1) := by decide +kernel
theorem dL_law_327 : decode code 327 = .ok (.aload_n 0, 1) := by decide +kernel
theorem dL_law_328 : decode code 328 = .ok (.iload_n 3, 1) := by decide +kernel
theorem dL_law_329 : decode code 329 = .ok (.iconst 1, 1) := by decide +kernel
theorem dL_law_330 : decode code 330 = .ok (.iadd, 1) := by decide +kernel
theorem dL_law_331 : decode code 331 = .ok (.iaload, 1) := by decide +kernel
theorem dL_law_332 : decode code 332 = .ok (.invokevirtual 33, 3) := by decide +kernel
theorem dL_law_335 : decode code 335 = .ok (.aload_n 2, 1) := by decide +kernel
theorem dL_law_336 : decode code 336 = .ok (.aload_n 0, 1) := by decide +kernel
theorem dL_law_337 : decode code 337 = .ok (.iload_n 3, 1) := by decide +kernel
theorem dL_law_338 : decode code 338 = .ok (.iconst 1, 1) := by decide +kernel
theorem dL_law_339 : decode code 339 = .ok (.iadd, 1) := by decide +kernel
theorem dL_law_340 : decode code 340 = .ok (.iaload, 1) := by decide +kernel
theorem dL_law_341 : decode code 341 = .ok (.invokevirtual 36, 3) := by decide +kernel
theorem dL_law_344 : decode code 344 = .ok (.if_icmp .eq 1073, 3) := by decide +kernel
theorem dL_law_349 : decode code 349 = .ok (.aload_n 1, 1) := by decide +kernel
theorem dL_law_350 : decode code 350 = .ok (.aload_n 0, 1) := by decide +kernel
theorem dL_law_351 : decode code 351 = .ok (.iload_n 3, 1) := by decide +kernel
theorem dL_law_352 : decode code 352 = .ok (.iconst 1, 1) := by decide +kernel
theorem dL_law_353 : decode code 353 = .ok (.iadd, 1) := by decide +kernel
theorem dL_law_354 : decode code 354 = .ok (.iaload, 1) := by decide +kernel
theorem dL_law_355 : decode code 355 = .ok (.aload_n 0, 1) := by decide +kernel
theorem dL_law_356 : decode code 356 = .ok (.iload_n 3, 1) := by decide +kernel
theorem dL_law_357 : decode code 357 = .ok (.iconst 2, 1) := by decide +kernel
theorem dL_law_358 : decode code 358 = .ok (.iadd, 1) := by decide +kernel
theorem dL_law_359 : decode code 359 = .ok (.iaload, 1) := by decide +kernel
theorem dL_law_360 : decode code 360 = .ok (.aload_n 0, 1) := by decide +kernel
theorem dL_law_361 : decode code 361 = .ok (.iload_n 3, 1) := by decide +kernel
theorem dL_law_362 : decode code 362 = .ok (.iconst 3, 1) := by decide +kernel
theorem dL_law_363 : decode code 363 = .ok (.iadd, 1) := by decide +kernel
theorem dL_law_364 : decode code 364 = .ok (.iaload, 1) := by decide +kernel
theorem dL_law_365 : decode code 365 = .ok (.invokevirtual 37, 3) := by decide +kernel
theorem dL_law_368 : decode code 368 = .ok (.aload_n 2, 1) := by decide +kernel
theorem dL_law_369 : decode code 369 = .ok (.aload_n 0, 1) := by decide +kernel
theorem dL_law_370 : decode code 370 = .ok (.iload_n 3, 1) := by decide +kernel
theorem dL_law_371 : decode code 371 = .ok (.iconst 1, 1) := by decide +kernel
theorem dL_law_372 : decode code 372 = .ok (.iadd, 1) := by decide +kernel
theorem dL_law_373 : decode code 373 = .ok (.iaload, 1) := by decide +kernel
theorem dL_law_374 : decode code 374 = .ok (.aload_n 0, 1) := by decide +kernel
theorem dL_law_375 : decode code 375 = .ok (.iload_n 3, 1) := by decide +kernel
theorem dL_law_376 : decode code 376 = .ok (.iconst 2, 1) := by decide +kernel
theorem dL_law_377 : decode code 377 = .ok (.iadd, 1) := by decide +kernel
theorem dL_law_378 : decode code 378 = .ok (.iaload, 1) := by decide +kernel
theorem dL_law_379 : decode code 379 = .ok (.aload_n 0, 1) := by decide +kernel
theorem dL_law_380 : decode code 380 = .ok (.iload_n 3, 1) := by decide +kernel
theorem dL_law_381 : decode code 381 = .ok (.iconst 3, 1) := by decide +kernel
theorem dL_law_382 : decode code 382 = .ok (.iadd, 1) := by decide +kernel
theorem dL_law_383 : decode code 383 = .ok (.iaload, 1) := by decide +kernel
theorem dL_law_384 : decode code 384 = .ok (.invokevirtual 41, 3) := by decide +kernel
theorem dL_law_387 : decode code 387 = .ok (.if_icmp .eq 1030, 3) := by decide +kernel
theorem dL_law_392 : decode code 392 = .ok (.aload_n 1, 1) := by decide +kernel
theorem dL_law_393 : decode code 393 = .ok (.aload_n 0, 1) := by decide +kernel
theorem dL_law_394 : decode code 394 = .ok (.iload_n 3, 1) := by decide +kernel
theorem dL_law_395 : decode code 395 = .ok (.iconst 1, 1) := by decide +kernel
theorem dL_law_396 : decode code 396 = .ok (.iadd, 1) := by decide +kernel
theorem dL_law_397 : decode code 397 = .ok (.iaload, 1) := by decide +kernel
theorem dL_law_398 : decode code 398 = .ok (.aload_n 0, 1) := by decide +kernel
theorem dL_law_399 : decode code 399 = .ok (.iload_n 3, 1) := by decide +kernel
theorem dL_law_400 : decode code 400 = .ok (.iconst 2, 1) := by decide +kernel
theorem dL_law_401 : decode code 401 = .ok (.iadd, 1) := by decide +kernel
theorem dL_law_402 : decode code 402 = .ok (.iaload, 1) := by decide +kernel
theorem dL_law_403 : decode code 403 = .ok (.invokevirtual 42, 3) := by decide +kernel
theorem dL_law_406 : decode code 406 = .ok (.aload_n 2, 1) := by decide +kernel
theorem dL_law_407 : decode code 407 = .ok (.aload_n 0, 1) := by decide +kernel
theorem dL_law_408 : decode code 408 = .ok (.iload_n 3, 1) := by decide +kernel
theorem dL_law_409 : decode code 409 = .ok (.iconst 1, 1) := by decide +kernel
theorem dL_law_410 : decode code 410 = .ok (.iadd, 1) := by decide +kernel
theorem dL_law_411 : decode code 411 = .ok (.iaload, 1) := by decide +kernel
theorem dL_law_412 : decode code 412 = .ok (.aload_n 0, 1) := by decide +kernel
theorem dL_law_413 : decode code 413 = .ok (.iload_n 3, 1) := by decide +kernel
theorem dL_law_414 : decode code 414 = .ok (.iconst 2, 1) := by decide +kernel
theorem dL_law_415 : decode code 415 = .ok (.iadd, 1) := by decide +kernel
theorem dL_law_416 : decode code 416 = .ok (.iaload, 1) := by decide +kernel
theorem dL_law_417 : decode code 417 = .ok (.invokevirtual 46, 3) := by decide +kernel
theorem dL_law_420 : decode code 420 = .ok (.if_icmp .eq 997, 3) := by decide +kernel
theorem dL_law_425 : decode code 425 = .ok (.aload_n 1, 1) := by decide +kernel
theorem dL_law_426 : decode code 426 = .ok (.aload_n 0, 1) := by decide +kernel
theorem dL_law_427 : decode code 427 = .ok (.iload_n 3, 1) := by decide +kernel
theorem dL_law_428 : decode code 428 = .ok (.iconst 1, 1) := by decide +kernel
theorem dL_law_429 : decode code 429 = .ok (.iadd, 1) := by decide +kernel
theorem dL_law_430 : decode code 430 = .ok (.iaload, 1) := by decide +kernel
theorem dL_law_431 : decode code 431 = .ok (.aload_n 0, 1) := by decide +kernel
theorem dL_law_432 : decode code 432 = .ok (.iload_n 3, 1) := by decide +kernel
theorem dL_law_433 : decode code 433 = .ok (.iconst 2, 1) := by decide +kernel
theorem dL_law_434 : decode code 434 = .ok (.iadd, 1) := by decide +kernel
theorem dL_law_435 : decode code 435 = .ok (.iaload, 1) := by decide +kernel
theorem dL_law_436 : decode code 436 = .ok (.invokevirtual 47, 3) := by decide +kernel
theorem dL_law_439 : decode code 439 = .ok (.aload_n 2, 1) := by decide +kernel
theorem dL_law_440 : decode code 440 = .ok (.aload_n 0, 1) := by decide +kernel
theorem dL_law_441 : decode code 441 = .ok (.iload_n 3, 1) := by decide +kernel
theorem dL_law_442 : decode code 442 = .ok (.iconst 1, 1) := by decide +kernel
theorem dL_law_443 : decode code 443 = .ok (.iadd, 1) := by decide +kernel
theorem dL_law_444 : decode code 444 = .ok (.iaload, 1) := by decide +kernel
theorem dL_law_445 : decode code 445 = .ok (.aload_n 0, 1) := by decide +kernel
theorem dL_law_446 : decode code 446 = .ok (.iload_n 3, 1) := by decide +kernel
theorem dL_law_447 : decode code 447 = .ok (.iconst 2, 1) := by decide +kernel
theorem dL_law_448 : decode code 448 = .ok (.iadd, 1) := by decide +kernel
theorem dL_law_449 : decode code 449 = .ok (.iaload, 1) := by decide +kernel
theorem dL_law_450 : decode code 450 = .ok (.invokevirtual 50, 3) := by decide +kernel
theorem dL_law_453 : decode code 453 = .ok (.if_icmp .eq 964, 3) := by decide +kernel
theorem dL_law_458 : decode code 458 = .ok (.aload_n 1, 1) := by decide +kernel
theorem dL_law_459 : decode code 459 = .ok (.aload_n 0, 1) := by decide +kernel
theorem dL_law_460 : decode code 460 = .ok (.iload_n 3, 1) := by decide +kernel
theorem dL_law_461 : decode code 461 = .ok (.iconst 1, 1) := by decide +kernel
theorem dL_law_462 : decode code 462 = .ok (.iadd, 1) := by decide +kernel
theorem dL_law_463 : decode code 463 = .ok (.iaload, 1) := by decide +kernel
theorem dL_law_464 : decode code 464 = .ok (.aload_n 0, 1) := by decide +kernel
theorem dL_law_465 : decode code 465 = .ok (.iload_n 3, 1) := by decide +kernel
theorem dL_law_466 : decode code 466 = .ok (.iconst 2, 1) := by decide +kernel
theorem dL_law_467 : decode code 467 = .ok (.iadd, 1) := by decide +kernel
theorem dL_law_468 : decode code 468 = .ok (.iaload, 1) := by decide +kernel
theorem dL_law_469 : decode code 469 = .ok (.invokevirtual 51, 3) := by decide +kernel
theorem dL_law_472 : decode code 472 = .ok (.aload_n 2, 1) := by decide +kernel
theorem dL_law_473 : decode code 473 = .ok (.aload_n 0, 1) := by decide +kernel
theorem dL_law_474 : decode code 474 = .ok (.iload_n 3, 1) := by decide +kernel
theorem dL_law_475 : decode code 475 = .ok (.iconst 1, 1) := by decide +kernel
theorem dL_law_476 : decode code 476 = .ok (.iadd, 1) := by decide +kernel
theorem dL_law_477 : decode code 477 = .ok (.iaload, 1) := by decide +kernel
theorem dL_law_478 : decode code 478 = .ok (.aload_n 0, 1) := by decide +kernel
theorem dL_law_479 : decode code 479 = .ok (.iload_n 3, 1) := by decide +kernel
theorem dL_law_480 : decode code 480 = .ok (.iconst 2, 1) := by decide +kernel
theorem dL_law_481 : decode code 481 = .ok (.iadd, 1) := by decide +kernel
theorem dL_law_482 : decode code 482 = .ok (.iaload, 1) := by decide +kernel
theorem dL_law_483 : decode code 483 = .ok (.invokevirtual 54, 3) := by decide +kernel
theorem dL_law_486 : decode code 486 = .ok (.if_icmp .eq 931, 3) := by decide +kernel
theorem dL_law_491 : decode code 491 = .ok (.aload_n 1, 1) := by decide +kernel
theorem dL_law_492 : decode code 492 = .ok (.aload_n 0, 1) := by decide +kernel
theorem dL_law_493 : decode code 493 = .ok (.iload_n 3, 1) := by decide +kernel
theorem dL_law_494 : decode code 494 = .ok (.iconst 1, 1) := by decide +kernel
theorem dL_law_495 : decode code 495 = .ok (.iadd, 1) := by decide +kernel
theorem dL_law_496 : decode code 496 = .ok (.iaload, 1) := by decide +kernel
theorem dL_law_497 : decode code 497 = .ok (.aload_n 0, 1) := by decide +kernel
theorem dL_law_498 : decode code 498 = .ok (.iload_n 3, 1) := by decide +kernel
theorem dL_law_499 : decode code 499 = .ok (.iconst 2, 1) := by decide +kernel
theorem dL_law_500 : decode code 500 = .ok (.iadd, 1) := by decide +kernel
theorem dL_law_501 : decode code 501 = .ok (.iaload, 1) := by decide +kernel
theorem dL_law_502 : decode code 502 = .ok (.invokevirtual 55, 3) := by decide +kernel
theorem dL_law_505 : decode code 505 = .ok (.aload_n 2, 1) := by decide +kernel
theorem dL_law_506 : decode code 506 = .ok (.aload_n 0, 1) := by decide +kernel
theorem dL_law_507 : decode code 507 = .ok (.iload_n 3, 1) := by decide +kernel
theorem dL_law_508 : decode code 508 = .ok (.iconst 1, 1) := by decide +kernel
theorem dL_law_509 : decode code 509 = .ok (.iadd, 1) := by decide +kernel
theorem dL_law_510 : decode code 510 = .ok (.iaload, 1) := by decide +kernel
theorem dL_law_511 : decode code 511 = .ok (.aload_n 0, 1) := by decide +kernel
theorem dL_law_512 : decode code 512 = .ok (.iload_n 3, 1) := by decide +kernel
theorem dL_law_513 : decode code 513 = .ok (.iconst 2, 1) := by decide +kernel
theorem dL_law_514 : decode code 514 = .ok (.iadd, 1) := by decide +kernel
theorem dL_law_515 : decode code 515 = .ok (.iaload, 1) := by decide +kernel
theorem dL_law_516 : decode code 516 = .ok (.invokevirtual 58, 3) := by decide +kernel
theorem dL_law_519 : decode code 519 = .ok (.if_icmp .eq 898, 3) := by decide +kernel
theorem dL_law_524 : decode code 524 = .ok (.aload_n 1, 1) := by decide +kernel
theorem dL_law_525 : decode code 525 = .ok (.aload_n 0, 1) := by decide +kernel
theorem dL_law_526 : decode code 526 = .ok (.iload_n 3, 1) := by decide +kernel
theorem dL_law_527 : decode code 527 = .ok (.iconst 1, 1) := by decide +kernel
theorem dL_law_528 : decode code 528 = .ok (.iadd, 1) := by decide +kernel
theorem dL_law_529 : decode code 529 = .ok (.iaload, 1) := by decide +kernel
theorem dL_law_530 : decode code 530 = .ok (.aload_n 0, 1) := by decide +kernel
theorem dL_law_531 : decode code 531 = .ok (.iload_n 3, 1) := by decide +kernel
theorem dL_law_532 : decode code 532 = .ok (.iconst 2, 1) := by decide +kernel
theorem dL_law_533 : decode code 533 = .ok (.iadd, 1) := by decide +kernel
theorem dL_law_534 : decode code 534 = .ok (.iaload, 1) := by decide +kernel
theorem dL_law_535 : decode code 535 = .ok (.invokevirtual 59, 3) := by decide +kernel
theorem dL_law_538 : decode code 538 = .ok (.aload_n 2, 1) := by decide +kernel
theorem dL_law_539 : decode code 539 = .ok (.aload_n 0, 1) := by decide +kernel
theorem dL_law_540 : decode code 540 = .ok (.iload_n 3, 1) := by decide +kernel
theorem dL_law_541 : decode code 541 = .ok (.iconst 1, 1) := by decide +kernel
theorem dL_law_542 : decode code 542 = .ok (.iadd, 1) := by decide +kernel
theorem dL_law_543 : decode code 543 = .ok (.iaload, 1) := by decide +kernel
theorem dL_law_544 : decode code 544 = .ok (.aload_n 0, 1) := by decide +kernel
theorem dL_law_545 : decode code 545 = .ok (.iload_n 3, 1) := by decide +kernel
theorem dL_law_546 : decode code 546 = .ok (.iconst 2, 1) := by decide +kernel
theorem dL_law_547 : decode code 547 = .ok (.iadd, 1) := by decide +kernel
theorem dL_law_548 : decode code 548 = .ok (.iaload, 1) := by decide +kernel
theorem dL_law_549 : decode code 549 = .ok (.invokevirtual 62, 3) := by decide +kernel
theorem dL_law_552 : decode code 552 = .ok (.if_icmp .eq 865, 3) := by decide +kernel
theorem dL_law_557 : decode code 557 = .ok (.aload_n 1, 1) := by decide +kernel
theorem dL_law_558 : decode code 558 = .ok (.aload_n 0, 1) := by decide +kernel
theorem dL_law_559 : decode code 559 = .ok (.iload_n 3, 1) := by decide +kernel
theorem dL_law_560 : decode code 560 = .ok (.iconst 1, 1) := by decide +kernel
theorem dL_law_561 : decode code 561 = .ok (.iadd, 1) := by decide +kernel
theorem dL_law_562 : decode code 562 = .ok (.iaload, 1) := by decide +kernel
theorem dL_law_563 : decode code 563 = .ok (.aload_n 0, 1) := by decide +kernel
theorem dL_law_564 : decode code 564 = .ok (.iload_n 3, 1) := by decide +kernel
theorem dL_law_565 : decode code 565 = .ok (.iconst 2, 1) := by decide +kernel
theorem dL_law_566 : decode code 566 = .ok (.iadd, 1) := by decide +kernel
theorem dL_law_567 : decode code 567 = .ok (.iaload, 1) := by decide +kernel
theorem dL_law_568 : decode code 568 = .ok (.aload_n 0, 1) := by decide +kernel
theorem dL_law_569 : decode code 569 = .ok (.iload_n 3, 1) := by decide +kernel
theorem dL_law_570 : decode code 570 = .ok (.iconst 3, 1) := by decide +kernel
theorem dL_law_571 : decode code 571 = .ok (.iadd, 1) := by decide +kernel
theorem dL_law_572 : decode code 572 = .ok (.iaload, 1) := by decide +kernel
theorem dL_law_573 : decode code 573 = .ok (.aload_n 0, 1) := by decide +kernel
theorem dL_law_574 : decode code 574 = .ok (.iload_n 3, 1) := by decide +kernel
theorem dL_law_575 : decode code 575 = .ok (.iconst 4, 1) := by decide +kernel
theorem dL_law_576 : decode code 576 = .ok (.iadd, 1) := by decide +kernel
theorem dL_law_577 : decode code 577 = .ok (.iaload, 1) := by decide +kernel
theorem dL_law_578 : decode code 578 = .ok (.aload_n 0, 1) := by decide +kernel
theorem dL_law_579 : decode code 579 = .ok (.iload_n 3, 1) := by decide +kernel
theorem dL_law_580 : decode code 580 = .ok (.iconst 5, 1) := by decide +kernel
theorem dL_law_581 : decode code 581 = .ok (.iadd, 1) := by decide +kernel
theorem dL_law_582 : decode code 582 = .ok (.iaload, 1) := by decide +kernel
theorem dL_law_583 : decode code 583 = .ok (.invokevirtual 63, 3) := by decide +kernel
theorem dL_law_586 : decode code 586 = .ok (.aload_n 2, 1) := by decide +kernel
theorem dL_law_587 : decode code 587 = .ok (.aload_n 0, 1) := by decide +kernel
theorem dL_law_588 : decode code 588 = .ok (.iload_n 3, 1) := by decide +kernel
theorem dL_law_589 : decode code 589 = .ok (.iconst 1, 1) := by decide +kernel
theorem dL_law_590 : decode code 590 = .ok (.iadd, 1) := by decide +kernel
theorem dL_law_591 : decode code 591 = .ok (.iaload, 1) := by decide +kernel
theorem dL_law_592 : decode code 592 = .ok (.aload_n 0, 1) := by decide +kernel
theorem dL_law_593 : decode code 593 = .ok (.iload_n 3, 1) := by decide +kernel
theorem dL_law_594 : decode code 594 = .ok (.iconst 2, 1) := by decide +kernel
theorem dL_law_595 : decode code 595 = .ok (.iadd, 1) := by decide +kernel
theorem dL_law_596 : decode code 596 = .ok (.iaload, 1) := by decide +kernel
theorem dL_law_597 : decode code 597 = .ok (.aload_n 0, 1) := by decide +kernel
theorem dL_law_598 : decode code 598 = .ok (.iload_n 3, 1) := by decide +kernel
theorem dL_law_599 : decode code 599 = .ok (.iconst 3, 1) := by decide +kernel
theorem dL_law_600 : decode code 600 = .ok (.iadd, 1) := by decide +kernel
theorem dL_law_601 : decode code 601 = .ok (.iaload, 1) := by decide +kernel
theorem dL_law_602 : decode code 602 = .ok (.aload_n 0, 1) := by decide +kernel
theorem dL_law_603 : decode code 603 = .ok (.iload_n 3, 1) := by decide +kernel
theorem dL_law_604 : decode code 604 = .ok (.iconst 4, 1) := by decide +kernel
theorem dL_law_605 : decode code 605 = .ok (.iadd, 1) := by decide +kernel
theorem dL_law_606 : decode code 606 = .ok (.iaload, 1) := by decide +kernel
theorem dL_law_607 : decode code 607 = .ok (.aload_n 0, 1) := by decide +kernel
theorem dL_law_608 : decode code 608 = .ok (.iload_n 3, 1) := by decide +kernel
theorem dL_law_609 : decode code 609 = .ok (.iconst 5, 1) := by decide +kernel
theorem dL_law_610 : decode code 610 = .ok (.iadd, 1) := by decide +kernel
theorem dL_law_611 : decode code 611 = .ok (.iaload, 1) := by decide +kernel
theorem dL_law_612 : decode code 612 = .ok (.invokevirtual 66, 3) := by decide +kernel
theorem dL_law_615 : decode code 615 = .ok (.if_icmp .eq 802, 3) := by decide +kernel
theorem dL_law_620 : decode code 620 = .ok (.aload_n 1, 1) := by decide +kernel
theorem dL_law_621 : decode code 621 = .ok (.aload_n 0, 1) := by decide +kernel
theorem dL_law_622 : decode code 622 = .ok (.iload_n 3, 1) := by decide +kernel
theorem dL_law_623 : decode code 623 = .ok (.iconst 1, 1) := by decide +kernel
theorem dL_law_624 : decode code 624 = .ok (.iadd, 1) := by decide +kernel
theorem dL_law_625 : decode code 625 = .ok (.iaload, 1) := by decide +kernel
theorem dL_law_626 : decode code 626 = .ok (.aload_n 0, 1) := by decide +kernel
theorem dL_law_627 : decode code 627 = .ok (.iload_n 3, 1) := by decide +kernel
theorem dL_law_628 : decode code 628 = .ok (.iconst 2, 1) := by decide +kernel
theorem dL_law_629 : decode code 629 = .ok (.iadd, 1) := by decide +kernel
theorem dL_law_630 : decode code 630 = .ok (.iaload, 1) := by decide +kernel
theorem dL_law_631 : decode code 631 = .ok (.invokevirtual 67, 3) := by decide +kernel
theorem dL_law_634 : decode code 634 = .ok (.aload_n 2, 1) := by decide +kernel
theorem dL_law_635 : decode code 635 = .ok (.aload_n 0, 1) := by decide +kernel
theorem dL_law_636 : decode code 636 = .ok (.iload_n 3, 1) := by decide +kernel
theorem dL_law_637 : decode code 637 = .ok (.iconst 1, 1) := by decide +kernel
theorem dL_law_638 : decode code 638 = .ok (.iadd, 1) := by decide +kernel
theorem dL_law_639 : decode code 639 = .ok (.iaload, 1) := by decide +kernel
theorem dL_law_640 : decode code 640 = .ok (.aload_n 0, 1) := by decide +kernel
theorem dL_law_641 : decode code 641 = .ok (.iload_n 3, 1) := by decide +kernel
theorem dL_law_642 : decode code 642 = .ok (.iconst 2, 1) := by decide +kernel
theorem dL_law_643 : decode code 643 = .ok (.iadd, 1) := by decide +kernel
theorem dL_law_644 : decode code 644 = .ok (.iaload, 1) := by decide +kernel
theorem dL_law_645 : decode code 645 = .ok (.invokevirtual 70, 3) := by decide +kernel
theorem dL_law_648 : decode code 648 = .ok (.if_icmp .eq 769, 3) := by decide +kernel
theorem dL_law_653 : decode code 653 = .ok (.aload_n 1, 1) := by decide +kernel
theorem dL_law_654 : decode code 654 = .ok (.aload_n 0, 1) := by decide +kernel
theorem dL_law_655 : decode code 655 = .ok (.iload_n 3, 1) := by decide +kernel
theorem dL_law_656 : decode code 656 = .ok (.iconst 1, 1) := by decide +kernel
theorem dL_law_657 : decode code 657 = .ok (.iadd, 1) := by decide +kernel
theorem dL_law_658 : decode code 658 = .ok (.iaload, 1) := by decide +kernel
theorem dL_law_659 : decode code 659 = .ok (.invokevirtual 71, 3) := by decide +kernel
theorem dL_law_662 : decode code 662 = .ok (.aload_n 2, 1) := by decide +kernel
theorem dL_law_663 : decode code 663 = .ok (.aload_n 0, 1) := by decide +kernel
theorem dL_law_664 : decode code 664 = .ok (.iload_n 3, 1) := by decide +kernel
theorem dL_law_665 : decode code 665 = .ok (.iconst 1, 1) := by decide +kernel
theorem dL_law_666 : decode code 666 = .ok (.iadd, 1) := by decide +kernel
theorem dL_law_667 : decode code 667 = .ok (.iaload, 1) := by decide +kernel
theorem dL_law_668 : decode code 668 = .ok (.invokevirtual 74, 3) := by decide +kernel
theorem dL_law_671 : decode code 671 = .ok (.if_icmp .eq 746, 3) := by decide +kernel
theorem dL_law_676 : decode code 676 = .ok (.aload_n 1, 1) := by decide +kernel
theorem dL_law_677 : decode code 677 = .ok (.aload_n 0, 1) := by decide +kernel
theorem dL_law_678 : decode code 678 = .ok (.iload_n 3, 1) := by decide +kernel
theorem dL_law_679 : decode code 679 = .ok (.iconst 1, 1) := by decide +kernel
theorem dL_law_680 : decode code 680 = .ok (.iadd, 1) := by decide +kernel
theorem dL_law_681 : decode code 681 = .ok (.iaload, 1) := by decide +kernel
theorem dL_law_682 : decode code 682 = .ok (.invokevirtual 75, 3) := by decide +kernel
theorem dL_law_685 : decode code 685 = .ok (.aload_n 2, 1) := by decide +kernel
theorem dL_law_686 : decode code 686 = .ok (.aload_n 0, 1) := by decide +kernel
theorem dL_law_687 : decode code 687 = .ok (.iload_n 3, 1) := by decide +kernel
theorem dL_law_688 : decode code 688 = .ok (.iconst 1, 1) := by decide +kernel
theorem dL_law_689 : decode code 689 = .ok (.iadd, 1) := by decide +kernel
theorem dL_law_690 : decode code 690 = .ok (.iaload, 1) := by decide +kernel
theorem dL_law_691 : decode code 691 = .ok (.invokevirtual 78, 3) := by decide +kernel
theorem dL_law_694 : decode code 694 = .ok (.if_icmp .eq 723, 3) := by decide +kernel
theorem dL_law_699 : decode code 699 = .ok (.aload_n 1, 1) := by decide +kernel
theorem dL_law_700 : decode code 700 = .ok (.aload_n 0, 1) := by decide +kernel
theorem dL_law_701 : decode code 701 = .ok (.iload_n 3, 1) := by decide +kernel
theorem dL_law_702 : decode code 702 = .ok (.iconst 1, 1) := by decide +kernel
theorem dL_law_703 : decode code 703 = .ok (.iadd, 1) := by decide +kernel
theorem dL_law_704 : decode code 704 = .ok (.iaload, 1) := by decide +kernel
theorem dL_law_705 : decode code 705 = .ok (.invokevirtual 79, 3) := by decide +kernel
theorem dL_law_708 : decode code 708 = .ok (.aload_n 2, 1) := by decide +kernel
theorem dL_law_709 : decode code 709 = .ok (.aload_n 0, 1) := by decide +kernel
theorem dL_law_710 : decode code 710 = .ok (.iload_n 3, 1) := by decide +kernel
theorem dL_law_711 : decode code 711 = .ok (.iconst 1, 1) := by decide +kernel
theorem dL_law_712 : decode code 712 = .ok (.iadd, 1) := by decide +kernel
theorem dL_law_713 : decode code 713 = .ok (.iaload, 1) := by decide +kernel
theorem dL_law_714 : decode code 714 = .ok (.invokevirtual 82, 3) := by decide +kernel
theorem dL_law_717 : decode code 717 = .ok (.if_icmp .eq 700, 3) := by decide +kernel
theorem dL_law_722 : decode code 722 = .ok (.aload_n 1, 1) := by decide +kernel
theorem dL_law_723 : decode code 723 = .ok (.aload_n 0, 1) := by decide +kernel
theorem dL_law_724 : decode code 724 = .ok (.iload_n 3, 1) := by decide +kernel
theorem dL_law_725 : decode code 725 = .ok (.iconst 1, 1) := by decide +kernel
theorem dL_law_726 : decode code 726 = .ok (.iadd, 1) := by decide +kernel
theorem dL_law_727 : decode code 727 = .ok (.iaload, 1) := by decide +kernel
theorem dL_law_728 : decode code 728 = .ok (.aload_n 0, 1) := by decide +kernel
theorem dL_law_729 : decode code 729 = .ok (.iload_n 3, 1) := by decide +kernel
theorem dL_law_730 : decode code 730 = .ok (.iconst 2, 1) := by decide +kernel
theorem dL_law_731 : decode code 731 = .ok (.iadd, 1) := by decide +kernel
theorem dL_law_732 : decode code 732 = .ok (.iaload, 1) := by decide +kernel
theorem dL_law_733 : decode code 733 = .ok (.ifCond .eq 7, 3) := by decide +kernel
theorem dL_law_736 : decode code 736 = .ok (.iconst 1, 1) := by decide +kernel
theorem dL_law_737 : decode code 737 = .ok (.goto 4, 3) := by decide +kernel
theorem dL_law_740 : decode code 740 = .ok (.iconst 0, 1) := by decide +kernel
theorem dL_law_741 : decode code 741 = .ok (.invokevirtual 83, 3) := by decide +kernel
theorem dL_law_744 : decode code 744 = .ok (.aload_n 2, 1) := by decide +kernel
theorem dL_law_745 : decode code 745 = .ok (.aload_n 0, 1) := by decide +kernel
theorem dL_law_746 : decode code 746 = .ok (.iload_n 3, 1) := by decide +kernel
theorem dL_law_747 : decode code 747 = .ok (.iconst 1, 1) := by decide +kernel
theorem dL_law_748 : decode code 748 = .ok (.iadd, 1) := by decide +kernel
theorem dL_law_749 : decode code 749 = .ok (.iaload, 1) := by decide +kernel
theorem dL_law_750 : decode code 750 = .ok (.aload_n 0, 1) := by decide +kernel
theorem dL_law_751 : decode code 751 = .ok (.iload_n 3, 1) := by decide +kernel
theorem dL_law_752 : decode code 752 = .ok (.iconst 2, 1) := by decide +kernel
theorem dL_law_753 : decode code 753 = .ok (.iadd, 1) := by decide +kernel
theorem dL_law_754 : decode code 754 = .ok (.iaload, 1) := by decide +kernel
theorem dL_law_755 : decode code 755 = .ok (.ifCond .eq 7, 3) := by decide +kernel
theorem dL_law_758 : decode code 758 = .ok (.iconst 1, 1) := by decide +kernel
theorem dL_law_759 : decode code 759 = .ok (.goto 4, 3) := by decide +kernel
theorem dL_law_762 : decode code 762 = .ok (.iconst 0, 1) := by decide +kernel
theorem dL_law_763 : decode code 763 = .ok (.invokevirtual 87, 3) := by decide +kernel
theorem dL_law_766 : decode code 766 = .ok (.if_icmp .eq 651, 3) := by decide +kernel
theorem dL_law_771 : decode code 771 = .ok (.aload_n 1, 1) := by decide +kernel
theorem dL_law_772 : decode code 772 = .ok (.aload_n 0, 1) := by decide +kernel
theorem dL_law_773 : decode code 773 = .ok (.iload_n 3, 1) := by decide +kernel
theorem dL_law_774 : decode code 774 = .ok (.iconst 1, 1) := by decide +kernel
theorem dL_law_775 : decode code 775 = .ok (.iadd, 1) := by decide +kernel
theorem dL_law_776 : decode code 776 = .ok (.iaload, 1) := by decide +kernel
theorem dL_law_777 : decode code 777 = .ok (.aload_n 0, 1) := by decide +kernel
theorem dL_law_778 : decode code 778 = .ok (.iload_n 3, 1) := by decide +kernel
theorem dL_law_779 : decode code 779 = .ok (.iconst 2, 1) := by decide +kernel
theorem dL_law_780 : decode code 780 = .ok (.iadd, 1) := by decide +kernel
theorem dL_law_781 : decode code 781 = .ok (.iaload, 1) := by decide +kernel
theorem dL_law_782 : decode code 782 = .ok (.invokevirtual 88, 3) := by decide +kernel
theorem dL_law_785 : decode code 785 = .ok (.aload_n 2, 1) := by decide +kernel
theorem dL_law_786 : decode code 786 = .ok (.aload_n 0, 1) := by decide +kernel
theorem dL_law_787 : decode code 787 = .ok (.iload_n 3, 1) := by decide +kernel
theorem dL_law_788 : decode code 788 = .ok (.iconst 1, 1) := by decide +kernel
theorem dL_law_789 : decode code 789 = .ok (.iadd, 1) := by decide +kernel
theorem dL_law_790 : decode code 790 = .ok (.iaload, 1) := by decide +kernel
theorem dL_law_791 : decode code 791 = .ok (.aload_n 0, 1) := by decide +kernel
theorem dL_law_792 : decode code 792 = .ok (.iload_n 3, 1) := by decide +kernel
theorem dL_law_793 : decode code 793 = .ok (.iconst 2, 1) := by decide +kernel
theorem dL_law_794 : decode code 794 = .ok (.iadd, 1) := by decide +kernel
theorem dL_law_795 : decode code 795 = .ok (.iaload, 1) := by decide +kernel
theorem dL_law_796 : decode code 796 = .ok (.invokevirtual 92, 3) := by decide +kernel
theorem dL_law_799 : decode code 799 = .ok (.if_icmp .eq 618, 3) := by decide +kernel
theorem dL_law_804 : decode code 804 = .ok (.aload_n 1, 1) := by decide +kernel
theorem dL_law_805 : decode code 805 = .ok (.aload_n 0, 1) := by decide +kernel
theorem dL_law_806 : decode code 806 = .ok (.iload_n 3, 1) := by decide +kernel
theorem dL_law_807 : decode code 807 = .ok (.iconst 1, 1) := by decide +kernel
theorem dL_law_808 : decode code 808 = .ok (.iadd, 1) := by decide +kernel
theorem dL_law_809 : decode code 809 = .ok (.iaload, 1) := by decide +kernel
theorem dL_law_810 : decode code 810 = .ok (.aload_n 0, 1) := by decide +kernel
theorem dL_law_811 : decode code 811 = .ok (.iload_n 3, 1) := by decide +kernel
theorem dL_law_812 : decode code 812 = .ok (.iconst 2, 1) := by decide +kernel
theorem dL_law_813 : decode code 813 = .ok (.iadd, 1) := by decide +kernel
theorem dL_law_814 : decode code 814 = .ok (.iaload, 1) := by decide +kernel
theorem dL_law_815 : decode code 815 = .ok (.invokevirtual 93, 3) := by decide +kernel
theorem dL_law_818 : decode code 818 = .ok (.aload_n 2, 1) := by decide +kernel
theorem dL_law_819 : decode code 819 = .ok (.aload_n 0, 1) := by decide +kernel
theorem dL_law_820 : decode code 820 = .ok (.iload_n 3, 1) := by decide +kernel
theorem dL_law_821 : decode code 821 = .ok (.iconst 1, 1) := by decide +kernel
theorem dL_law_822 : decode code 822 = .ok (.iadd, 1) := by decide +kernel
theorem dL_law_823 : decode code 823 = .ok (.iaload, 1) := by decide +kernel
theorem dL_law_824 : decode code 824 = .ok (.aload_n 0, 1) := by decide +kernel
theorem dL_law_825 : decode code 825 = .ok (.iload_n 3, 1) := by decide +kernel
theorem dL_law_826 : decode code 826 = .ok (.iconst 2, 1) := by decide +kernel
theorem dL_law_827 : decode code 827 = .ok (.iadd, 1) := by decide +kernel
theorem dL_law_828 : decode code 828 = .ok (.iaload, 1) := by decide +kernel
theorem dL_law_829 : decode code 829 = .ok (.invokevirtual 96, 3) := by decide +kernel
theorem dL_law_832 : decode code 832 = .ok (.if_icmp .eq 585, 3) := by decide +kernel
theorem dL_law_837 : decode code 837 = .ok (.aload_n 1, 1) := by decide +kernel
theorem dL_law_838 : decode code 838 = .ok (.aload_n 0, 1) := by decide +kernel
theorem dL_law_839 : decode code 839 = .ok (.iload_n 3, 1) := by decide +kernel
theorem dL_law_840 : decode code 840 = .ok (.iconst 1, 1) := by decide +kernel
theorem dL_law_841 : decode code 841 = .ok (.iadd, 1) := by decide +kernel
theorem dL_law_842 : decode code 842 = .ok (.iaload, 1) := by decide +kernel
theorem dL_law_843 : decode code 843 = .ok (.invokevirtual 97, 3) := by decide +kernel
theorem dL_law_846 : decode code 846 = .ok (.aload_n 2, 1) := by decide +kernel
theorem dL_law_847 : decode code 847 = .ok (.aload_n 0, 1) := by decide +kernel
theorem dL_law_848 : decode code 848 = .ok (.iload_n 3, 1) := by decide +kernel
theorem dL_law_849 : decode code 849 = .ok (.iconst 1, 1) := by decide +kernel
theorem dL_law_850 : decode code 850 = .ok (.iadd, 1) := by decide +kernel
theorem dL_law_851 : decode code 851 = .ok (.iaload, 1) := by decide +kernel
theorem dL_law_852 : decode code 852 = .ok (.invokevirtual 100, 3) := by decide +kernel
theorem dL_law_855 : decode code 855 = .ok (.if_icmp .eq 562, 3) := by decide +kernel
theorem dL_law_860 : decode code 860 = .ok (.aload_n 1, 1) := by decide +kernel
theorem dL_law_861 : decode code 861 = .ok (.invokevirtual 101, 3) := by decide +kernel
theorem dL_law_864 : decode code 864 = .ok (.aload_n 2, 1) := by decide +kernel
theorem dL_law_865 : decode code 865 = .ok (.invokevirtual 105, 3) := by decide +kernel
theorem dL_law_868 : decode code 868 = .ok (.if_icmp .eq 549, 3) := by decide +kernel
theorem dL_law_873 : decode code 873 = .ok (.aload_n 1, 1) := by decide +kernel
theorem dL_law_874 : decode code 874 = .ok (.aload_n 0, 1) := by decide +kernel
theorem dL_law_875 : decode code 875 = .ok (.iload_n 3, 1) := by decide +kernel
theorem dL_law_876 : decode code 876 = .ok (.iconst 1, 1) := by decide +kernel
theorem dL_law_877 : decode code 877 = .ok (.iadd, 1) := by decide +kernel
theorem dL_law_878 : decode code 878 = .ok (.iaload, 1) := by decide +kernel
theorem dL_law_879 : decode code 879 = .ok (.aload_n 0, 1) := by decide +kernel
theorem dL_law_880 : decode code 880 = .ok (.iload_n 3, 1) := by decide +kernel
theorem dL_law_881 : decode code 881 = .ok (.iconst 2, 1) := by decide +kernel
theorem dL_law_882 : decode code 882 = .ok (.iadd, 1) := by decide +kernel
theorem dL_law_883 : decode code 883 = .ok (.iaload, 1) := by decide +kernel
theorem dL_law_884 : decode code 884 = .ok (.aload_n 0, 1) := by decide +kernel
theorem dL_law_885 : decode code 885 = .ok (.iload_n 3, 1) := by decide +kernel
theorem dL_law_886 : decode code 886 = .ok (.iconst 3, 1) := by decide +kernel
theorem dL_law_887 : decode code 887 = .ok (.iadd, 1) := by decide +kernel
theorem dL_law_888 : decode code 888 = .ok (.iaload, 1) := by decide +kernel
theorem dL_law_889 : decode code 889 = .ok (.invokevirtual 106, 3) := by decide +kernel
theorem dL_law_892 : decode code 892 = .ok (.aload_n 2, 1) := by decide +kernel
theorem dL_law_893 : decode code 893 = .ok (.aload_n 0, 1) := by decide +kernel
theorem dL_law_894 : decode code 894 = .ok (.iload_n 3, 1) := by decide +kernel
theorem dL_law_895 : decode code 895 = .ok (.iconst 1, 1) := by decide +kernel
theorem dL_law_896 : decode code 896 = .ok (.iadd, 1) := by decide +kernel
theorem dL_law_897 : decode code 897 = .ok (.iaload, 1) := by decide +kernel
theorem dL_law_898 : decode code 898 = .ok (.aload_n 0, 1) := by decide +kernel
theorem dL_law_899 : decode code 899 = .ok (.iload_n 3, 1) := by decide +kernel
theorem dL_law_900 : decode code 900 = .ok (.iconst 2, 1) := by decide +kernel
theorem dL_law_901 : decode code 901 = .ok (.iadd, 1) := by decide +kernel
theorem dL_law_902 : decode code 902 = .ok (.iaload, 1) := by decide +kernel
theorem dL_law_903 : decode code 903 = .ok (.aload_n 0, 1) := by decide +kernel
theorem dL_law_904 : decode code 904 = .ok (.iload_n 3, 1) := by decide +kernel
theorem dL_law_905 : decode code 905 = .ok (.iconst 3, 1) := by decide +kernel
theorem dL_law_906 : decode code 906 = .ok (.iadd, 1) := by decide +kernel
theorem dL_law_907 : decode code 907 = .ok (.iaload, 1) := by decide +kernel
theorem dL_law_908 : decode code 908 = .ok (.invokevirtual 109, 3) := by decide +kernel
theorem dL_law_911 : decode code 911 = .ok (.if_icmp .eq 506, 3) := by decide +kernel
theorem dL_law_916 : decode code 916 = .ok (.aload_n 1, 1) := by decide +kernel
theorem dL_law_917 : decode code 917 = .ok (.aload_n 0, 1) := by decide +kernel
theorem dL_law_918 : decode code 918 = .ok (.iload_n 3, 1) := by decide +kernel
theorem dL_law_919 : decode code 919 = .ok (.iconst 1, 1) := by decide +kernel
theorem dL_law_920 : decode code 920 = .ok (.iadd, 1) := by decide +kernel
theorem dL_law_921 : decode code 921 = .ok (.iaload, 1) := by decide +kernel
theorem dL_law_922 : decode code 922 = .ok (.aload_n 0, 1) := by decide +kernel
theorem dL_law_923 : decode code 923 = .ok (.iload_n 3, 1) := by decide +kernel
theorem dL_law_924 : decode code 924 = .ok (.iconst 2, 1) := by decide +kernel
theorem dL_law_925 : decode code 925 = .ok (.iadd, 1) := by decide +kernel
theorem dL_law_926 : decode code 926 = .ok (.iaload, 1) := by decide +kernel
theorem dL_law_927 : decode code 927 = .ok (.aload_n 0, 1) := by decide +kernel
theorem dL_law_928 : decode code 928 = .ok (.iload_n 3, 1) := by decide +kernel
theorem dL_law_929 : decode code 929 = .ok (.iconst 3, 1) := by decide +kernel
theorem dL_law_930 : decode code 930 = .ok (.iadd, 1) := by decide +kernel
theorem dL_law_931 : decode code 931 = .ok (.iaload, 1) := by decide +kernel
theorem dL_law_932 : decode code 932 = .ok (.invokevirtual 110, 3) := by decide +kernel
theorem dL_law_935 : decode code 935 = .ok (.aload_n 2, 1) := by decide +kernel
theorem dL_law_936 : decode code 936 = .ok (.aload_n 0, 1) := by decide +kernel
theorem dL_law_937 : decode code 937 = .ok (.iload_n 3, 1) := by decide +kernel
theorem dL_law_938 : decode code 938 = .ok (.iconst 1, 1) := by decide +kernel
theorem dL_law_939 : decode code 939 = .ok (.iadd, 1) := by decide +kernel
theorem dL_law_940 : decode code 940 = .ok (.iaload, 1) := by decide +kernel
theorem dL_law_941 : decode code 941 = .ok (.aload_n 0, 1) := by decide +kernel
theorem dL_law_942 : decode code 942 = .ok (.iload_n 3, 1) := by decide +kernel
theorem dL_law_943 : decode code 943 = .ok (.iconst 2, 1) := by decide +kernel
theorem dL_law_944 : decode code 944 = .ok (.iadd, 1) := by decide +kernel
theorem dL_law_945 : decode code 945 = .ok (.iaload, 1) := by decide +kernel
theorem dL_law_946 : decode code 946 = .ok (.aload_n 0, 1) := by decide +kernel
theorem dL_law_947 : decode code 947 = .ok (.iload_n 3, 1) := by decide +kernel
theorem dL_law_948 : decode code 948 = .ok (.iconst 3, 1) := by decide +kernel
theorem dL_law_949 : decode code 949 = .ok (.iadd, 1) := by decide +kernel
theorem dL_law_950 : decode code 950 = .ok (.iaload, 1) := by decide +kernel
theorem dL_law_951 : decode code 951 = .ok (.invokevirtual 113, 3) := by decide +kernel
theorem dL_law_954 : decode code 954 = .ok (.if_icmp .eq 463, 3) := by decide +kernel
theorem dL_law_959 : decode code 959 = .ok (.aload_n 1, 1) := by decide +kernel
theorem dL_law_960 : decode code 960 = .ok (.aload_n 0, 1) := by decide +kernel
theorem dL_law_961 : decode code 961 = .ok (.iload_n 3, 1) := by decide +kernel
theorem dL_law_962 : decode code 962 = .ok (.iconst 1, 1) := by decide +kernel
theorem dL_law_963 : decode code 963 = .ok (.iadd, 1) := by decide +kernel
theorem dL_law_964 : decode code 964 = .ok (.iaload, 1) := by decide +kernel
theorem dL_law_965 : decode code 965 = .ok (.aload_n 0, 1) := by decide +kernel
theorem dL_law_966 : decode code 966 = .ok (.iload_n 3, 1) := by decide +kernel
theorem dL_law_967 : decode code 967 = .ok (.iconst 2, 1) := by decide +kernel
theorem dL_law_968 : decode code 968 = .ok (.iadd, 1) := by decide +kernel
theorem dL_law_969 : decode code 969 = .ok (.iaload, 1) := by decide +kernel
theorem dL_law_970 : decode code 970 = .ok (.invokevirtual 114, 3) := by decide +kernel
theorem dL_law_973 : decode code 973 = .ok (.aload_n 2, 1) := by decide +kernel
theorem dL_law_974 : decode code 974 = .ok (.aload_n 0, 1) := by decide +kernel
theorem dL_law_975 : decode code 975 = .ok (.iload_n 3, 1) := by decide +kernel
theorem dL_law_976 : decode code 976 = .ok (.iconst 1, 1) := by decide +kernel
theorem dL_law_977 : decode code 977 = .ok (.iadd, 1) := by decide +kernel
theorem dL_law_978 : decode code 978 = .ok (.iaload, 1) := by decide +kernel
theorem dL_law_979 : decode code 979 = .ok (.aload_n 0, 1) := by decide +kernel
theorem dL_law_980 : decode code 980 = .ok (.iload_n 3, 1) := by decide +kernel
theorem dL_law_981 : decode code 981 = .ok (.iconst 2, 1) := by decide +kernel
theorem dL_law_982 : decode code 982 = .ok (.iadd, 1) := by decide +kernel
theorem dL_law_983 : decode code 983 = .ok (.iaload, 1) := by decide +kernel
theorem dL_law_984 : decode code 984 = .ok (.invokevirtual 117, 3) := by decide +kernel
theorem dL_law_987 : decode code 987 = .ok (.if_icmp .eq 430, 3) := by decide +kernel
theorem dL_law_992 : decode code 992 = .ok (.aload_n 1, 1) := by decide +kernel
theorem dL_law_993 : decode code 993 = .ok (.aload_n 0, 1) := by decide +kernel
theorem dL_law_994 : decode code 994 = .ok (.iload_n 3, 1) := by decide +kernel
theorem dL_law_995 : decode code 995 = .ok (.iconst 1, 1) := by decide +kernel
theorem dL_law_996 : decode code 996 = .ok (.iadd, 1) := by decide +kernel
theorem dL_law_997 : decode code 997 = .ok (.iaload, 1) := by decide +kernel
theorem dL_law_998 : decode code 998 = .ok (.aload_n 0, 1) := by decide +kernel
theorem dL_law_999 : decode code 999 = .ok (.iload_n 3, 1) := by decide +kernel
theorem dL_law_1000 : decode code 1000 = .ok (.iconst 2, 1) := by decide +kernel
theorem dL_law_1001 : decode code 1001 = .ok (.iadd, 1) := by decide +kernel
theorem dL_law_1002 : decode code 1002 = .ok (.iaload, 1) := by decide +kernel
theorem dL_law_1003 : decode code 1003 = .ok (.invokevirtual 118, 3) := by decide +kernel
theorem dL_law_1006 : decode code 1006 = .ok (.aload_n 2, 1) := by decide +kernel
theorem dL_law_1007 : decode code 1007 = .ok (.aload_n 0, 1) := by decide +kernel
theorem dL_law_1008 : decode code 1008 = .ok (.iload_n 3, 1) := by decide +kernel
theorem dL_law_1009 : decode code 1009 = .ok (.iconst 1, 1) := by decide +kernel
theorem dL_law_1010 : decode code 1010 = .ok (.iadd, 1) := by decide +kernel
theorem dL_law_1011 : decode code 1011 = .ok (.iaload, 1) := by decide +kernel
theorem dL_law_1012 : decode code 1012 = .ok (.aload_n 0, 1) := by decide +kernel
theorem dL_law_1013 : decode code 1013 = .ok (.iload_n 3, 1) := by decide +kernel
theorem dL_law_1014 : decode code 1014 = .ok (.iconst 2, 1) := by decide +kernel
theorem dL_law_1015 : decode code 1015 = .ok (.iadd, 1) := by decide +kernel
theorem dL_law_1016 : decode code 1016 = .ok (.iaload, 1) := by decide +kernel
theorem dL_law_1017 : decode code 1017 = .ok (.invokevirtual 121, 3) := by decide +kernel
theorem dL_law_1020 : decode code 1020 = .ok (.if_icmp .eq 397, 3) := by decide +kernel
theorem dL_law_1025 : decode code 1025 = .ok (.aload_n 1, 1) := by decide +kernel
theorem dL_law_1026 : decode code 1026 = .ok (.aload_n 0, 1) := by decide +kernel
theorem dL_law_1027 : decode code 1027 = .ok (.iload_n 3, 1) := by decide +kernel
theorem dL_law_1028 : decode code 1028 = .ok (.iconst 1, 1) := by decide +kernel
theorem dL_law_1029 : decode code 1029 = .ok (.iadd, 1) := by decide +kernel
theorem dL_law_1030 : decode code 1030 = .ok (.iaload, 1) := by decide +kernel
theorem dL_law_1031 : decode code 1031 = .ok (.invokevirtual 122, 3) := by decide +kernel
theorem dL_law_1034 : decode code 1034 = .ok (.aload_n 2, 1) := by decide +kernel
theorem dL_law_1035 : decode code 1035 = .ok (.aload_n 0, 1) := by decide +kernel
theorem dL_law_1036 : decode code 1036 = .ok (.iload_n 3, 1) := by decide +kernel
theorem dL_law_1037 : decode code 1037 = .ok (.iconst 1, 1) := by decide +kernel
theorem dL_law_1038 : decode code 1038 = .ok (.iadd, 1) := by decide +kernel
theorem dL_law_1039 : decode code 1039 = .ok (.iaload, 1) := by decide +kernel
theorem dL_law_1040 : decode code 1040 = .ok (.invokevirtual 125, 3) := by decide +kernel
theorem dL_law_1043 : decode code 1043 = .ok (.if_icmp .eq 374, 3) := by decide +kernel
theorem dL_law_1048 : decode code 1048 = .ok (.aload_n 1, 1) := by decide +kernel
theorem dL_law_1049 : decode code 1049 = .ok (.aload_n 0, 1) := by decide +kernel
theorem dL_law_1050 : decode code 1050 = .ok (.iload_n 3, 1) := by decide +kernel
theorem dL_law_1051 : decode code 1051 = .ok (.iconst 1, 1) := by decide +kernel
theorem dL_law_1052 : decode code 1052 = .ok (.iadd, 1) := by decide +kernel
theorem dL_law_1053 : decode code 1053 = .ok (.iaload, 1) := by decide +kernel
theorem dL_law_1054 : decode code 1054 = .ok (.invokevirtual 126, 3) := by decide +kernel
theorem dL_law_1057 : decode code 1057 = .ok (.aload_n 2, 1) := by decide +kernel
theorem dL_law_1058 : decode code 1058 = .ok (.aload_n 0, 1) := by decide +kernel
theorem dL_law_1059 : decode code 1059 = .ok (.iload_n 3, 1) := by decide +kernel
theorem dL_law_1060 : decode code 1060 = .ok (.iconst 1, 1) := by decide +kernel
theorem dL_law_1061 : decode code 1061 = .ok (.iadd, 1) := by decide +kernel
theorem dL_law_1062 : decode code 1062 = .ok (.iaload, 1) := by decide +kernel
theorem dL_law_1063 : decode code 1063 = .ok (.invokevirtual 129, 3) := by decide +kernel
theorem dL_law_1066 : decode code 1066 = .ok (.if_icmp .eq 351, 3) := by decide +kernel
theorem dL_law_1071 : decode code 1071 = .ok (.aload_n 1, 1) := by decide +kernel
theorem dL_law_1072 : decode code 1072 = .ok (.aload_n 0, 1) := by decide +kernel
theorem dL_law_1073 : decode code 1073 = .ok (.iload_n 3, 1) := by decide +kernel
theorem dL_law_1074 : decode code 1074 = .ok (.iconst 1, 1) := by decide +kernel
theorem dL_law_1075 : decode code 1075 = .ok (.iadd, 1) := by decide +kernel
theorem dL_law_1076 : decode code 1076 = .ok (.iaload, 1) := by decide +kernel
theorem dL_law_1077 : decode code 1077 = .ok (.aload_n 0, 1) := by decide +kernel
theorem dL_law_1078 : decode code 1078 = .ok (.iload_n 3, 1) := by decide +kernel
theorem dL_law_1079 : decode code 1079 = .ok (.iconst 2, 1) := by decide +kernel
theorem dL_law_1080 : decode code 1080 = .ok (.iadd, 1) := by decide +kernel
theorem dL_law_1081 : decode code 1081 = .ok (.iaload, 1) := by decide +kernel
theorem dL_law_1082 : decode code 1082 = .ok (.invokevirtual 130, 3) := by decide +kernel
theorem dL_law_1085 : decode code 1085 = .ok (.aload_n 2, 1) := by decide +kernel
theorem dL_law_1086 : decode code 1086 = .ok (.aload_n 0, 1) := by decide +kernel
theorem dL_law_1087 : decode code 1087 = .ok (.iload_n 3, 1) := by decide +kernel
theorem dL_law_1088 : decode code 1088 = .ok (.iconst 1, 1) := by decide +kernel
theorem dL_law_1089 : decode code 1089 = .ok (.iadd, 1) := by decide +kernel
theorem dL_law_1090 : decode code 1090 = .ok (.iaload, 1) := by decide +kernel
theorem dL_law_1091 : decode code 1091 = .ok (.aload_n 0, 1) := by decide +kernel
theorem dL_law_1092 : decode code 1092 = .ok (.iload_n 3, 1) := by decide +kernel
theorem dL_law_1093 : decode code 1093 = .ok (.iconst 2, 1) := by decide +kernel
theorem dL_law_1094 : decode code 1094 = .ok (.iadd, 1) := by decide +kernel
theorem dL_law_1095 : decode code 1095 = .ok (.iaload, 1) := by decide +kernel
theorem dL_law_1096 : decode code 1096 = .ok (.invokevirtual 133, 3) := by decide +kernel
theorem dL_law_1099 : decode code 1099 = .ok (.if_icmp .eq 318, 3) := by decide +kernel
theorem dL_law_1104 : decode code 1104 = .ok (.aload_n 1, 1) := by decide +kernel
theorem dL_law_1105 : decode code 1105 = .ok (.aload_n 0, 1) := by decide +kernel
theorem dL_law_1106 : decode code 1106 = .ok (.iload_n 3, 1) := by decide +kernel
theorem dL_law_1107 : decode code 1107 = .ok (.iconst 1, 1) := by decide +kernel
theorem dL_law_1108 : decode code 1108 = .ok (.iadd, 1) := by decide +kernel
theorem dL_law_1109 : decode code 1109 = .ok (.iaload, 1) := by decide +kernel
theorem dL_law_1110 : decode code 1110 = .ok (.aload_n 0, 1) := by decide +kernel
theorem dL_law_1111 : decode code 1111 = .ok (.iload_n 3, 1) := by decide +kernel
theorem dL_law_1112 : decode code 1112 = .ok (.iconst 2, 1) := by decide +kernel
theorem dL_law_1113 : decode code 1113 = .ok (.iadd, 1) := by decide +kernel
theorem dL_law_1114 : decode code 1114 = .ok (.iaload, 1) := by decide +kernel
theorem dL_law_1115 : decode code 1115 = .ok (.aload_n 0, 1) := by decide +kernel
theorem dL_law_1116 : decode code 1116 = .ok (.iload_n 3, 1) := by decide +kernel
theorem dL_law_1117 : decode code 1117 = .ok (.iconst 3, 1) := by decide +kernel
theorem dL_law_1118 : decode code 1118 = .ok (.iadd, 1) := by decide +kernel
theorem dL_law_1119 : decode code 1119 = .ok (.iaload, 1) := by decide +kernel
theorem dL_law_1120 : decode code 1120 = .ok (.invokevirtual 134, 3) := by decide +kernel
theorem dL_law_1123 : decode code 1123 = .ok (.aload_n 2, 1) := by decide +kernel
theorem dL_law_1124 : decode code 1124 = .ok (.aload_n 0, 1) := by decide +kernel
theorem dL_law_1125 : decode code 1125 = .ok (.iload_n 3, 1) := by decide +kernel
theorem dL_law_1126 : decode code 1126 = .ok (.iconst 1, 1) := by decide +kernel
theorem dL_law_1127 : decode code 1127 = .ok (.iadd, 1) := by decide +kernel
theorem dL_law_1128 : decode code 1128 = .ok (.iaload, 1) := by decide +kernel
theorem dL_law_1129 : decode code 1129 = .ok (.aload_n 0, 1) := by decide +kernel
theorem dL_law_1130 : decode code 1130 = .ok (.iload_n 3, 1) := by decide +kernel
theorem dL_law_1131 : decode code 1131 = .ok (.iconst 2, 1) := by decide +kernel
theorem dL_law_1132 : decode code 1132 = .ok (.iadd, 1) := by decide +kernel
theorem dL_law_1133 : decode code 1133 = .ok (.iaload, 1) := by decide +kernel
theorem dL_law_1134 : decode code 1134 = .ok (.aload_n 0, 1) := by decide +kernel
theorem dL_law_1135 : decode code 1135 = .ok (.iload_n 3, 1) := by decide +kernel
theorem dL_law_1136 : decode code 1136 = .ok (.iconst 3, 1) := by decide +kernel
theorem dL_law_1137 : decode code 1137 = .ok (.iadd, 1) := by decide +kernel
theorem dL_law_1138 : decode code 1138 = .ok (.iaload, 1) := by decide +kernel
theorem dL_law_1139 : decode code 1139 = .ok (.invokevirtual 137, 3) := by decide +kernel
theorem dL_law_1142 : decode code 1142 = .ok (.if_icmp .eq 275, 3) := by decide +kernel
theorem dL_law_1147 : decode code 1147 = .ok (.aload_n 1, 1) := by decide +kernel
theorem dL_law_1148 : decode code 1148 = .ok (.aload_n 0, 1) := by decide +kernel
theorem dL_law_1149 : decode code 1149 = .ok (.iload_n 3, 1) := by decide +kernel
theorem dL_law_1150 : decode code 1150 = .ok (.iconst 1, 1) := by decide +kernel
theorem dL_law_1151 : decode code 1151 = .ok (.iadd, 1) := by decide +kernel
theorem dL_law_1152 : decode code 1152 = .ok (.iaload, 1) := by decide +kernel
theorem dL_law_1153 : decode code 1153 = .ok (.invokevirtual 138, 3) := by decide +kernel
theorem dL_law_1156 : decode code 1156 = .ok (.aload_n 2, 1) := by decide +kernel
theorem dL_law_1157 : decode code 1157 = .ok (.aload_n 0, 1) := by decide +kernel
theorem dL_law_1158 : decode code 1158 = .ok (.iload_n 3, 1) := by decide +kernel
theorem dL_law_1159 : decode code 1159 = .ok (.iconst 1, 1) := by decide +kernel
theorem dL_law_1160 : decode code 1160 = .ok (.iadd, 1) := by decide +kernel
theorem dL_law_1161 : decode code 1161 = .ok (.iaload, 1) := by decide +kernel
theorem dL_law_1162 : decode code 1162 = .ok (.invokevirtual 141, 3) := by decide +kernel
theorem dL_law_1165 : decode code 1165 = .ok (.if_icmp .eq 252, 3) := by decide +kernel
theorem dL_law_1170 : decode code 1170 = .ok (.aload_n 1, 1) := by decide +kernel
theorem dL_law_1171 : decode code 1171 = .ok (.aload_n 0, 1) := by decide +kernel
theorem dL_law_1172 : decode code 1172 = .ok (.iload_n 3, 1) := by decide +kernel
theorem dL_law_1173 : decode code 1173 = .ok (.iconst 1, 1) := by decide +kernel
theorem dL_law_1174 : decode code 1174 = .ok (.iadd, 1) := by decide +kernel
theorem dL_law_1175 : decode code 1175 = .ok (.iaload, 1) := by decide +kernel
theorem dL_law_1176 : decode code 1176 = .ok (.aload_n 0, 1) := by decide +kernel
theorem dL_law_1177 : decode code 1177 = .ok (.iload_n 3, 1) := by decide +kernel
theorem dL_law_1178 : decode code 1178 = .ok (.iconst 2, 1) := by decide +kernel
theorem dL_law_1179 : decode code 1179 = .ok (.iadd, 1) := by decide +kernel
theorem dL_law_1180 : decode code 1180 = .ok (.iaload, 1) := by decide +kernel
theorem dL_law_1181 : decode code 1181 = .ok (.aload_n 0, 1) := by decide +kernel
theorem dL_law_1182 : decode code 1182 = .ok (.iload_n 3, 1) := by decide +kernel
theorem dL_law_1183 : decode code 1183 = .ok (.iconst 3, 1) := by decide +kernel
theorem dL_law_1184 : decode code 1184 = .ok (.iadd, 1) := by decide +kernel
theorem dL_law_1185 : decode code 1185 = .ok (.iaload, 1) := by decide +kernel
theorem dL_law_1186 : decode code 1186 = .ok (.aload_n 0, 1) := by decide +kernel
theorem dL_law_1187 : decode code 1187 = .ok (.iload_n 3, 1) := by decide +kernel
theorem dL_law_1188 : decode code 1188 = .ok (.iconst 4, 1) := by decide +kernel
theorem dL_law_1189 : decode code 1189 = .ok (.iadd, 1) := by decide +kernel
theorem dL_law_1190 : decode code 1190 = .ok (.iaload, 1) := by decide +kernel
theorem dL_law_1191 : decode code 1191 = .ok (.invokevirtual 142, 3) := by decide +kernel
theorem dL_law_1194 : decode code 1194 = .ok (.aload_n 2, 1) := by decide +kernel
theorem dL_law_1195 : decode code 1195 = .ok (.aload_n 0, 1) := by decide +kernel
theorem dL_law_1196 : decode code 1196 = .ok (.iload_n 3, 1) := by decide +kernel
theorem dL_law_1197 : decode code 1197 = .ok (.iconst 1, 1) := by decide +kernel
theorem dL_law_1198 : decode code 1198 = .ok (.iadd, 1) := by decide +kernel
theorem dL_law_1199 : decode code 1199 = .ok (.iaload, 1) := by decide +kernel
theorem dL_law_1200 : decode code 1200 = .ok (.aload_n 0, 1) := by decide +kernel
theorem dL_law_1201 : decode code 1201 = .ok (.iload_n 3, 1) := by decide +kernel
theorem dL_law_1202 : decode code 1202 = .ok (.iconst 2, 1) := by decide +kernel
theorem dL_law_1203 : decode code 1203 = .ok (.iadd, 1) := by decide +kernel
theorem dL_law_1204 : decode code 1204 = .ok (.iaload, 1) := by decide +kernel
theorem dL_law_1205 : decode code 1205 = .ok (.aload_n 0, 1) := by decide +kernel
theorem dL_law_1206 : decode code 1206 = .ok (.iload_n 3, 1) := by decide +kernel
theorem dL_law_1207 : decode code 1207 = .ok (.iconst 3, 1) := by decide +kernel
theorem dL_law_1208 : decode code 1208 = .ok (.iadd, 1) := by decide +kernel
theorem dL_law_1209 : decode code 1209 = .ok (.iaload, 1) := by decide +kernel
theorem dL_law_1210 : decode code 1210 = .ok (.aload_n 0, 1) := by decide +kernel
theorem dL_law_1211 : decode code 1211 = .ok (.iload_n 3, 1) := by decide +kernel
theorem dL_law_1212 : decode code 1212 = .ok (.iconst 4, 1) := by decide +kernel
theorem dL_law_1213 : decode code 1213 = .ok (.iadd, 1) := by decide +kernel
theorem dL_law_1214 : decode code 1214 = .ok (.iaload, 1) := by decide +kernel
theorem dL_law_1215 : decode code 1215 = .ok (.invokevirtual 146, 3) := by decide +kernel
theorem dL_law_1218 : decode code 1218 = .ok (.if_icmp .eq 199, 3) := by decide +kernel
theorem dL_law_1223 : decode code 1223 = .ok (.aload_n 1, 1) := by decide +kernel
theorem dL_law_1224 : decode code 1224 = .ok (.aload_n 0, 1) := by decide +kernel
theorem dL_law_1225 : decode code 1225 = .ok (.iload_n 3, 1) := by decide +kernel
theorem dL_law_1226 : decode code 1226 = .ok (.iconst 1, 1) := by decide +kernel
theorem dL_law_1227 : decode code 1227 = .ok (.iadd, 1) := by decide +kernel
theorem dL_law_1228 : decode code 1228 = .ok (.iaload, 1) := by decide +kernel
theorem dL_law_1229 : decode code 1229 = .ok (.aload_n 0, 1) := by decide +kernel
theorem dL_law_1230 : decode code 1230 = .ok (.iload_n 3, 1) := by decide +kernel
theorem dL_law_1231 : decode code 1231 = .ok (.iconst 2, 1) := by decide +kernel
theorem dL_law_1232 : decode code 1232 = .ok (.iadd, 1) := by decide +kernel
theorem dL_law_1233 : decode code 1233 = .ok (.iaload, 1) := by decide +kernel
theorem dL_law_1234 : decode code 1234 = .ok (.invokevirtual 147, 3) := by decide +kernel
theorem dL_law_1237 : decode code 1237 = .ok (.aload_n 2, 1) := by decide +kernel
theorem dL_law_1238 : decode code 1238 = .ok (.aload_n 0, 1) := by decide +kernel
theorem dL_law_1239 : decode code 1239 = .ok (.iload_n 3, 1) := by decide +kernel
theorem dL_law_1240 : decode code 1240 = .ok (.iconst 1, 1) := by decide +kernel
theorem dL_law_1241 : decode code 1241 = .ok (.iadd, 1) := by decide +kernel
theorem dL_law_1242 : decode code 1242 = .ok (.iaload, 1) := by decide +kernel
theorem dL_law_1243 : decode code 1243 = .ok (.aload_n 0, 1) := by decide +kernel
theorem dL_law_1244 : decode code 1244 = .ok (.iload_n 3, 1) := by decide +kernel
theorem dL_law_1245 : decode code 1245 = .ok (.iconst 2, 1) := by decide +kernel
theorem dL_law_1246 : decode code 1246 = .ok (.iadd, 1) := by decide +kernel
theorem dL_law_1247 : decode code 1247 = .ok (.iaload, 1) := by decide +kernel
theorem dL_law_1248 : decode code 1248 = .ok (.invokevirtual 150, 3) := by decide +kernel
theorem dL_law_1251 : decode code 1251 = .ok (.if_icmp .eq 166, 3) := by decide +kernel
theorem dL_law_1256 : decode code 1256 = .ok (.aload_n 1, 1) := by decide +kernel
theorem dL_law_1257 : decode code 1257 = .ok (.aload_n 0, 1) := by decide +kernel
theorem dL_law_1258 : decode code 1258 = .ok (.iload_n 3, 1) := by decide +kernel
theorem dL_law_1259 : decode code 1259 = .ok (.iconst 1, 1) := by decide +kernel
theorem dL_law_1260 : decode code 1260 = .ok (.iadd, 1) := by decide +kernel
theorem dL_law_1261 : decode code 1261 = .ok (.iaload, 1) := by decide +kernel
theorem dL_law_1262 : decode code 1262 = .ok (.aload_n 0, 1) := by decide +kernel
theorem dL_law_1263 : decode code 1263 = .ok (.iload_n 3, 1) := by decide +kernel
theorem dL_law_1264 : decode code 1264 = .ok (.iconst 2, 1) := by decide +kernel
theorem dL_law_1265 : decode code 1265 = .ok (.iadd, 1) := by decide +kernel
theorem dL_law_1266 : decode code 1266 = .ok (.iaload, 1) := by decide +kernel
theorem dL_law_1267 : decode code 1267 = .ok (.invokevirtual 151, 3) := by decide +kernel
theorem dL_law_1270 : decode code 1270 = .ok (.aload_n 2, 1) := by decide +kernel
theorem dL_law_1271 : decode code 1271 = .ok (.aload_n 0, 1) := by decide +kernel
theorem dL_law_1272 : decode code 1272 = .ok (.iload_n 3, 1) := by decide +kernel
theorem dL_law_1273 : decode code 1273 = .ok (.iconst 1, 1) := by decide +kernel
theorem dL_law_1274 : decode code 1274 = .ok (.iadd, 1) := by decide +kernel
theorem dL_law_1275 : decode code 1275 = .ok (.iaload, 1) := by decide +kernel
theorem dL_law_1276 : decode code 1276 = .ok (.aload_n 0, 1) := by decide +kernel
theorem dL_law_1277 : decode code 1277 = .ok (.iload_n 3, 1) := by decide +kernel
theorem dL_law_1278 : decode code 1278 = .ok (.iconst 2, 1) := by decide +kernel
theorem dL_law_1279 : decode code 1279 = .ok (.iadd, 1) := by decide +kernel
theorem dL_law_1280 : decode code 1280 = .ok (.iaload, 1) := by decide +kernel
theorem dL_law_1281 : decode code 1281 = .ok (.invokevirtual 154, 3) := by decide +kernel
theorem dL_law_1284 : decode code 1284 = .ok (.if_icmp .eq 133, 3) := by decide +kernel
theorem dL_law_1289 : decode code 1289 = .ok (.aload_n 1, 1) := by decide +kernel
theorem dL_law_1290 : decode code 1290 = .ok (.aload_n 0, 1) := by decide +kernel
theorem dL_law_1291 : decode code 1291 = .ok (.iload_n 3, 1) := by decide +kernel
theorem dL_law_1292 : decode code 1292 = .ok (.iconst 1, 1) := by decide +kernel
theorem dL_law_1293 : decode code 1293 = .ok (.iadd, 1) := by decide +kernel
theorem dL_law_1294 : decode code 1294 = .ok (.iaload, 1) := by decide +kernel
theorem dL_law_1295 : decode code 1295 = .ok (.aload_n 0, 1) := by decide +kernel
theorem dL_law_1296 : decode code 1296 = .ok (.iload_n 3, 1) := by decide +kernel
theorem dL_law_1297 : decode code 1297 = .ok (.iconst 2, 1) := by decide +kernel
theorem dL_law_1298 : decode code 1298 = .ok (.iadd, 1) := by decide +kernel
theorem dL_law_1299 : decode code 1299 = .ok (.iaload, 1) := by decide +kernel
theorem dL_law_1300 : decode code 1300 = .ok (.invokevirtual 155, 3) := by decide +kernel
theorem dL_law_1303 : decode code 1303 = .ok (.aload_n 2, 1) := by decide +kernel
theorem dL_law_1304 : decode code 1304 = .ok (.aload_n 0, 1) := by decide +kernel
theorem dL_law_1305 : decode code 1305 = .ok (.iload_n 3, 1) := by decide +kernel
theorem dL_law_1306 : decode code 1306 = .ok (.iconst 1, 1) := by decide +kernel
theorem dL_law_1307 : decode code 1307 = .ok (.iadd, 1) := by decide +kernel
theorem dL_law_1308 : decode code 1308 = .ok (.iaload, 1) := by decide +kernel
theorem dL_law_1309 : decode code 1309 = .ok (.aload_n 0, 1) := by decide +kernel
theorem dL_law_1310 : decode code 1310 = .ok (.iload_n 3, 1) := by decide +kernel
theorem dL_law_1311 : decode code 1311 = .ok (.iconst 2, 1) := by decide +kernel
theorem dL_law_1312 : decode code 1312 = .ok (.iadd, 1) := by decide +kernel
theorem dL_law_1313 : decode code 1313 = .ok (.iaload, 1) := by decide +kernel
theorem dL_law_1314 : decode code 1314 = .ok (.invokevirtual 158, 3) := by decide +kernel
theorem dL_law_1317 : decode code 1317 = .ok (.if_icmp .eq 100, 3) := by decide +kernel
theorem dL_law_1322 : decode code 1322 = .ok (.aload_n 1, 1) := by decide +kernel
theorem dL_law_1323 : decode code 1323 = .ok (.aload_n 0, 1) := by decide +kernel
theorem dL_law_1324 : decode code 1324 = .ok (.iload_n 3, 1) := by decide +kernel
theorem dL_law_1325 : decode code 1325 = .ok (.iconst 1, 1) := by decide +kernel
theorem dL_law_1326 : decode code 1326 = .ok (.iadd, 1) := by decide +kernel
theorem dL_law_1327 : decode code 1327 = .ok (.iaload, 1) := by decide +kernel
theorem dL_law_1328 : decode code 1328 = .ok (.invokevirtual 159, 3) := by decide +kernel
theorem dL_law_1331 : decode code 1331 = .ok (.aload_n 2, 1) := by decide +kernel
theorem dL_law_1332 : decode code 1332 = .ok (.aload_n 0, 1) := by decide +kernel
theorem dL_law_1333 : decode code 1333 = .ok (.iload_n 3, 1) := by decide +kernel
theorem dL_law_1334 : decode code 1334 = .ok (.iconst 1, 1) := by decide +kernel
theorem dL_law_1335 : decode code 1335 = .ok (.iadd, 1) := by decide +kernel
theorem dL_law_1336 : decode code 1336 = .ok (.iaload, 1) := by decide +kernel
theorem dL_law_1337 : decode code 1337 = .ok (.invokevirtual 162, 3) := by decide +kernel
theorem dL_law_1340 : decode code 1340 = .ok (.if_icmp .eq 77, 3) := by decide +kernel
theorem dL_law_1345 : decode code 1345 = .ok (.aload_n 1, 1) := by decide +kernel
theorem dL_law_1346 : decode code 1346 = .ok (.invokevirtual 163, 3) := by decide +kernel
theorem dL_law_1349 : decode code 1349 = .ok (.aload_n 2, 1) := by decide +kernel
theorem dL_law_1350 : decode code 1350 = .ok (.invokevirtual 166, 3) := by decide +kernel
theorem dL_law_1353 : decode code 1353 = .ok (.if_icmp .eq 64, 3) := by decide +kernel
theorem dL_law_1358 : decode code 1358 = .ok (.aload_n 1, 1) := by decide +kernel
theorem dL_law_1359 : decode code 1359 = .ok (.aload_n 0, 1) := by decide +kernel
theorem dL_law_1360 : decode code 1360 = .ok (.iload_n 3, 1) := by decide +kernel
theorem dL_law_1361 : decode code 1361 = .ok (.iconst 1, 1) := by decide +kernel
theorem dL_law_1362 : decode code 1362 = .ok (.iadd, 1) := by decide +kernel
theorem dL_law_1363 : decode code 1363 = .ok (.iaload, 1) := by decide +kernel
theorem dL_law_1364 : decode code 1364 = .ok (.invokevirtual 167, 3) := by decide +kernel
theorem dL_law_1367 : decode code 1367 = .ok (.aload_n 2, 1) := by decide +kernel
theorem dL_law_1368 : decode code 1368 = .ok (.aload_n 0, 1) := by decide +kernel
theorem dL_law_1369 : decode code 1369 = .ok (.iload_n 3, 1) := by decide +kernel
theorem dL_law_1370 : decode code 1370 = .ok (.iconst 1, 1) := by decide +kernel
theorem dL_law_1371 : decode code 1371 = .ok (.iadd, 1) := by decide +kernel
theorem dL_law_1372 : decode code 1372 = .ok (.iaload, 1) := by decide +kernel
theorem dL_law_1373 : decode code 1373 = .ok (.invokevirtual 170, 3) := by decide +kernel
theorem dL_law_1376 : decode code 1376 = .ok (.if_icmp .eq 41, 3) := by decide +kernel
theorem dL_law_1381 : decode code 1381 = .ok (.aload_n 1, 1) := by decide +kernel
theorem dL_law_1382 : decode code 1382 = .ok (.invokevirtual 171, 3) := by decide +kernel
theorem dL_law_1385 : decode code 1385 = .ok (.aload_n 2, 1) := by decide +kernel
theorem dL_law_1386 : decode code 1386 = .ok (.invokevirtual 174, 3) := by decide +kernel
theorem dL_law_1389 : decode code 1389 = .ok (.if_icmp .eq 28, 3) := by decide +kernel
theorem dL_law_1394 : decode code 1394 = .ok (.aload_n 1, 1) := by decide +kernel
theorem dL_law_1395 : decode code 1395 = .ok (.aload_n 0, 1) := by decide +kernel
theorem dL_law_1396 : decode code 1396 = .ok (.iload_n 3, 1) := by decide +kernel
theorem dL_law_1397 : decode code 1397 = .ok (.iconst 1, 1) := by decide +kernel
theorem dL_law_1398 : decode code 1398 = .ok (.iadd, 1) := by decide +kernel
theorem dL_law_1399 : decode code 1399 = .ok (.iaload, 1) := by decide +kernel
theorem dL_law_1400 : decode code 1400 = .ok (.invokevirtual 175, 3) := by decide +kernel
theorem dL_law_1403 : decode code 1403 = .ok (.aload_n 2, 1) := by decide +kernel
theorem dL_law_1404 : decode code 1404 = .ok (.aload_n 0, 1) := by decide +kernel
theorem dL_law_1405 : decode code 1405 = .ok (.iload_n 3, 1) := by decide +kernel
theorem dL_law_1406 : decode code 1406 = .ok (.iconst 1, 1) := by decide +kernel
theorem dL_law_1407 : decode code 1407 = .ok (.iadd, 1) := by decide +kernel
theorem dL_law_1408 : decode code 1408 = .ok (.iaload, 1) := by decide +kernel
theorem dL_law_1409 : decode code 1409 = .ok (.invokevirtual 178, 3) := by decide +kernel
theorem dL_law_1412 : decode code 1412 = .ok (.if_icmp .eq 5, 3) := by decide +kernel
theorem dL_law_1417 : decode code 1417 = .ok (.iinc 3 6, 3) := by decide +kernel
theorem dL_law_1420 : decode code 1420 = .ok (.goto (-1402), 3) := by decide +kernel
theorem dL_law_1423 : decode code 1423 = .ok (.iconst 1, 1) := by decide +kernel
theorem dL_law_1424 : decode code 1424 = .ok (.ireturn, 1) := by decide +kernel
theorem lr_01 (x : Int) : (if x = 0 then (0 : Int) else 1) = 0 ∨ (if x = 0 then (0 : Int) else 1) = 1 := by
  by_cases q : x = 0
  · rw [if_pos q]; exact Or.inl rfl
  · rw [if_neg q]; exact Or.inr rfl
theorem lqB_feed : lcB 124 13 810 5 11 = true := by decide +kernel
theorem lqR_feed : lcB 204 17 1929 5 12 = true := by decide +kernel
theorem lc_feed {p : Program} {l : Launch} {e : Env} {s : State} {m : MethodId} {below : List Frame} {meth : Method} {c : Code} {b L : Nat} {xs : Nat → Int32} {G : va_G} {cs : Nat → ClassId} (E : lE p s m meth c b L xs G cs) (hL : L ≤ 3072) {n : Nat} (hn : n + 6 ≤ L) {h : zH} (i : INV h) (g : zNg (tH zD0) h) (nx : ∀ h2, INV h2 → zNg (tH zD0) h2 → lA p l e s m below meth c b G cs n 1417 [] h2) : lA p l e s m below meth c b G cs n 204 [] h := by
  obtain ⟨a, h1, h2, e1, e2, i2, g1, g2⟩ := lr_two (yB := 124) (yR := 204) (as := [.inl (xs (n + 1)).toInt, .inl (xs (n + 2)).toInt, .inl (xs (n + 3)).toInt, .inl (xs (n + 4)).toInt, .inl (xs (n + 5)).toInt]) (a_feed (d := 57) (x1 := (xs (n + 1)).toInt) (x2 := (xs (n + 2)).toInt) (x3 := (xs (n + 3)).toInt) (x4 := (xs (n + 4)).toInt) (x5 := (xs (n + 5)).toInt) i (zI32_t _) (zI32_t _) (zI32_t _) (zI32_t _) (zI32_t _)) lqB_feed lqR_feed
  refine lr_load1 (pc := 204) E dL_law_204 (h0_b g) ?_
  refine lr_read (pc := 205) E 1 hL hn (by decide) dL_law_205 dL_law_206 dL_law_207 dL_law_208 dL_law_209 ?_
  refine lr_read (pc := 210) E 2 hL hn (by decide) dL_law_210 dL_law_211 dL_law_212 dL_law_213 dL_law_214 ?_
  refine lr_read (pc := 215) E 3 hL hn (by decide) dL_law_215 dL_law_216 dL_law_217 dL_law_218 dL_law_219 ?_
  refine lr_read (pc := 220) E 4 hL hn (by decide) dL_law_220 dL_law_221 dL_law_222 dL_law_223 dL_law_224 ?_
  refine lr_read (pc := 225) E 5 hL hn (by decide) dL_law_225 dL_law_226 dL_law_227 dL_law_228 dL_law_229 ?_
  refine lr_call (pc := 230) (as := [.inl (xs (n + 1)).toInt, .inl (xs (n + 2)).toInt, .inl (xs (n + 3)).toInt, .inl (xs (n + 4)).toInt, .inl (xs (n + 5)).toInt]) (S := []) E lqB_feed e1 g g1 (by decide) (by decide) dL_law_230 ?_
  refine lr_load2 (pc := 233) E dL_law_233 (h0_r (g.tr g1)) ?_
  refine lr_read (pc := 234) E 1 hL hn (by decide) dL_law_234 dL_law_235 dL_law_236 dL_law_237 dL_law_238 ?_
  refine lr_read (pc := 239) E 2 hL hn (by decide) dL_law_239 dL_law_240 dL_law_241 dL_law_242 dL_law_243 ?_
  refine lr_read (pc := 244) E 3 hL hn (by decide) dL_law_244 dL_law_245 dL_law_246 dL_law_247 dL_law_248 ?_
  refine lr_read (pc := 249) E 4 hL hn (by decide) dL_law_249 dL_law_250 dL_law_251 dL_law_252 dL_law_253 ?_
  refine lr_read (pc := 254) E 5 hL hn (by decide) dL_law_254 dL_law_255 dL_law_256 dL_law_257 dL_law_258 ?_
  refine lr_call (pc := 259) (as := [.inl (xs (n + 1)).toInt, .inl (xs (n + 2)).toInt, .inl (xs (n + 3)).toInt, .inl (xs (n + 4)).toInt, .inl (xs (n + 5)).toInt]) (S := [.inl a]) E lqR_feed e2 (g.tr g1) g2 (by decide) (show (1 : Nat) ≤ 8 by decide) dL_law_259 ?_
  refine lr_cmp (pc := 262) E dL_law_262 (by decide) ?_
  exact nx h2 i2 ((g.tr g1).tr g2)
theorem lqB_end : lcB 126 18 825 1 11 = true := by decide +kernel
theorem lqR_end : lcB 205 22 1941 1 12 = true := by decide +kernel
theorem lc_end {p : Program} {l : Launch} {e : Env} {s : State} {m : MethodId} {below : List Frame} {meth : Method} {c : Code} {b L : Nat} {xs : Nat → Int32} {G : va_G} {cs : Nat → ClassId} (E : lE p s m meth c b L xs G cs) (hL : L ≤ 3072) {n : Nat} (hn : n + 6 ≤ L) {h : zH} (i : INV h) (g : zNg (tH zD0) h) (nx : ∀ h2, INV h2 → zNg (tH zD0) h2 → lA p l e s m below meth c b G cs n 1417 [] h2) : lA p l e s m below meth c b G cs n 267 [] h := by
  obtain ⟨a, h1, h2, e1, e2, i2, g1, g2⟩ := lr_two (yB := 126) (yR := 205) (as := [.inl (xs (n + 1)).toInt]) (a_end (d := 57) (x := (xs (n + 1)).toInt) i) lqB_end lqR_end
  refine lr_load1 (pc := 267) E dL_law_267 (h0_b g) ?_
  refine lr_read (pc := 268) E 1 hL hn (by decide) dL_law_268 dL_law_269 dL_law_270 dL_law_271 dL_law_272 ?_
  refine lr_call (pc := 273) (as := [.inl (xs (n + 1)).toInt]) (S := []) E lqB_end e1 g g1 (by decide) (by decide) dL_law_273 ?_
  refine lr_load2 (pc := 276) E dL_law_276 (h0_r (g.tr g1)) ?_
  refine lr_read (pc := 277) E 1 hL hn (by decide) dL_law_277 dL_law_278 dL_law_279 dL_law_280 dL_law_281 ?_
  refine lr_call (pc := 282) (as := [.inl (xs (n + 1)).toInt]) (S := [.inl a]) E lqR_end e2 (g.tr g1) g2 (by decide) (show (1 : Nat) ≤ 8 by decide) dL_law_282 ?_
  refine lr_cmp (pc := 285) E dL_law_285 (by decide) ?_
  exact nx h2 i2 ((g.tr g1).tr g2)
theorem lqB_slope : lcB 127 23 829 0 11 = true := by decide +kernel
theorem lqR_slope : lcB 250 27 1945 0 12 = true := by decide +kernel
theorem lc_slope {p : Program} {l : Launch} {e : Env} {s : State} {m : MethodId} {below : List Frame} {meth : Method} {c : Code} {b L : Nat} {xs : Nat → Int32} {G : va_G} {cs : Nat → ClassId} (E : lE p s m meth c b L xs G cs) (hL : L ≤ 3072) {n : Nat} (hn : n + 6 ≤ L) {h : zH} (i : INV h) (g : zNg (tH zD0) h) (nx : ∀ h2, INV h2 → zNg (tH zD0) h2 → lA p l e s m below meth c b G cs n 1417 [] h2) : lA p l e s m below meth c b G cs n 290 [] h := by
  obtain ⟨a, h1, h2, e1, e2, i2, g1, g2⟩ := lr_two (yB := 127) (yR := 250) (as := []) (a_slope (d := 14) i) lqB_slope lqR_slope
  refine lr_load1 (pc := 290) E dL_law_290 (h0_b g) ?_
  refine lr_call (pc := 291) (as := []) (S := []) E lqB_slope e1 g g1 (by decide) (by decide) dL_law_291 ?_
  refine lr_load2 (pc := 294) E dL_law_294 (h0_r (g.tr g1)) ?_
  refine lr_call (pc := 295) (as := []) (S := [.inl a]) E lqR_slope e2 (g.tr g1) g2 (by decide) (show (1 : Nat) ≤ 8 by decide) dL_law_295 ?_
  refine lr_cmp (pc := 298) E dL_law_298 (by decide) ?_
  exact nx h2 i2 ((g.tr g1).tr g2)
theorem lqB_fault : lcB 128 28 1093 1 11 = true := by decide +kernel
theorem lqR_fault : lcB 251 32 2170 1 12 = true := by decide +kernel
theorem lc_fault {p : Program} {l : Launch} {e : Env} {s : State} {m : MethodId} {below : List Frame} {meth : Method} {c : Code} {b L : Nat} {xs : Nat → Int32} {G : va_G} {cs : Nat → ClassId} (E : lE p s m meth c b L xs G cs) (hL : L ≤ 3072) {n : Nat} (hn : n + 6 ≤ L) {h : zH} (i : INV h) (g : zNg (tH zD0) h) (nx : ∀ h2, INV h2 → zNg (tH zD0) h2 → lA p l e s m below meth c b G cs n 1417 [] h2) : lA p l e s m below meth c b G cs n 303 [] h := by
  obtain ⟨a, h1, h2, e1, e2, i2, g1, g2⟩ := lr_two (yB := 128) (yR := 251) (as := [.inl (xs (n + 1)).toInt]) (a_fault (d := 59) (x := (xs (n + 1)).toInt) i) lqB_fault lqR_fault
  refine lr_load1 (pc := 303) E dL_law_303 (h0_b g) ?_
  refine lr_read (pc := 304) E 1 hL hn (by decide) dL_law_304 dL_law_305 dL_law_306 dL_law_307 dL_law_308 ?_
  refine lr_call (pc := 309) (as := [.inl (xs (n + 1)).toInt]) (S := []) E lqB_fault e1 g g1 (by decide) (by decide) dL_law_309 ?_
  refine lr_load2 (pc := 312) E dL_law_312 (h0_r (g.tr g1)) ?_
  refine lr_read (pc := 313) E 1 hL hn (by decide) dL_law_313 dL_law_314 dL_law_315 dL_law_316 dL_law_317 ?_
  refine lr_call (pc := 318) (as := [.inl (xs (n + 1)).toInt]) (S := [.inl a]) E lqR_fault e2 (g.tr g1) g2 (by decide) (show (1 : Nat) ≤ 8 by decide) dL_law_318 ?_
  refine lr_cmp (pc := 321) E dL_law_321 (by decide) ?_
  exact nx h2 i2 ((g.tr g1).tr g2)
theorem lqB_has : lcB 133 33 1097 1 11 = true := by decide +kernel
theorem lqR_has : lcB 284 36 2214 1 12 = true := by decide +kernel
theorem lc_has {p : Program} {l : Launch} {e : Env} {s : State} {m : MethodId} {below : List Frame} {meth : Method} {c : Code} {b L : Nat} {xs : Nat → Int32} {G : va_G} {cs : Nat → ClassId} (E : lE p s m meth c b L xs G cs) (hL : L ≤ 3072) {n : Nat} (hn : n + 6 ≤ L) {h : zH} (i : INV h) (g : zNg (tH zD0) h) (nx : ∀ h2, INV h2 → zNg (tH zD0) h2 → lA p l e s m below meth c b G cs n 1417 [] h2) : lA p l e s m below meth c b G cs n 326 [] h := by
  obtain ⟨a, h1, h2, e1, e2, i2, g1, g2⟩ := lr_two (yB := 133) (yR := 284) (as := [.inl (xs (n + 1)).toInt]) (a_has (d := 57) (x := (xs (n + 1)).toInt) i) lqB_has lqR_has
  refine lr_load1 (pc := 326) E dL_law_326 (h0_b g) ?_
  refine lr_read (pc := 327) E 1 hL hn (by decide) dL_law_327 dL_law_328 dL_law_329 dL_law_330 dL_law_331 ?_
  refine lr_call (pc := 332) (as := [.inl (xs (n + 1)).toInt]) (S := []) E lqB_has e1 g g1 (by decide) (by decide) dL_law_332 ?_
  refine lr_load2 (pc := 335) E dL_law_335 (h0_r (g.tr g1)) ?_
  refine lr_read (pc := 336) E 1 hL hn (by decide) dL_law_336 dL_law_337 dL_law_338 dL_law_339 dL_law_340 ?_
  refine lr_call (pc := 341) (as := [.inl (xs (n + 1)).toInt]) (S := [.inl a]) E lqR_has e2 (g.tr g1) g2 (by decide) (show (1 : Nat) ≤ 8 by decide) dL_law_341 ?_
  refine lr_cmp (pc := 344) E dL_law_344 (by decide) ?_
  exact nx h2 i2 ((g.tr g1).tr g2)
theorem lqB_letter : lcB 136 37 1119 3 11 = true := by decide +kernel
theorem lqR_letter : lcB 285 41 2218 3 12 = true := by decide +kernel
theorem lc_letter {p : Program} {l : Launch} {e : Env} {s : State} {m : MethodId} {below : List Frame} {meth : Method} {c : Code} {b L : Nat} {xs : Nat → Int32} {G : va_G} {cs : Nat → ClassId} (E : lE p s m meth c b L xs G cs) (hL : L ≤ 3072) {n : Nat} (hn : n + 6 ≤ L) {h : zH} (i : INV h) (g : zNg (tH zD0) h) (nx : ∀ h2, INV h2 → zNg (tH zD0) h2 → lA p l e s m below meth c b G cs n 1417 [] h2) : lA p l e s m below meth c b G cs n 349 [] h := by
  obtain ⟨a, h1, h2, e1, e2, i2, g1, g2⟩ := lr_two (yB := 136) (yR := 285) (as := [.inl (xs (n + 1)).toInt, .inl (xs (n + 2)).toInt, .inl (xs (n + 3)).toInt]) (a_letter (d := 57) (x := (xs (n + 1)).toInt) (y := (xs (n + 2)).toInt) (k := (xs (n + 3)).toInt) i) lqB_letter lqR_letter
  refine lr_load1 (pc := 349) E dL_law_349 (h0_b g) ?_
  refine lr_read (pc := 350) E 1 hL hn (by decide) dL_law_350 dL_law_351 dL_law_352 dL_law_353 dL_law_354 ?_
  refine lr_read (pc := 355) E 2 hL hn (by decide) dL_law_355 dL_law_356 dL_law_357 dL_law_358 dL_law_359 ?_
  refine lr_read (pc := 360) E 3 hL hn (by decide) dL_law_360 dL_law_361 dL_law_362 dL_law_363 dL_law_364 ?_
  refine lr_call (pc := 365) (as := [.inl (xs (n + 1)).toInt, .inl (xs (n + 2)).toInt, .inl (xs (n + 3)).toInt]) (S := []) E lqB_letter e1 g g1 (by decide) (by decide) dL_law_365 ?_
  refine lr_load2 (pc := 368) E dL_law_368 (h0_r (g.tr g1)) ?_
  refine lr_read (pc := 369) E 1 hL hn (by decide) dL_law_369 dL_law_370 dL_law_371 dL_law_372 dL_law_373 ?_
  refine lr_read (pc := 374) E 2 hL hn (by decide) dL_law_374 dL_law_375 dL_law_376 dL_law_377 dL_law_378 ?_
  refine lr_read (pc := 379) E 3 hL hn (by decide) dL_law_379 dL_law_380 dL_law_381 dL_law_382 dL_law_383 ?_
  refine lr_call (pc := 384) (as := [.inl (xs (n + 1)).toInt, .inl (xs (n + 2)).toInt, .inl (xs (n + 3)).toInt]) (S := [.inl a]) E lqR_letter e2 (g.tr g1) g2 (by decide) (show (1 : Nat) ≤ 8 by decide) dL_law_384 ?_
  refine lr_cmp (pc := 387) E dL_law_387 (by decide) ?_
  exact nx h2 i2 ((g.tr g1).tr g2)
theorem lqB_cell : lcB 137 42 1127 2 11 = true := by decide +kernel
theorem lqR_cell : lcB 286 46 2223 2 12 = true := by decide +kernel
theorem lc_cell {p : Program} {l : Launch} {e : Env} {s : State} {m : MethodId} {below : List Frame} {meth : Method} {c : Code} {b L : Nat} {xs : Nat → Int32} {G : va_G} {cs : Nat → ClassId} (E : lE p s m meth c b L xs G cs) (hL : L ≤ 3072) {n : Nat} (hn : n + 6 ≤ L) {h : zH} (i : INV h) (g : zNg (tH zD0) h) (nx : ∀ h2, INV h2 → zNg (tH zD0) h2 → lA p l e s m below meth c b G cs n 1417 [] h2) : lA p l e s m below meth c b G cs n 392 [] h := by
  obtain ⟨a, h1, h2, e1, e2, i2, g1, g2⟩ := lr_two (yB := 137) (yR := 286) (as := [.inl (xs (n + 1)).toInt, .inl (xs (n + 2)).toInt]) (a_cell (d := 56) (x0 := (xs (n + 1)).toInt) (x1 := (xs (n + 2)).toInt) i) lqB_cell lqR_cell
  refine lr_load1 (pc := 392) E dL_law_392 (h0_b g) ?_
  refine lr_read (pc := 393) E 1 hL hn (by decide) dL_law_393 dL_law_394 dL_law_395 dL_law_396 dL_law_397 ?_
  refine lr_read (pc := 398) E 2 hL hn (by decide) dL_law_398 dL_law_399 dL_law_400 dL_law_401 dL_law_402 ?_
  refine lr_call (pc := 403) (as := [.inl (xs (n + 1)).toInt, .inl (xs (n + 2)).toInt]) (S := []) E lqB_cell e1 g g1 (by decide) (by decide) dL_law_403 ?_
  refine lr_load2 (pc := 406) E dL_law_406 (h0_r (g.tr g1)) ?_
  refine lr_read (pc := 407) E 1 hL hn (by decide) dL_law_407 dL_law_408 dL_law_409 dL_law_410 dL_law_411 ?_
  refine lr_read (pc := 412) E 2 hL hn (by decide) dL_law_412 dL_law_413 dL_law_414 dL_law_415 dL_law_416 ?_
  refine lr_call (pc := 417) (as := [.inl (xs (n + 1)).toInt, .inl (xs (n + 2)).toInt]) (S := [.inl a]) E lqR_cell e2 (g.tr g1) g2 (by decide) (show (1 : Nat) ≤ 8 by decide) dL_law_417 ?_
  refine lr_cmp (pc := 420) E dL_law_420 (by decide) ?_
  exact nx h2 i2 ((g.tr g1).tr g2)
theorem lqB_stone : lcB 138 47 1145 2 11 = true := by decide +kernel
theorem lqR_stone : lcB 288 50 2243 2 12 = true := by decide +kernel
theorem lc_stone {p : Program} {l : Launch} {e : Env} {s : State} {m : MethodId} {below : List Frame} {meth : Method} {c : Code} {b L : Nat} {xs : Nat → Int32} {G : va_G} {cs : Nat → ClassId} (E : lE p s m meth c b L xs G cs) (hL : L ≤ 3072) {n : Nat} (hn : n + 6 ≤ L) {h : zH} (i : INV h) (g : zNg (tH zD0) h) (nx : ∀ h2, INV h2 → zNg (tH zD0) h2 → lA p l e s m below meth c b G cs n 1417 [] h2) : lA p l e s m below meth c b G cs n 425 [] h := by
  obtain ⟨a, h1, h2, e1, e2, i2, g1, g2⟩ := lr_two (yB := 138) (yR := 288) (as := [.inl (xs (n + 1)).toInt, .inl (xs (n + 2)).toInt]) (a_stone (d := 56) (x0 := (xs (n + 1)).toInt) (x1 := (xs (n + 2)).toInt) i) lqB_stone lqR_stone
  refine lr_load1 (pc := 425) E dL_law_425 (h0_b g) ?_
  refine lr_read (pc := 426) E 1 hL hn (by decide) dL_law_426 dL_law_427 dL_law_428 dL_law_429 dL_law_430 ?_
  refine lr_read (pc := 431) E 2 hL hn (by decide) dL_law_431 dL_law_432 dL_law_433 dL_law_434 dL_law_435 ?_
  refine lr_call (pc := 436) (as := [.inl (xs (n + 1)).toInt, .inl (xs (n + 2)).toInt]) (S := []) E lqB_stone e1 g g1 (by decide) (by decide) dL_law_436 ?_
  refine lr_load2 (pc := 439) E dL_law_439 (h0_r (g.tr g1)) ?_
  refine lr_read (pc := 440) E 1 hL hn (by decide) dL_law_440 dL_law_441 dL_law_442 dL_law_443 dL_law_444 ?_
  refine lr_read (pc := 445) E 2 hL hn (by decide) dL_law_445 dL_law_446 dL_law_447 dL_law_448 dL_law_449 ?_
  refine lr_call (pc := 450) (as := [.inl (xs (n + 1)).toInt, .inl (xs (n + 2)).toInt]) (S := [.inl a]) E lqR_stone e2 (g.tr g1) g2 (by decide) (show (1 : Nat) ≤ 8 by decide) dL_law_450 ?_
  refine lr_cmp (pc := 453) E dL_law_453 (by decide) ?_
  exact nx h2 i2 ((g.tr g1).tr g2)
theorem lqB_house : lcB 142 51 1169 2 11 = true := by decide +kernel
theorem lqR_house : lcB 289 54 2255 2 12 = true := by decide +kernel
theorem lc_house {p : Program} {l : Launch} {e : Env} {s : State} {m : MethodId} {below : List Frame} {meth : Method} {c : Code} {b L : Nat} {xs : Nat → Int32} {G : va_G} {cs : Nat → ClassId} (E : lE p s m meth c b L xs G cs) (hL : L ≤ 3072) {n : Nat} (hn : n + 6 ≤ L) {h : zH} (i : INV h) (g : zNg (tH zD0) h) (nx : ∀ h2, INV h2 → zNg (tH zD0) h2 → lA p l e s m below meth c b G cs n 1417 [] h2) : lA p l e s m below meth c b G cs n 458 [] h := by
  obtain ⟨a, h1, h2, e1, e2, i2, g1, g2⟩ := lr_two (yB := 142) (yR := 289) (as := [.inl (xs (n + 1)).toInt, .inl (xs (n + 2)).toInt]) (a_house (d := 56) (x0 := (xs (n + 1)).toInt) (x1 := (xs (n + 2)).toInt) i) lqB_house lqR_house
  refine lr_load1 (pc := 458) E dL_law_458 (h0_b g) ?_
  refine lr_read (pc := 459) E 1 hL hn (by decide) dL_law_459 dL_law_460 dL_law_461 dL_law_462 dL_law_463 ?_
  refine lr_read (pc := 464) E 2 hL hn (by decide) dL_law_464 dL_law_465 dL_law_466 dL_law_467 dL_law_468 ?_
  refine lr_call (pc := 469) (as := [.inl (xs (n + 1)).toInt, .inl (xs (n + 2)).toInt]) (S := []) E lqB_house e1 g g1 (by decide) (by decide) dL_law_469 ?_
  refine lr_load2 (pc := 472) E dL_law_472 (h0_r (g.tr g1)) ?_
  refine lr_read (pc := 473) E 1 hL hn (by decide) dL_law_473 dL_law_474 dL_law_475 dL_law_476 dL_law_477 ?_
  refine lr_read (pc := 478) E 2 hL hn (by decide) dL_law_478 dL_law_479 dL_law_480 dL_law_481 dL_law_482 ?_
  refine lr_call (pc := 483) (as := [.inl (xs (n + 1)).toInt, .inl (xs (n + 2)).toInt]) (S := [.inl a]) E lqR_house e2 (g.tr g1) g2 (by decide) (show (1 : Nat) ≤ 8 by decide) dL_law_483 ?_
  refine lr_cmp (pc := 486) E dL_law_486 (by decide) ?_
  exact nx h2 i2 ((g.tr g1).tr g2)
theorem lqB_owner : lcB 143 55 1177 2 11 = true := by decide +kernel
theorem lqR_owner : lcB 290 58 2263 2 12 = true := by decide +kernel
theorem lc_owner {p : Program} {l : Launch} {e : Env} {s : State} {m : MethodId} {below : List Frame} {meth : Method} {c : Code} {b L : Nat} {xs : Nat → Int32} {G : va_G} {cs : Nat → ClassId} (E : lE p s m meth c b L xs G cs) (hL : L ≤ 3072) {n : Nat} (hn : n + 6 ≤ L) {h : zH} (i : INV h) (g : zNg (tH zD0) h) (nx : ∀ h2, INV h2 → zNg (tH zD0) h2 → lA p l e s m below meth c b G cs n 1417 [] h2) : lA p l e s m below meth c b G cs n 491 [] h := by
  obtain ⟨a, h1, h2, e1, e2, i2, g1, g2⟩ := lr_two (yB := 143) (yR := 290) (as := [.inl (xs (n + 1)).toInt, .inl (xs (n + 2)).toInt]) (a_owner (d := 56) (x := (xs (n + 1)).toInt) (y := (xs (n + 2)).toInt) i) lqB_owner lqR_owner
  refine lr_load1 (pc := 491) E dL_law_491 (h0_b g) ?_
  refine lr_read (pc := 492) E 1 hL hn (by decide) dL_law_492 dL_law_493 dL_law_494 dL_law_495 dL_law_496 ?_
  refine lr_read (pc := 497) E 2 hL hn (by decide) dL_law_497 dL_law_498 dL_law_499 dL_law_500 dL_law_501 ?_
  refine lr_call (pc := 502) (as := [.inl (xs (n + 1)).toInt, .inl (xs (n + 2)).toInt]) (S := []) E lqB_owner e1 g g1 (by decide) (by decide) dL_law_502 ?_
  refine lr_load2 (pc := 505) E dL_law_505 (h0_r (g.tr g1)) ?_
  refine lr_read (pc := 506) E 1 hL hn (by decide) dL_law_506 dL_law_507 dL_law_508 dL_law_509 dL_law_510 ?_
  refine lr_read (pc := 511) E 2 hL hn (by decide) dL_law_511 dL_law_512 dL_law_513 dL_law_514 dL_law_515 ?_
  refine lr_call (pc := 516) (as := [.inl (xs (n + 1)).toInt, .inl (xs (n + 2)).toInt]) (S := [.inl a]) E lqR_owner e2 (g.tr g1) g2 (by decide) (show (1 : Nat) ≤ 8 by decide) dL_law_516 ?_
  refine lr_cmp (pc := 519) E dL_law_519 (by decide) ?_
  exact nx h2 i2 ((g.tr g1).tr g2)
theorem lqB_due : lcB 147 59 1198 2 11 = true := by decide +kernel
theorem lqR_due : lcB 291 62 2276 2 12 = true := by decide +kernel
theorem lc_due {p : Program} {l : Launch} {e : Env} {s : State} {m : MethodId} {below : List Frame} {meth : Method} {c : Code} {b L : Nat} {xs : Nat → Int32} {G : va_G} {cs : Nat → ClassId} (E : lE p s m meth c b L xs G cs) (hL : L ≤ 3072) {n : Nat} (hn : n + 6 ≤ L) {h : zH} (i : INV h) (g : zNg (tH zD0) h) (nx : ∀ h2, INV h2 → zNg (tH zD0) h2 → lA p l e s m below meth c b G cs n 1417 [] h2) : lA p l e s m below meth c b G cs n 524 [] h := by
  obtain ⟨a, h1, h2, e1, e2, i2, g1, g2⟩ := lr_two (yB := 147) (yR := 291) (as := [.inl (xs (n + 1)).toInt, .inl (xs (n + 2)).toInt]) (a_due (d := 57) (x := (xs (n + 1)).toInt) (y := (xs (n + 2)).toInt) i) lqB_due lqR_due
  refine lr_load1 (pc := 524) E dL_law_524 (h0_b g) ?_
  refine lr_read (pc := 525) E 1 hL hn (by decide) dL_law_525 dL_law_526 dL_law_527 dL_law_528 dL_law_529 ?_
  refine lr_read (pc := 530) E 2 hL hn (by decide) dL_law_530 dL_law_531 dL_law_532 dL_law_533 dL_law_534 ?_
  refine lr_call (pc := 535) (as := [.inl (xs (n + 1)).toInt, .inl (xs (n + 2)).toInt]) (S := []) E lqB_due e1 g g1 (by decide) (by decide) dL_law_535 ?_
  refine lr_load2 (pc := 538) E dL_law_538 (h0_r (g.tr g1)) ?_
  refine lr_read (pc := 539) E 1 hL hn (by decide) dL_law_539 dL_law_540 dL_law_541 dL_law_542 dL_law_543 ?_
  refine lr_read (pc := 544) E 2 hL hn (by decide) dL_law_544 dL_law_545 dL_law_546 dL_law_547 dL_law_548 ?_
  refine lr_call (pc := 549) (as := [.inl (xs (n + 1)).toInt, .inl (xs (n + 2)).toInt]) (S := [.inl a]) E lqR_due e2 (g.tr g1) g2 (by decide) (show (1 : Nat) ≤ 8 by decide) dL_law_549 ?_
  refine lr_cmp (pc := 552) E dL_law_552 (by decide) ?_
  exact nx h2 i2 ((g.tr g1).tr g2)
theorem lqB_law : lcB 148 63 1207 5 11 = true := by decide +kernel
theorem lqR_law : lcB 274 66 2178 5 12 = true := by decide +kernel
theorem lc_law {p : Program} {l : Launch} {e : Env} {s : State} {m : MethodId} {below : List Frame} {meth : Method} {c : Code} {b L : Nat} {xs : Nat → Int32} {G : va_G} {cs : Nat → ClassId} (E : lE p s m meth c b L xs G cs) (hL : L ≤ 3072) {n : Nat} (hn : n + 6 ≤ L) {h : zH} (i : INV h) (g : zNg (tH zD0) h) (nx : ∀ h2, INV h2 → zNg (tH zD0) h2 → lA p l e s m below meth c b G cs n 1417 [] h2) : lA p l e s m below meth c b G cs n 557 [] h := by
  obtain ⟨a, h1, h2, e1, e2, i2, g1, g2⟩ := lr_two (yB := 148) (yR := 274) (as := [.inl (xs (n + 1)).toInt, .inl (xs (n + 2)).toInt, .inl (xs (n + 3)).toInt, .inl (xs (n + 4)).toInt, .inl (xs (n + 5)).toInt]) (a_law (d := 51) (x1 := (xs (n + 1)).toInt) (x2 := (xs (n + 2)).toInt) (x3 := (xs (n + 3)).toInt) (x4 := (xs (n + 4)).toInt) (x5 := (xs (n + 5)).toInt) i) lqB_law lqR_law
  refine lr_load1 (pc := 557) E dL_law_557 (h0_b g) ?_
  refine lr_read (pc := 558) E 1 hL hn (by decide) dL_law_558 dL_law_559 dL_law_560 dL_law_561 dL_law_562 ?_
  refine lr_read (pc := 563) E 2 hL hn (by decide) dL_law_563 dL_law_564 dL_law_565 dL_law_566 dL_law_567 ?_
  refine lr_read (pc := 568) E 3 hL hn (by decide) dL_law_568 dL_law_569 dL_law_570 dL_law_571 dL_law_572 ?_
  refine lr_read (pc := 573) E 4 hL hn (by decide) dL_law_573 dL_law_574 dL_law_575 dL_law_576 dL_law_577 ?_
  refine lr_read (pc := 578) E 5 hL hn (by decide) dL_law_578 dL_law_579 dL_law_580 dL_law_581 dL_law_582 ?_
  refine lr_call (pc := 583) (as := [.inl (xs (n + 1)).toInt, .inl (xs (n + 2)).toInt, .inl (xs (n + 3)).toInt, .inl (xs (n + 4)).toInt, .inl (xs (n + 5)).toInt]) (S := []) E lqB_law e1 g g1 (by decide) (by decide) dL_law_583 ?_
  refine lr_load2 (pc := 586) E dL_law_586 (h0_r (g.tr g1)) ?_
  refine lr_read (pc := 587) E 1 hL hn (by decide) dL_law_587 dL_law_588 dL_law_589 dL_law_590 dL_law_591 ?_
  refine lr_read (pc := 592) E 2 hL hn (by decide) dL_law_592 dL_law_593 dL_law_594 dL_law_595 dL_law_596 ?_
  refine lr_read (pc := 597) E 3 hL hn (by decide) dL_law_597 dL_law_598 dL_law_599 dL_law_600 dL_law_601 ?_
  refine lr_read (pc := 602) E 4 hL hn (by decide) dL_law_602 dL_law_603 dL_law_604 dL_law_605 dL_law_606 ?_
  refine lr_read (pc := 607) E 5 hL hn (by decide) dL_law_607 dL_law_608 dL_law_609 dL_law_610 dL_law_611 ?_
  refine lr_call (pc := 612) (as := [.inl (xs (n + 1)).toInt, .inl (xs (n + 2)).toInt, .inl (xs (n + 3)).toInt, .inl (xs (n + 4)).toInt, .inl (xs (n + 5)).toInt]) (S := [.inl a]) E lqR_law e2 (g.tr g1) g2 (by decide) (show (1 : Nat) ≤ 8 by decide) dL_law_612 ?_
  refine lr_cmp (pc := 615) E dL_law_615 (by decide) ?_
  exact nx h2 i2 ((g.tr g1).tr g2)
theorem lqB_lever : lcB 151 67 1257 2 11 = true := by decide +kernel
theorem lqR_lever : lcB 292 70 2280 2 12 = true := by decide +kernel
theorem lc_lever {p : Program} {l : Launch} {e : Env} {s : State} {m : MethodId} {below : List Frame} {meth : Method} {c : Code} {b L : Nat} {xs : Nat → Int32} {G : va_G} {cs : Nat → ClassId} (E : lE p s m meth c b L xs G cs) (hL : L ≤ 3072) {n : Nat} (hn : n + 6 ≤ L) {h : zH} (i : INV h) (g : zNg (tH zD0) h) (nx : ∀ h2, INV h2 → zNg (tH zD0) h2 → lA p l e s m below meth c b G cs n 1417 [] h2) : lA p l e s m below meth c b G cs n 620 [] h := by
  obtain ⟨a, h1, h2, e1, e2, i2, g1, g2⟩ := lr_two (yB := 151) (yR := 292) (as := [.inl (xs (n + 1)).toInt, .inl (xs (n + 2)).toInt]) (a_lever (d := 48) (x := (xs (n + 1)).toInt) (y := (xs (n + 2)).toInt) i) lqB_lever lqR_lever
  refine lr_load1 (pc := 620) E dL_law_620 (h0_b g) ?_
  refine lr_read (pc := 621) E 1 hL hn (by decide) dL_law_621 dL_law_622 dL_law_623 dL_law_624 dL_law_625 ?_
  refine lr_read (pc := 626) E 2 hL hn (by decide) dL_law_626 dL_law_627 dL_law_628 dL_law_629 dL_law_630 ?_
  refine lr_call (pc := 631) (as := [.inl (xs (n + 1)).toInt, .inl (xs (n + 2)).toInt]) (S := []) E lqB_lever e1 g g1 (by decide) (by decide) dL_law_631 ?_
  refine lr_load2 (pc := 634) E dL_law_634 (h0_r (g.tr g1)) ?_
  refine lr_read (pc := 635) E 1 hL hn (by decide) dL_law_635 dL_law_636 dL_law_637 dL_law_638 dL_law_639 ?_
  refine lr_read (pc := 640) E 2 hL hn (by decide) dL_law_640 dL_law_641 dL_law_642 dL_law_643 dL_law_644 ?_
  refine lr_call (pc := 645) (as := [.inl (xs (n + 1)).toInt, .inl (xs (n + 2)).toInt]) (S := [.inl a]) E lqR_lever e2 (g.tr g1) g2 (by decide) (show (1 : Nat) ≤ 8 by decide) dL_law_645 ?_
  refine lr_cmp (pc := 648) E dL_law_648 (by decide) ?_
  exact nx h2 i2 ((g.tr g1).tr g2)
theorem lqB_spring : lcB 152 71 1328 1 11 = true := by decide +kernel
theorem lqR_spring : lcB 293 74 2312 1 12 = true := by decide +kernel
theorem lc_spring {p : Program} {l : Launch} {e : Env} {s : State} {m : MethodId} {below : List Frame} {meth : Method} {c : Code} {b L : Nat} {xs : Nat → Int32} {G : va_G} {cs : Nat → ClassId} (E : lE p s m meth c b L xs G cs) (hL : L ≤ 3072) {n : Nat} (hn : n + 6 ≤ L) {h : zH} (i : INV h) (g : zNg (tH zD0) h) (nx : ∀ h2, INV h2 → zNg (tH zD0) h2 → lA p l e s m below meth c b G cs n 1417 [] h2) : lA p l e s m below meth c b G cs n 653 [] h := by
  obtain ⟨a, h1, h2, e1, e2, i2, g1, g2⟩ := lr_two (yB := 152) (yR := 293) (as := [.inl (xs (n + 1)).toInt]) (a_spring (d := 47) (x := (xs (n + 1)).toInt) i) lqB_spring lqR_spring
  refine lr_load1 (pc := 653) E dL_law_653 (h0_b g) ?_
  refine lr_read (pc := 654) E 1 hL hn (by decide) dL_law_654 dL_law_655 dL_law_656 dL_law_657 dL_law_658 ?_
  refine lr_call (pc := 659) (as := [.inl (xs (n + 1)).toInt]) (S := []) E lqB_spring e1 g g1 (by decide) (by decide) dL_law_659 ?_
  refine lr_load2 (pc := 662) E dL_law_662 (h0_r (g.tr g1)) ?_
  refine lr_read (pc := 663) E 1 hL hn (by decide) dL_law_663 dL_law_664 dL_law_665 dL_law_666 dL_law_667 ?_
  refine lr_call (pc := 668) (as := [.inl (xs (n + 1)).toInt]) (S := [.inl a]) E lqR_spring e2 (g.tr g1) g2 (by decide) (show (1 : Nat) ≤ 8 by decide) dL_law_668 ?_
  refine lr_cmp (pc := 671) E dL_law_671 (by decide) ?_
  exact nx h2 i2 ((g.tr g1).tr g2)
theorem lqB_goOn : lcB 154 75 1340 1 11 = true := by decide +kernel
theorem lqR_goOn : lcB 296 78 2320 1 12 = true := by decide +kernel
theorem lc_goOn {p : Program} {l : Launch} {e : Env} {s : State} {m : MethodId} {below : List Frame} {meth : Method} {c : Code} {b L : Nat} {xs : Nat → Int32} {G : va_G} {cs : Nat → ClassId} (E : lE p s m meth c b L xs G cs) (hL : L ≤ 3072) {n : Nat} (hn : n + 6 ≤ L) {h : zH} (i : INV h) (g : zNg (tH zD0) h) (nx : ∀ h2, INV h2 → zNg (tH zD0) h2 → lA p l e s m below meth c b G cs n 1417 [] h2) : lA p l e s m below meth c b G cs n 676 [] h := by
  obtain ⟨a, h1, h2, e1, e2, i2, g1, g2⟩ := lr_two (yB := 154) (yR := 296) (as := [.inl (xs (n + 1)).toInt]) (a_goOn (d := 47) (x := (xs (n + 1)).toInt) i) lqB_goOn lqR_goOn
  refine lr_load1 (pc := 676) E dL_law_676 (h0_b g) ?_
  refine lr_read (pc := 677) E 1 hL hn (by decide) dL_law_677 dL_law_678 dL_law_679 dL_law_680 dL_law_681 ?_
  refine lr_call (pc := 682) (as := [.inl (xs (n + 1)).toInt]) (S := []) E lqB_goOn e1 g g1 (by decide) (by decide) dL_law_682 ?_
  refine lr_load2 (pc := 685) E dL_law_685 (h0_r (g.tr g1)) ?_
  refine lr_read (pc := 686) E 1 hL hn (by decide) dL_law_686 dL_law_687 dL_law_688 dL_law_689 dL_law_690 ?_
  refine lr_call (pc := 691) (as := [.inl (xs (n + 1)).toInt]) (S := [.inl a]) E lqR_goOn e2 (g.tr g1) g2 (by decide) (show (1 : Nat) ≤ 8 by decide) dL_law_691 ?_
  refine lr_cmp (pc := 694) E dL_law_694 (by decide) ?_
  exact nx h2 i2 ((g.tr g1).tr g2)
theorem lqB_seed : lcB 157 79 1359 1 11 = true := by decide +kernel
theorem lqR_seed : lcB 297 82 2336 1 12 = true := by decide +kernel
theorem lc_seed {p : Program} {l : Launch} {e : Env} {s : State} {m : MethodId} {below : List Frame} {meth : Method} {c : Code} {b L : Nat} {xs : Nat → Int32} {G : va_G} {cs : Nat → ClassId} (E : lE p s m meth c b L xs G cs) (hL : L ≤ 3072) {n : Nat} (hn : n + 6 ≤ L) {h : zH} (i : INV h) (g : zNg (tH zD0) h) (nx : ∀ h2, INV h2 → zNg (tH zD0) h2 → lA p l e s m below meth c b G cs n 1417 [] h2) : lA p l e s m below meth c b G cs n 699 [] h := by
  obtain ⟨a, h1, h2, e1, e2, i2, g1, g2⟩ := lr_two (yB := 157) (yR := 297) (as := [.inl (xs (n + 1)).toInt]) (a_seed (d := 57) (x := (xs (n + 1)).toInt) i (zI32_t _)) lqB_seed lqR_seed
  refine lr_load1 (pc := 699) E dL_law_699 (h0_b g) ?_
  refine lr_read (pc := 700) E 1 hL hn (by decide) dL_law_700 dL_law_701 dL_law_702 dL_law_703 dL_law_704 ?_
  refine lr_call (pc := 705) (as := [.inl (xs (n + 1)).toInt]) (S := []) E lqB_seed e1 g g1 (by decide) (by decide) dL_law_705 ?_
  refine lr_load2 (pc := 708) E dL_law_708 (h0_r (g.tr g1)) ?_
  refine lr_read (pc := 709) E 1 hL hn (by decide) dL_law_709 dL_law_710 dL_law_711 dL_law_712 dL_law_713 ?_
  refine lr_call (pc := 714) (as := [.inl (xs (n + 1)).toInt]) (S := [.inl a]) E lqR_seed e2 (g.tr g1) g2 (by decide) (show (1 : Nat) ≤ 8 by decide) dL_law_714 ?_
  refine lr_cmp (pc := 717) E dL_law_717 (by decide) ?_
  exact nx h2 i2 ((g.tr g1).tr g2)
theorem lqB_net : lcB 158 83 1363 2 11 = true := by decide +kernel
theorem lqR_net : lcB 298 87 2340 2 12 = true := by decide +kernel
theorem lc_net {p : Program} {l : Launch} {e : Env} {s : State} {m : MethodId} {below : List Frame} {meth : Method} {c : Code} {b L : Nat} {xs : Nat → Int32} {G : va_G} {cs : Nat → ClassId} (E : lE p s m meth c b L xs G cs) (hL : L ≤ 3072) {n : Nat} (hn : n + 6 ≤ L) {h : zH} (i : INV h) (g : zNg (tH zD0) h) (nx : ∀ h2, INV h2 → zNg (tH zD0) h2 → lA p l e s m below meth c b G cs n 1417 [] h2) : lA p l e s m below meth c b G cs n 722 [] h := by
  obtain ⟨a, h1, h2, e1, e2, i2, g1, g2⟩ := lr_two (yB := 158) (yR := 298) (as := [.inl (xs (n + 1)).toInt, .inl (if (xs (n + 2)).toInt = 0 then 0 else 1)]) (a_net (d := 55) (x := (xs (n + 1)).toInt) (y := (if (xs (n + 2)).toInt = 0 then 0 else 1)) i (lr_01 _)) lqB_net lqR_net
  refine lr_load1 (pc := 722) E dL_law_722 (h0_b g) ?_
  refine lr_read (pc := 723) E 1 hL hn (by decide) dL_law_723 dL_law_724 dL_law_725 dL_law_726 dL_law_727 ?_
  refine lr_read (pc := 728) E 2 hL hn (by decide) dL_law_728 dL_law_729 dL_law_730 dL_law_731 dL_law_732 ?_
  refine lr_bool (pc := 733) E dL_law_733 dL_law_736 dL_law_737 dL_law_740 ?_
  refine lr_call (pc := 741) (as := [.inl (xs (n + 1)).toInt, .inl (if (xs (n + 2)).toInt = 0 then 0 else 1)]) (S := []) E lqB_net e1 g g1 (by decide) (by decide) dL_law_741 ?_
  refine lr_load2 (pc := 744) E dL_law_744 (h0_r (g.tr g1)) ?_
  refine lr_read (pc := 745) E 1 hL hn (by decide) dL_law_745 dL_law_746 dL_law_747 dL_law_748 dL_law_749 ?_
  refine lr_read (pc := 750) E 2 hL hn (by decide) dL_law_750 dL_law_751 dL_law_752 dL_law_753 dL_law_754 ?_
  refine lr_bool (pc := 755) E dL_law_755 dL_law_758 dL_law_759 dL_law_762 ?_
  refine lr_call (pc := 763) (as := [.inl (xs (n + 1)).toInt, .inl (if (xs (n + 2)).toInt = 0 then 0 else 1)]) (S := [.inl a]) E lqR_net e2 (g.tr g1) g2 (by decide) (show (1 : Nat) ≤ 8 by decide) dL_law_763 ?_
  refine lr_cmp (pc := 766) E dL_law_766 (by decide) ?_
  exact nx h2 i2 ((g.tr g1).tr g2)
theorem lqB_wall : lcB 159 88 1367 2 11 = true := by decide +kernel
theorem lqR_wall : lcB 300 92 2344 2 12 = true := by decide +kernel
theorem lc_wall {p : Program} {l : Launch} {e : Env} {s : State} {m : MethodId} {below : List Frame} {meth : Method} {c : Code} {b L : Nat} {xs : Nat → Int32} {G : va_G} {cs : Nat → ClassId} (E : lE p s m meth c b L xs G cs) (hL : L ≤ 3072) {n : Nat} (hn : n + 6 ≤ L) {h : zH} (i : INV h) (g : zNg (tH zD0) h) (nx : ∀ h2, INV h2 → zNg (tH zD0) h2 → lA p l e s m below meth c b G cs n 1417 [] h2) : lA p l e s m below meth c b G cs n 771 [] h := by
  obtain ⟨a, h1, h2, e1, e2, i2, g1, g2⟩ := lr_two (yB := 159) (yR := 300) (as := [.inl (xs (n + 1)).toInt, .inl (xs (n + 2)).toInt]) (a_wall (d := 55) (x := (xs (n + 1)).toInt) (y := (xs (n + 2)).toInt) i) lqB_wall lqR_wall
  refine lr_load1 (pc := 771) E dL_law_771 (h0_b g) ?_
  refine lr_read (pc := 772) E 1 hL hn (by decide) dL_law_772 dL_law_773 dL_law_774 dL_law_775 dL_law_776 ?_
  refine lr_read (pc := 777) E 2 hL hn (by decide) dL_law_777 dL_law_778 dL_law_779 dL_law_780 dL_law_781 ?_
  refine lr_call (pc := 782) (as := [.inl (xs (n + 1)).toInt, .inl (xs (n + 2)).toInt]) (S := []) E lqB_wall e1 g g1 (by decide) (by decide) dL_law_782 ?_
  refine lr_load2 (pc := 785) E dL_law_785 (h0_r (g.tr g1)) ?_
  refine lr_read (pc := 786) E 1 hL hn (by decide) dL_law_786 dL_law_787 dL_law_788 dL_law_789 dL_law_790 ?_
  refine lr_read (pc := 791) E 2 hL hn (by decide) dL_law_791 dL_law_792 dL_law_793 dL_law_794 dL_law_795 ?_
  refine lr_call (pc := 796) (as := [.inl (xs (n + 1)).toInt, .inl (xs (n + 2)).toInt]) (S := [.inl a]) E lqR_wall e2 (g.tr g1) g2 (by decide) (show (1 : Nat) ≤ 8 by decide) dL_law_796 ?_
  refine lr_cmp (pc := 799) E dL_law_799 (by decide) ?_
  exact nx h2 i2 ((g.tr g1).tr g2)
theorem lqB_dig : lcB 160 93 1380 2 11 = true := by decide +kernel
theorem lqR_dig : lcB 301 96 2352 2 12 = true := by decide +kernel
theorem lc_dig {p : Program} {l : Launch} {e : Env} {s : State} {m : MethodId} {below : List Frame} {meth : Method} {c : Code} {b L : Nat} {xs : Nat → Int32} {G : va_G} {cs : Nat → ClassId} (E : lE p s m meth c b L xs G cs) (hL : L ≤ 3072) {n : Nat} (hn : n + 6 ≤ L) {h : zH} (i : INV h) (g : zNg (tH zD0) h) (nx : ∀ h2, INV h2 → zNg (tH zD0) h2 → lA p l e s m below meth c b G cs n 1417 [] h2) : lA p l e s m below meth c b G cs n 804 [] h := by
  obtain ⟨a, h1, h2, e1, e2, i2, g1, g2⟩ := lr_two (yB := 160) (yR := 301) (as := [.inl (xs (n + 1)).toInt, .inl (xs (n + 2)).toInt]) (a_dig (d := 55) (x := (xs (n + 1)).toInt) (y := (xs (n + 2)).toInt) i) lqB_dig lqR_dig
  refine lr_load1 (pc := 804) E dL_law_804 (h0_b g) ?_
  refine lr_read (pc := 805) E 1 hL hn (by decide) dL_law_805 dL_law_806 dL_law_807 dL_law_808 dL_law_809 ?_
  refine lr_read (pc := 810) E 2 hL hn (by decide) dL_law_810 dL_law_811 dL_law_812 dL_law_813 dL_law_814 ?_
  refine lr_call (pc := 815) (as := [.inl (xs (n + 1)).toInt, .inl (xs (n + 2)).toInt]) (S := []) E lqB_dig e1 g g1 (by decide) (by decide) dL_law_815 ?_
  refine lr_load2 (pc := 818) E dL_law_818 (h0_r (g.tr g1)) ?_
  refine lr_read (pc := 819) E 1 hL hn (by decide) dL_law_819 dL_law_820 dL_law_821 dL_law_822 dL_law_823 ?_
  refine lr_read (pc := 824) E 2 hL hn (by decide) dL_law_824 dL_law_825 dL_law_826 dL_law_827 dL_law_828 ?_
  refine lr_call (pc := 829) (as := [.inl (xs (n + 1)).toInt, .inl (xs (n + 2)).toInt]) (S := [.inl a]) E lqR_dig e2 (g.tr g1) g2 (by decide) (show (1 : Nat) ≤ 8 by decide) dL_law_829 ?_
  refine lr_cmp (pc := 832) E dL_law_832 (by decide) ?_
  exact nx h2 i2 ((g.tr g1).tr g2)
theorem lqB_take : lcB 161 97 1385 1 11 = true := by decide +kernel
theorem lqR_take : lcB 302 100 2356 1 12 = true := by decide +kernel
theorem lc_take {p : Program} {l : Launch} {e : Env} {s : State} {m : MethodId} {below : List Frame} {meth : Method} {c : Code} {b L : Nat} {xs : Nat → Int32} {G : va_G} {cs : Nat → ClassId} (E : lE p s m meth c b L xs G cs) (hL : L ≤ 3072) {n : Nat} (hn : n + 6 ≤ L) {h : zH} (i : INV h) (g : zNg (tH zD0) h) (nx : ∀ h2, INV h2 → zNg (tH zD0) h2 → lA p l e s m below meth c b G cs n 1417 [] h2) : lA p l e s m below meth c b G cs n 837 [] h := by
  obtain ⟨a, h1, h2, e1, e2, i2, g1, g2⟩ := lr_two (yB := 161) (yR := 302) (as := [.inl (xs (n + 1)).toInt]) (a_take (d := 55) (x := (xs (n + 1)).toInt) i) lqB_take lqR_take
  refine lr_load1 (pc := 837) E dL_law_837 (h0_b g) ?_
  refine lr_read (pc := 838) E 1 hL hn (by decide) dL_law_838 dL_law_839 dL_law_840 dL_law_841 dL_law_842 ?_
  refine lr_call (pc := 843) (as := [.inl (xs (n + 1)).toInt]) (S := []) E lqB_take e1 g g1 (by decide) (by decide) dL_law_843 ?_
  refine lr_load2 (pc := 846) E dL_law_846 (h0_r (g.tr g1)) ?_
  refine lr_read (pc := 847) E 1 hL hn (by decide) dL_law_847 dL_law_848 dL_law_849 dL_law_850 dL_law_851 ?_
  refine lr_call (pc := 852) (as := [.inl (xs (n + 1)).toInt]) (S := [.inl a]) E lqR_take e2 (g.tr g1) g2 (by decide) (show (1 : Nat) ≤ 8 by decide) dL_law_852 ?_
  refine lr_cmp (pc := 855) E dL_law_855 (by decide) ?_
  exact nx h2 i2 ((g.tr g1).tr g2)
theorem lqB_undo : lcB 162 101 1390 0 11 = true := by decide +kernel
theorem lqR_undo : lcB 283 105 2202 0 12 = true := by decide +kernel
theorem lc_undo {p : Program} {l : Launch} {e : Env} {s : State} {m : MethodId} {below : List Frame} {meth : Method} {c : Code} {b L : Nat} {xs : Nat → Int32} {G : va_G} {cs : Nat → ClassId} (E : lE p s m meth c b L xs G cs) (hL : L ≤ 3072) {n : Nat} (hn : n + 6 ≤ L) {h : zH} (i : INV h) (g : zNg (tH zD0) h) (nx : ∀ h2, INV h2 → zNg (tH zD0) h2 → lA p l e s m below meth c b G cs n 1417 [] h2) : lA p l e s m below meth c b G cs n 860 [] h := by
  obtain ⟨a, h1, h2, e1, e2, i2, g1, g2⟩ := lr_two (yB := 162) (yR := 283) (as := []) (a_undo (d := 55) i) lqB_undo lqR_undo
  refine lr_load1 (pc := 860) E dL_law_860 (h0_b g) ?_
  refine lr_call (pc := 861) (as := []) (S := []) E lqB_undo e1 g g1 (by decide) (by decide) dL_law_861 ?_
  refine lr_load2 (pc := 864) E dL_law_864 (h0_r (g.tr g1)) ?_
  refine lr_call (pc := 865) (as := []) (S := [.inl a]) E lqR_undo e2 (g.tr g1) g2 (by decide) (show (1 : Nat) ≤ 8 by decide) dL_law_865 ?_
  refine lr_cmp (pc := 868) E dL_law_868 (by decide) ?_
  exact nx h2 i2 ((g.tr g1).tr g2)
theorem lqB_path : lcB 165 106 1398 3 11 = true := by decide +kernel
theorem lqR_path : lcB 304 109 2360 3 12 = true := by decide +kernel
theorem lc_path {p : Program} {l : Launch} {e : Env} {s : State} {m : MethodId} {below : List Frame} {meth : Method} {c : Code} {b L : Nat} {xs : Nat → Int32} {G : va_G} {cs : Nat → ClassId} (E : lE p s m meth c b L xs G cs) (hL : L ≤ 3072) {n : Nat} (hn : n + 6 ≤ L) {h : zH} (i : INV h) (g : zNg (tH zD0) h) (nx : ∀ h2, INV h2 → zNg (tH zD0) h2 → lA p l e s m below meth c b G cs n 1417 [] h2) : lA p l e s m below meth c b G cs n 873 [] h := by
  obtain ⟨a, h1, h2, e1, e2, i2, g1, g2⟩ := lr_two (yB := 165) (yR := 304) (as := [.inl (xs (n + 1)).toInt, .inl (xs (n + 2)).toInt, .inl (xs (n + 3)).toInt]) (a_path (d := 53) (x0 := (xs (n + 1)).toInt) (x1 := (xs (n + 2)).toInt) (x2 := (xs (n + 3)).toInt) i) lqB_path lqR_path
  refine lr_load1 (pc := 873) E dL_law_873 (h0_b g) ?_
  refine lr_read (pc := 874) E 1 hL hn (by decide) dL_law_874 dL_law_875 dL_law_876 dL_law_877 dL_law_878 ?_
  refine lr_read (pc := 879) E 2 hL hn (by decide) dL_law_879 dL_law_880 dL_law_881 dL_law_882 dL_law_883 ?_
  refine lr_read (pc := 884) E 3 hL hn (by decide) dL_law_884 dL_law_885 dL_law_886 dL_law_887 dL_law_888 ?_
  refine lr_call (pc := 889) (as := [.inl (xs (n + 1)).toInt, .inl (xs (n + 2)).toInt, .inl (xs (n + 3)).toInt]) (S := []) E lqB_path e1 g g1 (by decide) (by decide) dL_law_889 ?_
  refine lr_load2 (pc := 892) E dL_law_892 (h0_r (g.tr g1)) ?_
  refine lr_read (pc := 893) E 1 hL hn (by decide) dL_law_893 dL_law_894 dL_law_895 dL_law_896 dL_law_897 ?_
  refine lr_read (pc := 898) E 2 hL hn (by decide) dL_law_898 dL_law_899 dL_law_900 dL_law_901 dL_law_902 ?_
  refine lr_read (pc := 903) E 3 hL hn (by decide) dL_law_903 dL_law_904 dL_law_905 dL_law_906 dL_law_907 ?_
  refine lr_call (pc := 908) (as := [.inl (xs (n + 1)).toInt, .inl (xs (n + 2)).toInt, .inl (xs (n + 3)).toInt]) (S := [.inl a]) E lqR_path e2 (g.tr g1) g2 (by decide) (show (1 : Nat) ≤ 8 by decide) dL_law_908 ?_
  refine lr_cmp (pc := 911) E dL_law_911 (by decide) ?_
  exact nx h2 i2 ((g.tr g1).tr g2)
theorem lqB_roll : lcB 166 110 1408 3 11 = true := by decide +kernel
theorem lqR_roll : lcB 305 113 2369 3 12 = true := by decide +kernel
theorem lc_roll {p : Program} {l : Launch} {e : Env} {s : State} {m : MethodId} {below : List Frame} {meth : Method} {c : Code} {b L : Nat} {xs : Nat → Int32} {G : va_G} {cs : Nat → ClassId} (E : lE p s m meth c b L xs G cs) (hL : L ≤ 3072) {n : Nat} (hn : n + 6 ≤ L) {h : zH} (i : INV h) (g : zNg (tH zD0) h) (nx : ∀ h2, INV h2 → zNg (tH zD0) h2 → lA p l e s m below meth c b G cs n 1417 [] h2) : lA p l e s m below meth c b G cs n 916 [] h := by
  obtain ⟨a, h1, h2, e1, e2, i2, g1, g2⟩ := lr_two (yB := 166) (yR := 305) (as := [.inl (xs (n + 1)).toInt, .inl (xs (n + 2)).toInt, .inl (xs (n + 3)).toInt]) (a_roll (d := 53) (x0 := (xs (n + 1)).toInt) (x1 := (xs (n + 2)).toInt) (x2 := (xs (n + 3)).toInt) i) lqB_roll lqR_roll
  refine lr_load1 (pc := 916) E dL_law_916 (h0_b g) ?_
  refine lr_read (pc := 917) E 1 hL hn (by decide) dL_law_917 dL_law_918 dL_law_919 dL_law_920 dL_law_921 ?_
  refine lr_read (pc := 922) E 2 hL hn (by decide) dL_law_922 dL_law_923 dL_law_924 dL_law_925 dL_law_926 ?_
  refine lr_read (pc := 927) E 3 hL hn (by decide) dL_law_927 dL_law_928 dL_law_929 dL_law_930 dL_law_931 ?_
  refine lr_call (pc := 932) (as := [.inl (xs (n + 1)).toInt, .inl (xs (n + 2)).toInt, .inl (xs (n + 3)).toInt]) (S := []) E lqB_roll e1 g g1 (by decide) (by decide) dL_law_932 ?_
  refine lr_load2 (pc := 935) E dL_law_935 (h0_r (g.tr g1)) ?_
  refine lr_read (pc := 936) E 1 hL hn (by decide) dL_law_936 dL_law_937 dL_law_938 dL_law_939 dL_law_940 ?_
  refine lr_read (pc := 941) E 2 hL hn (by decide) dL_law_941 dL_law_942 dL_law_943 dL_law_944 dL_law_945 ?_
  refine lr_read (pc := 946) E 3 hL hn (by decide) dL_law_946 dL_law_947 dL_law_948 dL_law_949 dL_law_950 ?_
  refine lr_call (pc := 951) (as := [.inl (xs (n + 1)).toInt, .inl (xs (n + 2)).toInt, .inl (xs (n + 3)).toInt]) (S := [.inl a]) E lqR_roll e2 (g.tr g1) g2 (by decide) (show (1 : Nat) ≤ 8 by decide) dL_law_951 ?_
  refine lr_cmp (pc := 954) E dL_law_954 (by decide) ?_
  exact nx h2 i2 ((g.tr g1).tr g2)
theorem lqB_thaw : lcB 167 114 1412 2 11 = true := by decide +kernel
theorem lqR_thaw : lcB 307 117 2373 2 12 = true := by decide +kernel
theorem lc_thaw {p : Program} {l : Launch} {e : Env} {s : State} {m : MethodId} {below : List Frame} {meth : Method} {c : Code} {b L : Nat} {xs : Nat → Int32} {G : va_G} {cs : Nat → ClassId} (E : lE p s m meth c b L xs G cs) (hL : L ≤ 3072) {n : Nat} (hn : n + 6 ≤ L) {h : zH} (i : INV h) (g : zNg (tH zD0) h) (nx : ∀ h2, INV h2 → zNg (tH zD0) h2 → lA p l e s m below meth c b G cs n 1417 [] h2) : lA p l e s m below meth c b G cs n 959 [] h := by
  obtain ⟨a, h1, h2, e1, e2, i2, g1, g2⟩ := lr_two (yB := 167) (yR := 307) (as := [.inl (xs (n + 1)).toInt, .inl (xs (n + 2)).toInt]) (a_thaw (d := 53) (x0 := (xs (n + 1)).toInt) (x1 := (xs (n + 2)).toInt) i) lqB_thaw lqR_thaw
  refine lr_load1 (pc := 959) E dL_law_959 (h0_b g) ?_
  refine lr_read (pc := 960) E 1 hL hn (by decide) dL_law_960 dL_law_961 dL_law_962 dL_law_963 dL_law_964 ?_
  refine lr_read (pc := 965) E 2 hL hn (by decide) dL_law_965 dL_law_966 dL_law_967 dL_law_968 dL_law_969 ?_
  refine lr_call (pc := 970) (as := [.inl (xs (n + 1)).toInt, .inl (xs (n + 2)).toInt]) (S := []) E lqB_thaw e1 g g1 (by decide) (by decide) dL_law_970 ?_
  refine lr_load2 (pc := 973) E dL_law_973 (h0_r (g.tr g1)) ?_
  refine lr_read (pc := 974) E 1 hL hn (by decide) dL_law_974 dL_law_975 dL_law_976 dL_law_977 dL_law_978 ?_
  refine lr_read (pc := 979) E 2 hL hn (by decide) dL_law_979 dL_law_980 dL_law_981 dL_law_982 dL_law_983 ?_
  refine lr_call (pc := 984) (as := [.inl (xs (n + 1)).toInt, .inl (xs (n + 2)).toInt]) (S := [.inl a]) E lqR_thaw e2 (g.tr g1) g2 (by decide) (show (1 : Nat) ≤ 8 by decide) dL_law_984 ?_
  refine lr_cmp (pc := 987) E dL_law_987 (by decide) ?_
  exact nx h2 i2 ((g.tr g1).tr g2)
theorem lqB_lies : lcB 168 118 1420 2 11 = true := by decide +kernel
theorem lqR_lies : lcB 308 121 2381 2 12 = true := by decide +kernel
theorem lc_lies {p : Program} {l : Launch} {e : Env} {s : State} {m : MethodId} {below : List Frame} {meth : Method} {c : Code} {b L : Nat} {xs : Nat → Int32} {G : va_G} {cs : Nat → ClassId} (E : lE p s m meth c b L xs G cs) (hL : L ≤ 3072) {n : Nat} (hn : n + 6 ≤ L) {h : zH} (i : INV h) (g : zNg (tH zD0) h) (nx : ∀ h2, INV h2 → zNg (tH zD0) h2 → lA p l e s m below meth c b G cs n 1417 [] h2) : lA p l e s m below meth c b G cs n 992 [] h := by
  obtain ⟨a, h1, h2, e1, e2, i2, g1, g2⟩ := lr_two (yB := 168) (yR := 308) (as := [.inl (xs (n + 1)).toInt, .inl (xs (n + 2)).toInt]) (a_lies (d := 53) (x0 := (xs (n + 1)).toInt) (x1 := (xs (n + 2)).toInt) i) lqB_lies lqR_lies
  refine lr_load1 (pc := 992) E dL_law_992 (h0_b g) ?_
  refine lr_read (pc := 993) E 1 hL hn (by decide) dL_law_993 dL_law_994 dL_law_995 dL_law_996 dL_law_997 ?_
  refine lr_read (pc := 998) E 2 hL hn (by decide) dL_law_998 dL_law_999 dL_law_1000 dL_law_1001 dL_law_1002 ?_
  refine lr_call (pc := 1003) (as := [.inl (xs (n + 1)).toInt, .inl (xs (n + 2)).toInt]) (S := []) E lqB_lies e1 g g1 (by decide) (by decide) dL_law_1003 ?_
  refine lr_load2 (pc := 1006) E dL_law_1006 (h0_r (g.tr g1)) ?_
  refine lr_read (pc := 1007) E 1 hL hn (by decide) dL_law_1007 dL_law_1008 dL_law_1009 dL_law_1010 dL_law_1011 ?_
  refine lr_read (pc := 1012) E 2 hL hn (by decide) dL_law_1012 dL_law_1013 dL_law_1014 dL_law_1015 dL_law_1016 ?_
  refine lr_call (pc := 1017) (as := [.inl (xs (n + 1)).toInt, .inl (xs (n + 2)).toInt]) (S := [.inl a]) E lqR_lies e2 (g.tr g1) g2 (by decide) (show (1 : Nat) ≤ 8 by decide) dL_law_1017 ?_
  refine lr_cmp (pc := 1020) E dL_law_1020 (by decide) ?_
  exact nx h2 i2 ((g.tr g1).tr g2)
theorem lqB_hit : lcB 169 122 1428 1 11 = true := by decide +kernel
theorem lqR_hit : lcB 309 125 2385 1 12 = true := by decide +kernel
theorem lc_hit {p : Program} {l : Launch} {e : Env} {s : State} {m : MethodId} {below : List Frame} {meth : Method} {c : Code} {b L : Nat} {xs : Nat → Int32} {G : va_G} {cs : Nat → ClassId} (E : lE p s m meth c b L xs G cs) (hL : L ≤ 3072) {n : Nat} (hn : n + 6 ≤ L) {h : zH} (i : INV h) (g : zNg (tH zD0) h) (nx : ∀ h2, INV h2 → zNg (tH zD0) h2 → lA p l e s m below meth c b G cs n 1417 [] h2) : lA p l e s m below meth c b G cs n 1025 [] h := by
  obtain ⟨a, h1, h2, e1, e2, i2, g1, g2⟩ := lr_two (yB := 169) (yR := 309) (as := [.inl (xs (n + 1)).toInt]) (a_hit (d := 53) (x0 := (xs (n + 1)).toInt) i) lqB_hit lqR_hit
  refine lr_load1 (pc := 1025) E dL_law_1025 (h0_b g) ?_
  refine lr_read (pc := 1026) E 1 hL hn (by decide) dL_law_1026 dL_law_1027 dL_law_1028 dL_law_1029 dL_law_1030 ?_
  refine lr_call (pc := 1031) (as := [.inl (xs (n + 1)).toInt]) (S := []) E lqB_hit e1 g g1 (by decide) (by decide) dL_law_1031 ?_
  refine lr_load2 (pc := 1034) E dL_law_1034 (h0_r (g.tr g1)) ?_
  refine lr_read (pc := 1035) E 1 hL hn (by decide) dL_law_1035 dL_law_1036 dL_law_1037 dL_law_1038 dL_law_1039 ?_
  refine lr_call (pc := 1040) (as := [.inl (xs (n + 1)).toInt]) (S := [.inl a]) E lqR_hit e2 (g.tr g1) g2 (by decide) (show (1 : Nat) ≤ 8 by decide) dL_law_1040 ?_
  refine lr_cmp (pc := 1043) E dL_law_1043 (by decide) ?_
  exact nx h2 i2 ((g.tr g1).tr g2)
theorem lqB_worst : lcB 171 126 1432 1 11 = true := by decide +kernel
theorem lqR_worst : lcB 310 129 2389 1 12 = true := by decide +kernel
theorem lc_worst {p : Program} {l : Launch} {e : Env} {s : State} {m : MethodId} {below : List Frame} {meth : Method} {c : Code} {b L : Nat} {xs : Nat → Int32} {G : va_G} {cs : Nat → ClassId} (E : lE p s m meth c b L xs G cs) (hL : L ≤ 3072) {n : Nat} (hn : n + 6 ≤ L) {h : zH} (i : INV h) (g : zNg (tH zD0) h) (nx : ∀ h2, INV h2 → zNg (tH zD0) h2 → lA p l e s m below meth c b G cs n 1417 [] h2) : lA p l e s m below meth c b G cs n 1048 [] h := by
  obtain ⟨a, h1, h2, e1, e2, i2, g1, g2⟩ := lr_two (yB := 171) (yR := 310) (as := [.inl (xs (n + 1)).toInt]) (a_worst (d := 53) (x0 := (xs (n + 1)).toInt) i) lqB_worst lqR_worst
  refine lr_load1 (pc := 1048) E dL_law_1048 (h0_b g) ?_
  refine lr_read (pc := 1049) E 1 hL hn (by decide) dL_law_1049 dL_law_1050 dL_law_1051 dL_law_1052 dL_law_1053 ?_
  refine lr_call (pc := 1054) (as := [.inl (xs (n + 1)).toInt]) (S := []) E lqB_worst e1 g g1 (by decide) (by decide) dL_law_1054 ?_
  refine lr_load2 (pc := 1057) E dL_law_1057 (h0_r (g.tr g1)) ?_
  refine lr_read (pc := 1058) E 1 hL hn (by decide) dL_law_1058 dL_law_1059 dL_law_1060 dL_law_1061 dL_law_1062 ?_
  refine lr_call (pc := 1063) (as := [.inl (xs (n + 1)).toInt]) (S := [.inl a]) E lqR_worst e2 (g.tr g1) g2 (by decide) (show (1 : Nat) ≤ 8 by decide) dL_law_1063 ?_
  refine lr_cmp (pc := 1066) E dL_law_1066 (by decide) ?_
  exact nx h2 i2 ((g.tr g1).tr g2)
theorem lqB_men : lcB 172 130 1436 2 11 = true := by decide +kernel
theorem lqR_men : lcB 312 133 2393 2 12 = true := by decide +kernel
theorem lc_men {p : Program} {l : Launch} {e : Env} {s : State} {m : MethodId} {below : List Frame} {meth : Method} {c : Code} {b L : Nat} {xs : Nat → Int32} {G : va_G} {cs : Nat → ClassId} (E : lE p s m meth c b L xs G cs) (hL : L ≤ 3072) {n : Nat} (hn : n + 6 ≤ L) {h : zH} (i : INV h) (g : zNg (tH zD0) h) (nx : ∀ h2, INV h2 → zNg (tH zD0) h2 → lA p l e s m below meth c b G cs n 1417 [] h2) : lA p l e s m below meth c b G cs n 1071 [] h := by
  obtain ⟨a, h1, h2, e1, e2, i2, g1, g2⟩ := lr_two (yB := 172) (yR := 312) (as := [.inl (xs (n + 1)).toInt, .inl (xs (n + 2)).toInt]) (a_men (d := 53) (x0 := (xs (n + 1)).toInt) (x1 := (xs (n + 2)).toInt) i) lqB_men lqR_men
  refine lr_load1 (pc := 1071) E dL_law_1071 (h0_b g) ?_
  refine lr_read (pc := 1072) E 1 hL hn (by decide) dL_law_1072 dL_law_1073 dL_law_1074 dL_law_1075 dL_law_1076 ?_
  refine lr_read (pc := 1077) E 2 hL hn (by decide) dL_law_1077 dL_law_1078 dL_law_1079 dL_law_1080 dL_law_1081 ?_
  refine lr_call (pc := 1082) (as := [.inl (xs (n + 1)).toInt, .inl (xs (n + 2)).toInt]) (S := []) E lqB_men e1 g g1 (by decide) (by decide) dL_law_1082 ?_
  refine lr_load2 (pc := 1085) E dL_law_1085 (h0_r (g.tr g1)) ?_
  refine lr_read (pc := 1086) E 1 hL hn (by decide) dL_law_1086 dL_law_1087 dL_law_1088 dL_law_1089 dL_law_1090 ?_
  refine lr_read (pc := 1091) E 2 hL hn (by decide) dL_law_1091 dL_law_1092 dL_law_1093 dL_law_1094 dL_law_1095 ?_
  refine lr_call (pc := 1096) (as := [.inl (xs (n + 1)).toInt, .inl (xs (n + 2)).toInt]) (S := [.inl a]) E lqR_men e2 (g.tr g1) g2 (by decide) (show (1 : Nat) ≤ 8 by decide) dL_law_1096 ?_
  refine lr_cmp (pc := 1099) E dL_law_1099 (by decide) ?_
  exact nx h2 i2 ((g.tr g1).tr g2)
theorem lqB_crew : lcB 173 134 1445 3 11 = true := by decide +kernel
theorem lqR_crew : lcB 318 137 2401 3 12 = true := by decide +kernel
theorem lc_crew {p : Program} {l : Launch} {e : Env} {s : State} {m : MethodId} {below : List Frame} {meth : Method} {c : Code} {b L : Nat} {xs : Nat → Int32} {G : va_G} {cs : Nat → ClassId} (E : lE p s m meth c b L xs G cs) (hL : L ≤ 3072) {n : Nat} (hn : n + 6 ≤ L) {h : zH} (i : INV h) (g : zNg (tH zD0) h) (nx : ∀ h2, INV h2 → zNg (tH zD0) h2 → lA p l e s m below meth c b G cs n 1417 [] h2) : lA p l e s m below meth c b G cs n 1104 [] h := by
  obtain ⟨a, h1, h2, e1, e2, i2, g1, g2⟩ := lr_two (yB := 173) (yR := 318) (as := [.inl (xs (n + 1)).toInt, .inl (xs (n + 2)).toInt, .inl (xs (n + 3)).toInt]) (a_crew (d := 46) (x := (xs (n + 1)).toInt) (o := (xs (n + 2)).toInt) (k := (xs (n + 3)).toInt) i (zI32_t _)) lqB_crew lqR_crew
  refine lr_load1 (pc := 1104) E dL_law_1104 (h0_b g) ?_
  refine lr_read (pc := 1105) E 1 hL hn (by decide) dL_law_1105 dL_law_1106 dL_law_1107 dL_law_1108 dL_law_1109 ?_
  refine lr_read (pc := 1110) E 2 hL hn (by decide) dL_law_1110 dL_law_1111 dL_law_1112 dL_law_1113 dL_law_1114 ?_
  refine lr_read (pc := 1115) E 3 hL hn (by decide) dL_law_1115 dL_law_1116 dL_law_1117 dL_law_1118 dL_law_1119 ?_
  refine lr_call (pc := 1120) (as := [.inl (xs (n + 1)).toInt, .inl (xs (n + 2)).toInt, .inl (xs (n + 3)).toInt]) (S := []) E lqB_crew e1 g g1 (by decide) (by decide) dL_law_1120 ?_
  refine lr_load2 (pc := 1123) E dL_law_1123 (h0_r (g.tr g1)) ?_
  refine lr_read (pc := 1124) E 1 hL hn (by decide) dL_law_1124 dL_law_1125 dL_law_1126 dL_law_1127 dL_law_1128 ?_
  refine lr_read (pc := 1129) E 2 hL hn (by decide) dL_law_1129 dL_law_1130 dL_law_1131 dL_law_1132 dL_law_1133 ?_
  refine lr_read (pc := 1134) E 3 hL hn (by decide) dL_law_1134 dL_law_1135 dL_law_1136 dL_law_1137 dL_law_1138 ?_
  refine lr_call (pc := 1139) (as := [.inl (xs (n + 1)).toInt, .inl (xs (n + 2)).toInt, .inl (xs (n + 3)).toInt]) (S := [.inl a]) E lqR_crew e2 (g.tr g1) g2 (by decide) (show (1 : Nat) ≤ 8 by decide) dL_law_1139 ?_
  refine lr_cmp (pc := 1142) E dL_law_1142 (by decide) ?_
  exact nx h2 i2 ((g.tr g1).tr g2)
theorem lqB_nets : lcB 175 138 1495 1 11 = true := by decide +kernel
theorem lqR_nets : lcB 326 141 2425 1 12 = true := by decide +kernel
theorem lc_nets {p : Program} {l : Launch} {e : Env} {s : State} {m : MethodId} {below : List Frame} {meth : Method} {c : Code} {b L : Nat} {xs : Nat → Int32} {G : va_G} {cs : Nat → ClassId} (E : lE p s m meth c b L xs G cs) (hL : L ≤ 3072) {n : Nat} (hn : n + 6 ≤ L) {h : zH} (i : INV h) (g : zNg (tH zD0) h) (nx : ∀ h2, INV h2 → zNg (tH zD0) h2 → lA p l e s m below meth c b G cs n 1417 [] h2) : lA p l e s m below meth c b G cs n 1147 [] h := by
  obtain ⟨a, h1, h2, e1, e2, i2, g1, g2⟩ := lr_two (yB := 175) (yR := 326) (as := [.inl (xs (n + 1)).toInt]) (a_nets (d := 47) (k := (xs (n + 1)).toInt) i) lqB_nets lqR_nets
  refine lr_load1 (pc := 1147) E dL_law_1147 (h0_b g) ?_
  refine lr_read (pc := 1148) E 1 hL hn (by decide) dL_law_1148 dL_law_1149 dL_law_1150 dL_law_1151 dL_law_1152 ?_
  refine lr_call (pc := 1153) (as := [.inl (xs (n + 1)).toInt]) (S := []) E lqB_nets e1 g g1 (by decide) (by decide) dL_law_1153 ?_
  refine lr_load2 (pc := 1156) E dL_law_1156 (h0_r (g.tr g1)) ?_
  refine lr_read (pc := 1157) E 1 hL hn (by decide) dL_law_1157 dL_law_1158 dL_law_1159 dL_law_1160 dL_law_1161 ?_
  refine lr_call (pc := 1162) (as := [.inl (xs (n + 1)).toInt]) (S := [.inl a]) E lqR_nets e2 (g.tr g1) g2 (by decide) (show (1 : Nat) ≤ 8 by decide) dL_law_1162 ?_
  refine lr_cmp (pc := 1165) E dL_law_1165 (by decide) ?_
  exact nx h2 i2 ((g.tr g1).tr g2)
theorem lqB_dowry : lcB 176 142 1530 4 11 = true := by decide +kernel
theorem lqR_dowry : lcB 333 146 2457 4 12 = true := by decide +kernel
theorem lc_dowry {p : Program} {l : Launch} {e : Env} {s : State} {m : MethodId} {below : List Frame} {meth : Method} {c : Code} {b L : Nat} {xs : Nat → Int32} {G : va_G} {cs : Nat → ClassId} (E : lE p s m meth c b L xs G cs) (hL : L ≤ 3072) {n : Nat} (hn : n + 6 ≤ L) {h : zH} (i : INV h) (g : zNg (tH zD0) h) (nx : ∀ h2, INV h2 → zNg (tH zD0) h2 → lA p l e s m below meth c b G cs n 1417 [] h2) : lA p l e s m below meth c b G cs n 1170 [] h := by
  obtain ⟨a, h1, h2, e1, e2, i2, g1, g2⟩ := lr_two (yB := 176) (yR := 333) (as := [.inl (xs (n + 1)).toInt, .inl (xs (n + 2)).toInt, .inl (xs (n + 3)).toInt, .inl (xs (n + 4)).toInt]) (a_dowry (d := 48) (x0 := (xs (n + 1)).toInt) (x1 := (xs (n + 2)).toInt) (x2 := (xs (n + 3)).toInt) (x3 := (xs (n + 4)).toInt) i) lqB_dowry lqR_dowry
  refine lr_load1 (pc := 1170) E dL_law_1170 (h0_b g) ?_
  refine lr_read (pc := 1171) E 1 hL hn (by decide) dL_law_1171 dL_law_1172 dL_law_1173 dL_law_1174 dL_law_1175 ?_
  refine lr_read (pc := 1176) E 2 hL hn (by decide) dL_law_1176 dL_law_1177 dL_law_1178 dL_law_1179 dL_law_1180 ?_
  refine lr_read (pc := 1181) E 3 hL hn (by decide) dL_law_1181 dL_law_1182 dL_law_1183 dL_law_1184 dL_law_1185 ?_
  refine lr_read (pc := 1186) E 4 hL hn (by decide) dL_law_1186 dL_law_1187 dL_law_1188 dL_law_1189 dL_law_1190 ?_
  refine lr_call (pc := 1191) (as := [.inl (xs (n + 1)).toInt, .inl (xs (n + 2)).toInt, .inl (xs (n + 3)).toInt, .inl (xs (n + 4)).toInt]) (S := []) E lqB_dowry e1 g g1 (by decide) (by decide) dL_law_1191 ?_
  refine lr_load2 (pc := 1194) E dL_law_1194 (h0_r (g.tr g1)) ?_
  refine lr_read (pc := 1195) E 1 hL hn (by decide) dL_law_1195 dL_law_1196 dL_law_1197 dL_law_1198 dL_law_1199 ?_
  refine lr_read (pc := 1200) E 2 hL hn (by decide) dL_law_1200 dL_law_1201 dL_law_1202 dL_law_1203 dL_law_1204 ?_
  refine lr_read (pc := 1205) E 3 hL hn (by decide) dL_law_1205 dL_law_1206 dL_law_1207 dL_law_1208 dL_law_1209 ?_
  refine lr_read (pc := 1210) E 4 hL hn (by decide) dL_law_1210 dL_law_1211 dL_law_1212 dL_law_1213 dL_law_1214 ?_
  refine lr_call (pc := 1215) (as := [.inl (xs (n + 1)).toInt, .inl (xs (n + 2)).toInt, .inl (xs (n + 3)).toInt, .inl (xs (n + 4)).toInt]) (S := [.inl a]) E lqR_dowry e2 (g.tr g1) g2 (by decide) (show (1 : Nat) ≤ 8 by decide) dL_law_1215 ?_
  refine lr_cmp (pc := 1218) E dL_law_1218 (by decide) ?_
  exact nx h2 i2 ((g.tr g1).tr g2)
theorem lqB_whence : lcB 179 147 1543 2 11 = true := by decide +kernel
theorem lqR_whence : lcB 334 150 2484 2 12 = true := by decide +kernel
theorem lc_whence {p : Program} {l : Launch} {e : Env} {s : State} {m : MethodId} {below : List Frame} {meth : Method} {c : Code} {b L : Nat} {xs : Nat → Int32} {G : va_G} {cs : Nat → ClassId} (E : lE p s m meth c b L xs G cs) (hL : L ≤ 3072) {n : Nat} (hn : n + 6 ≤ L) {h : zH} (i : INV h) (g : zNg (tH zD0) h) (nx : ∀ h2, INV h2 → zNg (tH zD0) h2 → lA p l e s m below meth c b G cs n 1417 [] h2) : lA p l e s m below meth c b G cs n 1223 [] h := by
  obtain ⟨a, h1, h2, e1, e2, i2, g1, g2⟩ := lr_two (yB := 179) (yR := 334) (as := [.inl (xs (n + 1)).toInt, .inl (xs (n + 2)).toInt]) (a_whence (d := 54) (x0 := (xs (n + 1)).toInt) (x1 := (xs (n + 2)).toInt) i) lqB_whence lqR_whence
  refine lr_load1 (pc := 1223) E dL_law_1223 (h0_b g) ?_
  refine lr_read (pc := 1224) E 1 hL hn (by decide) dL_law_1224 dL_law_1225 dL_law_1226 dL_law_1227 dL_law_1228 ?_
  refine lr_read (pc := 1229) E 2 hL hn (by decide) dL_law_1229 dL_law_1230 dL_law_1231 dL_law_1232 dL_law_1233 ?_
  refine lr_call (pc := 1234) (as := [.inl (xs (n + 1)).toInt, .inl (xs (n + 2)).toInt]) (S := []) E lqB_whence e1 g g1 (by decide) (by decide) dL_law_1234 ?_
  refine lr_load2 (pc := 1237) E dL_law_1237 (h0_r (g.tr g1)) ?_
  refine lr_read (pc := 1238) E 1 hL hn (by decide) dL_law_1238 dL_law_1239 dL_law_1240 dL_law_1241 dL_law_1242 ?_
  refine lr_read (pc := 1243) E 2 hL hn (by decide) dL_law_1243 dL_law_1244 dL_law_1245 dL_law_1246 dL_law_1247 ?_
  refine lr_call (pc := 1248) (as := [.inl (xs (n + 1)).toInt, .inl (xs (n + 2)).toInt]) (S := [.inl a]) E lqR_whence e2 (g.tr g1) g2 (by decide) (show (1 : Nat) ≤ 8 by decide) dL_law_1248 ?_
  refine lr_cmp (pc := 1251) E dL_law_1251 (by decide) ?_
  exact nx h2 i2 ((g.tr g1).tr g2)
theorem lqB_leans : lcB 181 151 1555 2 11 = true := by decide +kernel
theorem lqR_leans : lcB 335 154 2488 2 12 = true := by decide +kernel
theorem lc_leans {p : Program} {l : Launch} {e : Env} {s : State} {m : MethodId} {below : List Frame} {meth : Method} {c : Code} {b L : Nat} {xs : Nat → Int32} {G : va_G} {cs : Nat → ClassId} (E : lE p s m meth c b L xs G cs) (hL : L ≤ 3072) {n : Nat} (hn : n + 6 ≤ L) {h : zH} (i : INV h) (g : zNg (tH zD0) h) (nx : ∀ h2, INV h2 → zNg (tH zD0) h2 → lA p l e s m below meth c b G cs n 1417 [] h2) : lA p l e s m below meth c b G cs n 1256 [] h := by
  obtain ⟨a, h1, h2, e1, e2, i2, g1, g2⟩ := lr_two (yB := 181) (yR := 335) (as := [.inl (xs (n + 1)).toInt, .inl (xs (n + 2)).toInt]) (a_leans (d := 56) (x0 := (xs (n + 1)).toInt) (x1 := (xs (n + 2)).toInt) i) lqB_leans lqR_leans
  refine lr_load1 (pc := 1256) E dL_law_1256 (h0_b g) ?_
  refine lr_read (pc := 1257) E 1 hL hn (by decide) dL_law_1257 dL_law_1258 dL_law_1259 dL_law_1260 dL_law_1261 ?_
  refine lr_read (pc := 1262) E 2 hL hn (by decide) dL_law_1262 dL_law_1263 dL_law_1264 dL_law_1265 dL_law_1266 ?_
  refine lr_call (pc := 1267) (as := [.inl (xs (n + 1)).toInt, .inl (xs (n + 2)).toInt]) (S := []) E lqB_leans e1 g g1 (by decide) (by decide) dL_law_1267 ?_
  refine lr_load2 (pc := 1270) E dL_law_1270 (h0_r (g.tr g1)) ?_
  refine lr_read (pc := 1271) E 1 hL hn (by decide) dL_law_1271 dL_law_1272 dL_law_1273 dL_law_1274 dL_law_1275 ?_
  refine lr_read (pc := 1276) E 2 hL hn (by decide) dL_law_1276 dL_law_1277 dL_law_1278 dL_law_1279 dL_law_1280 ?_
  refine lr_call (pc := 1281) (as := [.inl (xs (n + 1)).toInt, .inl (xs (n + 2)).toInt]) (S := [.inl a]) E lqR_leans e2 (g.tr g1) g2 (by decide) (show (1 : Nat) ≤ 8 by decide) dL_law_1281 ?_
  refine lr_cmp (pc := 1284) E dL_law_1284 (by decide) ?_
  exact nx h2 i2 ((g.tr g1).tr g2)
theorem lqB_quarry : lcB 182 155 1559 2 11 = true := by decide +kernel
theorem lqR_quarry : lcB 338 158 2492 2 12 = true := by decide +kernel
theorem lc_quarry {p : Program} {l : Launch} {e : Env} {s : State} {m : MethodId} {below : List Frame} {meth : Method} {c : Code} {b L : Nat} {xs : Nat → Int32} {G : va_G} {cs : Nat → ClassId} (E : lE p s m meth c b L xs G cs) (hL : L ≤ 3072) {n : Nat} (hn : n + 6 ≤ L) {h : zH} (i : INV h) (g : zNg (tH zD0) h) (nx : ∀ h2, INV h2 → zNg (tH zD0) h2 → lA p l e s m below meth c b G cs n 1417 [] h2) : lA p l e s m below meth c b G cs n 1289 [] h := by
  obtain ⟨a, h1, h2, e1, e2, i2, g1, g2⟩ := lr_two (yB := 182) (yR := 338) (as := [.inl (xs (n + 1)).toInt, .inl (xs (n + 2)).toInt]) (a_quarry (d := 53) (x := (xs (n + 1)).toInt) (k := (xs (n + 2)).toInt) i (zI32_t _)) lqB_quarry lqR_quarry
  refine lr_load1 (pc := 1289) E dL_law_1289 (h0_b g) ?_
  refine lr_read (pc := 1290) E 1 hL hn (by decide) dL_law_1290 dL_law_1291 dL_law_1292 dL_law_1293 dL_law_1294 ?_
  refine lr_read (pc := 1295) E 2 hL hn (by decide) dL_law_1295 dL_law_1296 dL_law_1297 dL_law_1298 dL_law_1299 ?_
  refine lr_call (pc := 1300) (as := [.inl (xs (n + 1)).toInt, .inl (xs (n + 2)).toInt]) (S := []) E lqB_quarry e1 g g1 (by decide) (by decide) dL_law_1300 ?_
  refine lr_load2 (pc := 1303) E dL_law_1303 (h0_r (g.tr g1)) ?_
  refine lr_read (pc := 1304) E 1 hL hn (by decide) dL_law_1304 dL_law_1305 dL_law_1306 dL_law_1307 dL_law_1308 ?_
  refine lr_read (pc := 1309) E 2 hL hn (by decide) dL_law_1309 dL_law_1310 dL_law_1311 dL_law_1312 dL_law_1313 ?_
  refine lr_call (pc := 1314) (as := [.inl (xs (n + 1)).toInt, .inl (xs (n + 2)).toInt]) (S := [.inl a]) E lqR_quarry e2 (g.tr g1) g2 (by decide) (show (1 : Nat) ≤ 8 by decide) dL_law_1314 ?_
  refine lr_cmp (pc := 1317) E dL_law_1317 (by decide) ?_
  exact nx h2 i2 ((g.tr g1).tr g2)
theorem lqB_ropes : lcB 187 159 1579 1 11 = true := by decide +kernel
theorem lqR_ropes : lcB 340 162 2504 1 12 = true := by decide +kernel
theorem lc_ropes {p : Program} {l : Launch} {e : Env} {s : State} {m : MethodId} {below : List Frame} {meth : Method} {c : Code} {b L : Nat} {xs : Nat → Int32} {G : va_G} {cs : Nat → ClassId} (E : lE p s m meth c b L xs G cs) (hL : L ≤ 3072) {n : Nat} (hn : n + 6 ≤ L) {h : zH} (i : INV h) (g : zNg (tH zD0) h) (nx : ∀ h2, INV h2 → zNg (tH zD0) h2 → lA p l e s m below meth c b G cs n 1417 [] h2) : lA p l e s m below meth c b G cs n 1322 [] h := by
  obtain ⟨a, h1, h2, e1, e2, i2, g1, g2⟩ := lr_two (yB := 187) (yR := 340) (as := [.inl (xs (n + 1)).toInt]) (a_ropes (d := 57) (x0 := (xs (n + 1)).toInt) i) lqB_ropes lqR_ropes
  refine lr_load1 (pc := 1322) E dL_law_1322 (h0_b g) ?_
  refine lr_read (pc := 1323) E 1 hL hn (by decide) dL_law_1323 dL_law_1324 dL_law_1325 dL_law_1326 dL_law_1327 ?_
  refine lr_call (pc := 1328) (as := [.inl (xs (n + 1)).toInt]) (S := []) E lqB_ropes e1 g g1 (by decide) (by decide) dL_law_1328 ?_
  refine lr_load2 (pc := 1331) E dL_law_1331 (h0_r (g.tr g1)) ?_
  refine lr_read (pc := 1332) E 1 hL hn (by decide) dL_law_1332 dL_law_1333 dL_law_1334 dL_law_1335 dL_law_1336 ?_
  refine lr_call (pc := 1337) (as := [.inl (xs (n + 1)).toInt]) (S := [.inl a]) E lqR_ropes e2 (g.tr g1) g2 (by decide) (show (1 : Nat) ≤ 8 by decide) dL_law_1337 ?_
  refine lr_cmp (pc := 1340) E dL_law_1340 (by decide) ?_
  exact nx h2 i2 ((g.tr g1).tr g2)
theorem lqB_image : lcB 191 163 1599 0 11 = true := by decide +kernel
theorem lqR_image : lcB 342 166 2512 0 12 = true := by decide +kernel
theorem lc_image {p : Program} {l : Launch} {e : Env} {s : State} {m : MethodId} {below : List Frame} {meth : Method} {c : Code} {b L : Nat} {xs : Nat → Int32} {G : va_G} {cs : Nat → ClassId} (E : lE p s m meth c b L xs G cs) (hL : L ≤ 3072) {n : Nat} (hn : n + 6 ≤ L) {h : zH} (i : INV h) (g : zNg (tH zD0) h) (nx : ∀ h2, INV h2 → zNg (tH zD0) h2 → lA p l e s m below meth c b G cs n 1417 [] h2) : lA p l e s m below meth c b G cs n 1345 [] h := by
  obtain ⟨a, h1, h2, e1, e2, i2, g1, g2⟩ := lr_two (yB := 191) (yR := 342) (as := []) (a_image (d := 58) i) lqB_image lqR_image
  refine lr_load1 (pc := 1345) E dL_law_1345 (h0_b g) ?_
  refine lr_call (pc := 1346) (as := []) (S := []) E lqB_image e1 g g1 (by decide) (by decide) dL_law_1346 ?_
  refine lr_load2 (pc := 1349) E dL_law_1349 (h0_r (g.tr g1)) ?_
  refine lr_call (pc := 1350) (as := []) (S := [.inl a]) E lqR_image e2 (g.tr g1) g2 (by decide) (show (1 : Nat) ≤ 8 by decide) dL_law_1350 ?_
  refine lr_cmp (pc := 1353) E dL_law_1353 (by decide) ?_
  exact nx h2 i2 ((g.tr g1).tr g2)
theorem lqB_octet : lcB 194 167 1610 1 11 = true := by decide +kernel
theorem lqR_octet : lcB 343 170 2520 1 12 = true := by decide +kernel
theorem lc_octet {p : Program} {l : Launch} {e : Env} {s : State} {m : MethodId} {below : List Frame} {meth : Method} {c : Code} {b L : Nat} {xs : Nat → Int32} {G : va_G} {cs : Nat → ClassId} (E : lE p s m meth c b L xs G cs) (hL : L ≤ 3072) {n : Nat} (hn : n + 6 ≤ L) {h : zH} (i : INV h) (g : zNg (tH zD0) h) (nx : ∀ h2, INV h2 → zNg (tH zD0) h2 → lA p l e s m below meth c b G cs n 1417 [] h2) : lA p l e s m below meth c b G cs n 1358 [] h := by
  obtain ⟨a, h1, h2, e1, e2, i2, g1, g2⟩ := lr_two (yB := 194) (yR := 343) (as := [.inl (xs (n + 1)).toInt]) (a_octet (d := 58) (x := (xs (n + 1)).toInt) i) lqB_octet lqR_octet
  refine lr_load1 (pc := 1358) E dL_law_1358 (h0_b g) ?_
  refine lr_read (pc := 1359) E 1 hL hn (by decide) dL_law_1359 dL_law_1360 dL_law_1361 dL_law_1362 dL_law_1363 ?_
  refine lr_call (pc := 1364) (as := [.inl (xs (n + 1)).toInt]) (S := []) E lqB_octet e1 g g1 (by decide) (by decide) dL_law_1364 ?_
  refine lr_load2 (pc := 1367) E dL_law_1367 (h0_r (g.tr g1)) ?_
  refine lr_read (pc := 1368) E 1 hL hn (by decide) dL_law_1368 dL_law_1369 dL_law_1370 dL_law_1371 dL_law_1372 ?_
  refine lr_call (pc := 1373) (as := [.inl (xs (n + 1)).toInt]) (S := [.inl a]) E lqR_octet e2 (g.tr g1) g2 (by decide) (show (1 : Nat) ≤ 8 by decide) dL_law_1373 ?_
  refine lr_cmp (pc := 1376) E dL_law_1376 (by decide) ?_
  exact nx h2 i2 ((g.tr g1).tr g2)
theorem lqB_on : lcB 195 171 1614 0 11 = true := by decide +kernel
theorem lqR_on : lcB 349 174 2524 0 12 = true := by decide +kernel
theorem lc_on {p : Program} {l : Launch} {e : Env} {s : State} {m : MethodId} {below : List Frame} {meth : Method} {c : Code} {b L : Nat} {xs : Nat → Int32} {G : va_G} {cs : Nat → ClassId} (E : lE p s m meth c b L xs G cs) (hL : L ≤ 3072) {n : Nat} (hn : n + 6 ≤ L) {h : zH} (i : INV h) (g : zNg (tH zD0) h) (nx : ∀ h2, INV h2 → zNg (tH zD0) h2 → lA p l e s m below meth c b G cs n 1417 [] h2) : lA p l e s m below meth c b G cs n 1381 [] h := by
  obtain ⟨a, h1, h2, e1, e2, i2, g1, g2⟩ := lr_two (yB := 195) (yR := 349) (as := []) (a_on (d := 54) i) lqB_on lqR_on
  refine lr_load1 (pc := 1381) E dL_law_1381 (h0_b g) ?_
  refine lr_call (pc := 1382) (as := []) (S := []) E lqB_on e1 g g1 (by decide) (by decide) dL_law_1382 ?_
  refine lr_load2 (pc := 1385) E dL_law_1385 (h0_r (g.tr g1)) ?_
  refine lr_call (pc := 1386) (as := []) (S := [.inl a]) E lqR_on e2 (g.tr g1) g2 (by decide) (show (1 : Nat) ≤ 8 by decide) dL_law_1386 ?_
  refine lr_cmp (pc := 1389) E dL_law_1389 (by decide) ?_
  exact nx h2 i2 ((g.tr g1).tr g2)
theorem lqB_status : lcB 200 175 1634 1 11 = true := by decide +kernel
theorem lqR_status : lcB 253 178 2174 1 12 = true := by decide +kernel
theorem lc_status {p : Program} {l : Launch} {e : Env} {s : State} {m : MethodId} {below : List Frame} {meth : Method} {c : Code} {b L : Nat} {xs : Nat → Int32} {G : va_G} {cs : Nat → ClassId} (E : lE p s m meth c b L xs G cs) (hL : L ≤ 3072) {n : Nat} (hn : n + 6 ≤ L) {h : zH} (i : INV h) (g : zNg (tH zD0) h) (nx : ∀ h2, INV h2 → zNg (tH zD0) h2 → lA p l e s m below meth c b G cs n 1417 [] h2) : lA p l e s m below meth c b G cs n 1394 [] h := by
  obtain ⟨a, h1, h2, e1, e2, i2, g1, g2⟩ := lr_two (yB := 200) (yR := 253) (as := [.inl (xs (n + 1)).toInt]) (a_status (d := 58) (x := (xs (n + 1)).toInt) i) lqB_status lqR_status
  refine lr_load1 (pc := 1394) E dL_law_1394 (h0_b g) ?_
  refine lr_read (pc := 1395) E 1 hL hn (by decide) dL_law_1395 dL_law_1396 dL_law_1397 dL_law_1398 dL_law_1399 ?_
  refine lr_call (pc := 1400) (as := [.inl (xs (n + 1)).toInt]) (S := []) E lqB_status e1 g g1 (by decide) (by decide) dL_law_1400 ?_
  refine lr_load2 (pc := 1403) E dL_law_1403 (h0_r (g.tr g1)) ?_
  refine lr_read (pc := 1404) E 1 hL hn (by decide) dL_law_1404 dL_law_1405 dL_law_1406 dL_law_1407 dL_law_1408 ?_
  refine lr_call (pc := 1409) (as := [.inl (xs (n + 1)).toInt]) (S := [.inl a]) E lqR_status e2 (g.tr g1) g2 (by decide) (show (1 : Nat) ≤ 8 by decide) dL_law_1409 ?_
  refine lr_cmp (pc := 1412) E dL_law_1412 (by decide) ?_
  exact nx h2 i2 ((g.tr g1).tr g2)
