theorem dL_law_0 : decode cL_law 0 = .ok (.new 7, 3) := by decide +kernel
theorem dL_law_3 : decode cL_law 3 = .ok (.dup, 1) := by decide +kernel
theorem dL_law_4 : decode cL_law 4 = .ok (.invokespecial 9, 3) := by decide +kernel
theorem dL_law_7 : decode cL_law 7 = .ok (.astore_n 1, 1) := by decide +kernel
theorem dL_law_8 : decode cL_law 8 = .ok (.new 10, 3) := by decide +kernel
theorem dL_law_11 : decode cL_law 11 = .ok (.dup, 1) := by decide +kernel
theorem dL_law_12 : decode cL_law 12 = .ok (.invokespecial 12, 3) := by decide +kernel
theorem dL_law_15 : decode cL_law 15 = .ok (.astore_n 2, 1) := by decide +kernel
theorem dL_law_16 : decode cL_law 16 = .ok (.iconst 0, 1) := by decide +kernel
theorem dL_law_17 : decode cL_law 17 = .ok (.istore_n 3, 1) := by decide +kernel
theorem dL_law_18 : decode cL_law 18 = .ok (.iload_n 3, 1) := by decide +kernel
theorem dL_law_19 : decode cL_law 19 = .ok (.aload_n 0, 1) := by decide +kernel
theorem dL_law_20 : decode cL_law 20 = .ok (.arraylength, 1) := by decide +kernel
theorem dL_law_21 : decode cL_law 21 = .ok (.iconst 5, 1) := by decide +kernel
theorem dL_law_22 : decode cL_law 22 = .ok (.isub, 1) := by decide +kernel
theorem dL_law_23 : decode cL_law 23 = .ok (.if_icmp .gt 1236, 3) := by decide +kernel
theorem dL_law_26 : decode cL_law 26 = .ok (.aload_n 0, 1) := by decide +kernel
theorem dL_law_27 : decode cL_law 27 = .ok (.iload_n 3, 1) := by decide +kernel
theorem dL_law_28 : decode cL_law 28 = .ok (.iaload, 1) := by decide +kernel
theorem dL_law_29 : decode cL_law 29 = .ok (.bipush 63, 2) := by decide +kernel
theorem dL_law_31 : decode cL_law 31 = .ok (.iand, 1) := by decide +kernel
theorem dL_law_32 : decode cL_law 32 = .ok (.tableswitch 1221 0 41 #[184, 207, 230, 263, 286, 299, 322, 335, 358, 381, 404, 417, 430, 463, 496, 519, 552, 585, 618, 641, 664, 687, 700, 733, 756, 779, 802, 825, 848, 871, 904, 937, 1010, 1044, 1067, 1100, 1123, 1136, 1149, 1172, 1185, 1198], 184) := by decide +kernel
theorem dL_law_216 : decode cL_law 216 = .ok (.aload_n 1, 1) := by decide +kernel
theorem dL_law_217 : decode cL_law 217 = .ok (.aload_n 0, 1) := by decide +kernel
theorem dL_law_218 : decode cL_law 218 = .ok (.iload_n 3, 1) := by decide +kernel
theorem dL_law_219 : decode cL_law 219 = .ok (.iconst 1, 1) := by decide +kernel
theorem dL_law_220 : decode cL_law 220 = .ok (.iadd, 1) := by decide +kernel
theorem dL_law_221 : decode cL_law 221 = .ok (.iaload, 1) := by decide +kernel
theorem dL_law_222 : decode cL_law 222 = .ok (.invokevirtual 13, 3) := by decide +kernel
theorem dL_law_225 : decode cL_law 225 = .ok (.aload_n 2, 1) := by decide +kernel
theorem dL_law_226 : decode cL_law 226 = .ok (.aload_n 0, 1) := by decide +kernel
theorem dL_law_227 : decode cL_law 227 = .ok (.iload_n 3, 1) := by decide +kernel
theorem dL_law_228 : decode cL_law 228 = .ok (.iconst 1, 1) := by decide +kernel
theorem dL_law_229 : decode cL_law 229 = .ok (.iadd, 1) := by decide +kernel
theorem dL_law_230 : decode cL_law 230 = .ok (.iaload, 1) := by decide +kernel
theorem dL_law_231 : decode cL_law 231 = .ok (.invokevirtual 17, 3) := by decide +kernel
theorem dL_law_234 : decode cL_law 234 = .ok (.if_icmp .eq 1019, 3) := by decide +kernel
theorem dL_law_237 : decode cL_law 237 = .ok (.iconst 0, 1) := by decide +kernel
theorem dL_law_238 : decode cL_law 238 = .ok (.ireturn, 1) := by decide +kernel
theorem dL_law_239 : decode cL_law 239 = .ok (.aload_n 1, 1) := by decide +kernel
theorem dL_law_240 : decode cL_law 240 = .ok (.aload_n 0, 1) := by decide +kernel
theorem dL_law_241 : decode cL_law 241 = .ok (.iload_n 3, 1) := by decide +kernel
theorem dL_law_242 : decode cL_law 242 = .ok (.iconst 1, 1) := by decide +kernel
theorem dL_law_243 : decode cL_law 243 = .ok (.iadd, 1) := by decide +kernel
theorem dL_law_244 : decode cL_law 244 = .ok (.iaload, 1) := by decide +kernel
theorem dL_law_245 : decode cL_law 245 = .ok (.invokevirtual 18, 3) := by decide +kernel
theorem dL_law_248 : decode cL_law 248 = .ok (.aload_n 2, 1) := by decide +kernel
theorem dL_law_249 : decode cL_law 249 = .ok (.aload_n 0, 1) := by decide +kernel
theorem dL_law_250 : decode cL_law 250 = .ok (.iload_n 3, 1) := by decide +kernel
theorem dL_law_251 : decode cL_law 251 = .ok (.iconst 1, 1) := by decide +kernel
theorem dL_law_252 : decode cL_law 252 = .ok (.iadd, 1) := by decide +kernel
theorem dL_law_253 : decode cL_law 253 = .ok (.iaload, 1) := by decide +kernel
theorem dL_law_254 : decode cL_law 254 = .ok (.invokevirtual 21, 3) := by decide +kernel
theorem dL_law_257 : decode cL_law 257 = .ok (.if_icmp .eq 996, 3) := by decide +kernel
theorem dL_law_260 : decode cL_law 260 = .ok (.iconst 0, 1) := by decide +kernel
theorem dL_law_261 : decode cL_law 261 = .ok (.ireturn, 1) := by decide +kernel
theorem dL_law_262 : decode cL_law 262 = .ok (.aload_n 1, 1) := by decide +kernel
theorem dL_law_263 : decode cL_law 263 = .ok (.aload_n 0, 1) := by decide +kernel
theorem dL_law_264 : decode cL_law 264 = .ok (.iload_n 3, 1) := by decide +kernel
theorem dL_law_265 : decode cL_law 265 = .ok (.iconst 1, 1) := by decide +kernel
theorem dL_law_266 : decode cL_law 266 = .ok (.iadd, 1) := by decide +kernel
theorem dL_law_267 : decode cL_law 267 = .ok (.iaload, 1) := by decide +kernel
theorem dL_law_268 : decode cL_law 268 = .ok (.aload_n 0, 1) := by decide +kernel
theorem dL_law_269 : decode cL_law 269 = .ok (.iload_n 3, 1) := by decide +kernel
theorem dL_law_270 : decode cL_law 270 = .ok (.iconst 2, 1) := by decide +kernel
theorem dL_law_271 : decode cL_law 271 = .ok (.iadd, 1) := by decide +kernel
theorem dL_law_272 : decode cL_law 272 = .ok (.iaload, 1) := by decide +kernel
theorem dL_law_273 : decode cL_law 273 = .ok (.invokevirtual 22, 3) := by decide +kernel
theorem dL_law_276 : decode cL_law 276 = .ok (.aload_n 2, 1) := by decide +kernel
theorem dL_law_277 : decode cL_law 277 = .ok (.aload_n 0, 1) := by decide +kernel
theorem dL_law_278 : decode cL_law 278 = .ok (.iload_n 3, 1) := by decide +kernel
theorem dL_law_279 : decode cL_law 279 = .ok (.iconst 1, 1) := by decide +kernel
theorem dL_law_280 : decode cL_law 280 = .ok (.iadd, 1) := by decide +kernel
theorem dL_law_281 : decode cL_law 281 = .ok (.iaload, 1) := by decide +kernel
theorem dL_law_282 : decode cL_law 282 = .ok (.aload_n 0, 1) := by decide +kernel
theorem dL_law_283 : decode cL_law 283 = .ok (.iload_n 3, 1) := by decide +kernel
theorem dL_law_284 : decode cL_law 284 = .ok (.iconst 2, 1) := by decide +kernel
theorem dL_law_285 : decode cL_law 285 = .ok (.iadd, 1) := by decide +kernel
theorem dL_law_286 : decode cL_law 286 = .ok (.iaload, 1) := by decide +kernel
theorem dL_law_287 : decode cL_law 287 = .ok (.invokevirtual 26, 3) := by decide +kernel
theorem dL_law_290 : decode cL_law 290 = .ok (.if_icmp .eq 963, 3) := by decide +kernel
theorem dL_law_293 : decode cL_law 293 = .ok (.iconst 0, 1) := by decide +kernel
theorem dL_law_294 : decode cL_law 294 = .ok (.ireturn, 1) := by decide +kernel
theorem dL_law_295 : decode cL_law 295 = .ok (.aload_n 1, 1) := by decide +kernel
theorem dL_law_296 : decode cL_law 296 = .ok (.aload_n 0, 1) := by decide +kernel
theorem dL_law_297 : decode cL_law 297 = .ok (.iload_n 3, 1) := by decide +kernel
theorem dL_law_298 : decode cL_law 298 = .ok (.iconst 1, 1) := by decide +kernel
theorem dL_law_299 : decode cL_law 299 = .ok (.iadd, 1) := by decide +kernel
theorem dL_law_300 : decode cL_law 300 = .ok (.iaload, 1) := by decide +kernel
theorem dL_law_301 : decode cL_law 301 = .ok (.invokevirtual 27, 3) := by decide +kernel
theorem dL_law_304 : decode cL_law 304 = .ok (.aload_n 2, 1) := by decide +kernel
theorem dL_law_305 : decode cL_law 305 = .ok (.aload_n 0, 1) := by decide +kernel
theorem dL_law_306 : decode cL_law 306 = .ok (.iload_n 3, 1) := by decide +kernel
theorem dL_law_307 : decode cL_law 307 = .ok (.iconst 1, 1) := by decide +kernel
theorem dL_law_308 : decode cL_law 308 = .ok (.iadd, 1) := by decide +kernel
theorem dL_law_309 : decode cL_law 309 = .ok (.iaload, 1) := by decide +kernel
theorem dL_law_310 : decode cL_law 310 = .ok (.invokevirtual 30, 3) := by decide +kernel
theorem dL_law_313 : decode cL_law 313 = .ok (.if_icmp .eq 940, 3) := by decide +kernel
theorem dL_law_316 : decode cL_law 316 = .ok (.iconst 0, 1) := by decide +kernel
theorem dL_law_317 : decode cL_law 317 = .ok (.ireturn, 1) := by decide +kernel
theorem dL_law_318 : decode cL_law 318 = .ok (.aload_n 1, 1) := by decide +kernel
theorem dL_law_319 : decode cL_law 319 = .ok (.invokevirtual 31, 3) := by decide +kernel
theorem dL_law_322 : decode cL_law 322 = .ok (.aload_n 2, 1) := by decide +kernel
theorem dL_law_323 : decode cL_law 323 = .ok (.invokevirtual 35, 3) := by decide +kernel
theorem dL_law_326 : decode cL_law 326 = .ok (.if_icmp .eq 927, 3) := by decide +kernel
theorem dL_law_329 : decode cL_law 329 = .ok (.iconst 0, 1) := by decide +kernel
theorem dL_law_330 : decode cL_law 330 = .ok (.ireturn, 1) := by decide +kernel
theorem dL_law_331 : decode cL_law 331 = .ok (.aload_n 1, 1) := by decide +kernel
theorem dL_law_332 : decode cL_law 332 = .ok (.aload_n 0, 1) := by decide +kernel
theorem dL_law_333 : decode cL_law 333 = .ok (.iload_n 3, 1) := by decide +kernel
theorem dL_law_334 : decode cL_law 334 = .ok (.iconst 1, 1) := by decide +kernel
theorem dL_law_335 : decode cL_law 335 = .ok (.iadd, 1) := by decide +kernel
theorem dL_law_336 : decode cL_law 336 = .ok (.iaload, 1) := by decide +kernel
theorem dL_law_337 : decode cL_law 337 = .ok (.invokevirtual 36, 3) := by decide +kernel
theorem dL_law_340 : decode cL_law 340 = .ok (.aload_n 2, 1) := by decide +kernel
theorem dL_law_341 : decode cL_law 341 = .ok (.aload_n 0, 1) := by decide +kernel
theorem dL_law_342 : decode cL_law 342 = .ok (.iload_n 3, 1) := by decide +kernel
theorem dL_law_343 : decode cL_law 343 = .ok (.iconst 1, 1) := by decide +kernel
theorem dL_law_344 : decode cL_law 344 = .ok (.iadd, 1) := by decide +kernel
theorem dL_law_345 : decode cL_law 345 = .ok (.iaload, 1) := by decide +kernel
theorem dL_law_346 : decode cL_law 346 = .ok (.invokevirtual 39, 3) := by decide +kernel
theorem dL_law_349 : decode cL_law 349 = .ok (.if_icmp .eq 904, 3) := by decide +kernel
theorem dL_law_352 : decode cL_law 352 = .ok (.iconst 0, 1) := by decide +kernel
theorem dL_law_353 : decode cL_law 353 = .ok (.ireturn, 1) := by decide +kernel
theorem dL_law_354 : decode cL_law 354 = .ok (.aload_n 1, 1) := by decide +kernel
theorem dL_law_355 : decode cL_law 355 = .ok (.invokevirtual 40, 3) := by decide +kernel
theorem dL_law_358 : decode cL_law 358 = .ok (.aload_n 2, 1) := by decide +kernel
theorem dL_law_359 : decode cL_law 359 = .ok (.invokevirtual 43, 3) := by decide +kernel
theorem dL_law_362 : decode cL_law 362 = .ok (.if_icmp .eq 891, 3) := by decide +kernel
theorem dL_law_365 : decode cL_law 365 = .ok (.iconst 0, 1) := by decide +kernel
theorem dL_law_366 : decode cL_law 366 = .ok (.ireturn, 1) := by decide +kernel
theorem dL_law_367 : decode cL_law 367 = .ok (.aload_n 1, 1) := by decide +kernel
theorem dL_law_368 : decode cL_law 368 = .ok (.aload_n 0, 1) := by decide +kernel
theorem dL_law_369 : decode cL_law 369 = .ok (.iload_n 3, 1) := by decide +kernel
theorem dL_law_370 : decode cL_law 370 = .ok (.iconst 1, 1) := by decide +kernel
theorem dL_law_371 : decode cL_law 371 = .ok (.iadd, 1) := by decide +kernel
theorem dL_law_372 : decode cL_law 372 = .ok (.iaload, 1) := by decide +kernel
theorem dL_law_373 : decode cL_law 373 = .ok (.invokevirtual 44, 3) := by decide +kernel
theorem dL_law_376 : decode cL_law 376 = .ok (.aload_n 2, 1) := by decide +kernel
theorem dL_law_377 : decode cL_law 377 = .ok (.aload_n 0, 1) := by decide +kernel
theorem dL_law_378 : decode cL_law 378 = .ok (.iload_n 3, 1) := by decide +kernel
theorem dL_law_379 : decode cL_law 379 = .ok (.iconst 1, 1) := by decide +kernel
theorem dL_law_380 : decode cL_law 380 = .ok (.iadd, 1) := by decide +kernel
theorem dL_law_381 : decode cL_law 381 = .ok (.iaload, 1) := by decide +kernel
theorem dL_law_382 : decode cL_law 382 = .ok (.invokevirtual 47, 3) := by decide +kernel
theorem dL_law_385 : decode cL_law 385 = .ok (.if_icmp .eq 868, 3) := by decide +kernel
theorem dL_law_388 : decode cL_law 388 = .ok (.iconst 0, 1) := by decide +kernel
theorem dL_law_389 : decode cL_law 389 = .ok (.ireturn, 1) := by decide +kernel
theorem dL_law_390 : decode cL_law 390 = .ok (.aload_n 1, 1) := by decide +kernel
theorem dL_law_391 : decode cL_law 391 = .ok (.aload_n 0, 1) := by decide +kernel
theorem dL_law_392 : decode cL_law 392 = .ok (.iload_n 3, 1) := by decide +kernel
theorem dL_law_393 : decode cL_law 393 = .ok (.iconst 1, 1) := by decide +kernel
theorem dL_law_394 : decode cL_law 394 = .ok (.iadd, 1) := by decide +kernel
theorem dL_law_395 : decode cL_law 395 = .ok (.iaload, 1) := by decide +kernel
theorem dL_law_396 : decode cL_law 396 = .ok (.invokevirtual 48, 3) := by decide +kernel
theorem dL_law_399 : decode cL_law 399 = .ok (.aload_n 2, 1) := by decide +kernel
theorem dL_law_400 : decode cL_law 400 = .ok (.aload_n 0, 1) := by decide +kernel
theorem dL_law_401 : decode cL_law 401 = .ok (.iload_n 3, 1) := by decide +kernel
theorem dL_law_402 : decode cL_law 402 = .ok (.iconst 1, 1) := by decide +kernel
theorem dL_law_403 : decode cL_law 403 = .ok (.iadd, 1) := by decide +kernel
theorem dL_law_404 : decode cL_law 404 = .ok (.iaload, 1) := by decide +kernel
theorem dL_law_405 : decode cL_law 405 = .ok (.invokevirtual 51, 3) := by decide +kernel
theorem dL_law_408 : decode cL_law 408 = .ok (.if_icmp .eq 845, 3) := by decide +kernel
theorem dL_law_411 : decode cL_law 411 = .ok (.iconst 0, 1) := by decide +kernel
theorem dL_law_412 : decode cL_law 412 = .ok (.ireturn, 1) := by decide +kernel
theorem dL_law_413 : decode cL_law 413 = .ok (.aload_n 1, 1) := by decide +kernel
theorem dL_law_414 : decode cL_law 414 = .ok (.aload_n 0, 1) := by decide +kernel
theorem dL_law_415 : decode cL_law 415 = .ok (.iload_n 3, 1) := by decide +kernel
theorem dL_law_416 : decode cL_law 416 = .ok (.iconst 1, 1) := by decide +kernel
theorem dL_law_417 : decode cL_law 417 = .ok (.iadd, 1) := by decide +kernel
theorem dL_law_418 : decode cL_law 418 = .ok (.iaload, 1) := by decide +kernel
theorem dL_law_419 : decode cL_law 419 = .ok (.invokevirtual 52, 3) := by decide +kernel
theorem dL_law_422 : decode cL_law 422 = .ok (.aload_n 2, 1) := by decide +kernel
theorem dL_law_423 : decode cL_law 423 = .ok (.aload_n 0, 1) := by decide +kernel
theorem dL_law_424 : decode cL_law 424 = .ok (.iload_n 3, 1) := by decide +kernel
theorem dL_law_425 : decode cL_law 425 = .ok (.iconst 1, 1) := by decide +kernel
theorem dL_law_426 : decode cL_law 426 = .ok (.iadd, 1) := by decide +kernel
theorem dL_law_427 : decode cL_law 427 = .ok (.iaload, 1) := by decide +kernel
theorem dL_law_428 : decode cL_law 428 = .ok (.invokevirtual 55, 3) := by decide +kernel
theorem dL_law_431 : decode cL_law 431 = .ok (.if_icmp .eq 822, 3) := by decide +kernel
theorem dL_law_434 : decode cL_law 434 = .ok (.iconst 0, 1) := by decide +kernel
theorem dL_law_435 : decode cL_law 435 = .ok (.ireturn, 1) := by decide +kernel
theorem dL_law_436 : decode cL_law 436 = .ok (.aload_n 1, 1) := by decide +kernel
theorem dL_law_437 : decode cL_law 437 = .ok (.invokevirtual 56, 3) := by decide +kernel
theorem dL_law_440 : decode cL_law 440 = .ok (.aload_n 2, 1) := by decide +kernel
theorem dL_law_441 : decode cL_law 441 = .ok (.invokevirtual 59, 3) := by decide +kernel
theorem dL_law_444 : decode cL_law 444 = .ok (.if_icmp .eq 809, 3) := by decide +kernel
theorem dL_law_447 : decode cL_law 447 = .ok (.iconst 0, 1) := by decide +kernel
theorem dL_law_448 : decode cL_law 448 = .ok (.ireturn, 1) := by decide +kernel
theorem dL_law_449 : decode cL_law 449 = .ok (.aload_n 1, 1) := by decide +kernel
theorem dL_law_450 : decode cL_law 450 = .ok (.invokevirtual 60, 3) := by decide +kernel
theorem dL_law_453 : decode cL_law 453 = .ok (.aload_n 2, 1) := by decide +kernel
theorem dL_law_454 : decode cL_law 454 = .ok (.invokevirtual 63, 3) := by decide +kernel
theorem dL_law_457 : decode cL_law 457 = .ok (.if_icmp .eq 796, 3) := by decide +kernel
theorem dL_law_460 : decode cL_law 460 = .ok (.iconst 0, 1) := by decide +kernel
theorem dL_law_461 : decode cL_law 461 = .ok (.ireturn, 1) := by decide +kernel
theorem dL_law_462 : decode cL_law 462 = .ok (.aload_n 1, 1) := by decide +kernel
theorem dL_law_463 : decode cL_law 463 = .ok (.aload_n 0, 1) := by decide +kernel
theorem dL_law_464 : decode cL_law 464 = .ok (.iload_n 3, 1) := by decide +kernel
theorem dL_law_465 : decode cL_law 465 = .ok (.iconst 1, 1) := by decide +kernel
theorem dL_law_466 : decode cL_law 466 = .ok (.iadd, 1) := by decide +kernel
theorem dL_law_467 : decode cL_law 467 = .ok (.iaload, 1) := by decide +kernel
theorem dL_law_468 : decode cL_law 468 = .ok (.aload_n 0, 1) := by decide +kernel
theorem dL_law_469 : decode cL_law 469 = .ok (.iload_n 3, 1) := by decide +kernel
theorem dL_law_470 : decode cL_law 470 = .ok (.iconst 2, 1) := by decide +kernel
theorem dL_law_471 : decode cL_law 471 = .ok (.iadd, 1) := by decide +kernel
theorem dL_law_472 : decode cL_law 472 = .ok (.iaload, 1) := by decide +kernel
theorem dL_law_473 : decode cL_law 473 = .ok (.invokevirtual 64, 3) := by decide +kernel
theorem dL_law_476 : decode cL_law 476 = .ok (.aload_n 2, 1) := by decide +kernel
theorem dL_law_477 : decode cL_law 477 = .ok (.aload_n 0, 1) := by decide +kernel
theorem dL_law_478 : decode cL_law 478 = .ok (.iload_n 3, 1) := by decide +kernel
theorem dL_law_479 : decode cL_law 479 = .ok (.iconst 1, 1) := by decide +kernel
theorem dL_law_480 : decode cL_law 480 = .ok (.iadd, 1) := by decide +kernel
theorem dL_law_481 : decode cL_law 481 = .ok (.iaload, 1) := by decide +kernel
theorem dL_law_482 : decode cL_law 482 = .ok (.aload_n 0, 1) := by decide +kernel
theorem dL_law_483 : decode cL_law 483 = .ok (.iload_n 3, 1) := by decide +kernel
theorem dL_law_484 : decode cL_law 484 = .ok (.iconst 2, 1) := by decide +kernel
theorem dL_law_485 : decode cL_law 485 = .ok (.iadd, 1) := by decide +kernel
theorem dL_law_486 : decode cL_law 486 = .ok (.iaload, 1) := by decide +kernel
theorem dL_law_487 : decode cL_law 487 = .ok (.invokevirtual 67, 3) := by decide +kernel
theorem dL_law_490 : decode cL_law 490 = .ok (.if_icmp .eq 763, 3) := by decide +kernel
theorem dL_law_493 : decode cL_law 493 = .ok (.iconst 0, 1) := by decide +kernel
theorem dL_law_494 : decode cL_law 494 = .ok (.ireturn, 1) := by decide +kernel
theorem dL_law_495 : decode cL_law 495 = .ok (.aload_n 1, 1) := by decide +kernel
theorem dL_law_496 : decode cL_law 496 = .ok (.aload_n 0, 1) := by decide +kernel
theorem dL_law_497 : decode cL_law 497 = .ok (.iload_n 3, 1) := by decide +kernel
theorem dL_law_498 : decode cL_law 498 = .ok (.iconst 1, 1) := by decide +kernel
theorem dL_law_499 : decode cL_law 499 = .ok (.iadd, 1) := by decide +kernel
theorem dL_law_500 : decode cL_law 500 = .ok (.iaload, 1) := by decide +kernel
theorem dL_law_501 : decode cL_law 501 = .ok (.aload_n 0, 1) := by decide +kernel
theorem dL_law_502 : decode cL_law 502 = .ok (.iload_n 3, 1) := by decide +kernel
theorem dL_law_503 : decode cL_law 503 = .ok (.iconst 2, 1) := by decide +kernel
theorem dL_law_504 : decode cL_law 504 = .ok (.iadd, 1) := by decide +kernel
theorem dL_law_505 : decode cL_law 505 = .ok (.iaload, 1) := by decide +kernel
theorem dL_law_506 : decode cL_law 506 = .ok (.invokevirtual 68, 3) := by decide +kernel
theorem dL_law_509 : decode cL_law 509 = .ok (.aload_n 2, 1) := by decide +kernel
theorem dL_law_510 : decode cL_law 510 = .ok (.aload_n 0, 1) := by decide +kernel
theorem dL_law_511 : decode cL_law 511 = .ok (.iload_n 3, 1) := by decide +kernel
theorem dL_law_512 : decode cL_law 512 = .ok (.iconst 1, 1) := by decide +kernel
theorem dL_law_513 : decode cL_law 513 = .ok (.iadd, 1) := by decide +kernel
theorem dL_law_514 : decode cL_law 514 = .ok (.iaload, 1) := by decide +kernel
theorem dL_law_515 : decode cL_law 515 = .ok (.aload_n 0, 1) := by decide +kernel
theorem dL_law_516 : decode cL_law 516 = .ok (.iload_n 3, 1) := by decide +kernel
theorem dL_law_517 : decode cL_law 517 = .ok (.iconst 2, 1) := by decide +kernel
theorem dL_law_518 : decode cL_law 518 = .ok (.iadd, 1) := by decide +kernel
theorem dL_law_519 : decode cL_law 519 = .ok (.iaload, 1) := by decide +kernel
theorem dL_law_520 : decode cL_law 520 = .ok (.invokevirtual 71, 3) := by decide +kernel
theorem dL_law_523 : decode cL_law 523 = .ok (.if_icmp .eq 730, 3) := by decide +kernel
theorem dL_law_526 : decode cL_law 526 = .ok (.iconst 0, 1) := by decide +kernel
theorem dL_law_527 : decode cL_law 527 = .ok (.ireturn, 1) := by decide +kernel
theorem dL_law_528 : decode cL_law 528 = .ok (.aload_n 1, 1) := by decide +kernel
theorem dL_law_529 : decode cL_law 529 = .ok (.aload_n 0, 1) := by decide +kernel
theorem dL_law_530 : decode cL_law 530 = .ok (.iload_n 3, 1) := by decide +kernel
theorem dL_law_531 : decode cL_law 531 = .ok (.iconst 1, 1) := by decide +kernel
theorem dL_law_532 : decode cL_law 532 = .ok (.iadd, 1) := by decide +kernel
theorem dL_law_533 : decode cL_law 533 = .ok (.iaload, 1) := by decide +kernel
theorem dL_law_534 : decode cL_law 534 = .ok (.invokevirtual 72, 3) := by decide +kernel
theorem dL_law_537 : decode cL_law 537 = .ok (.aload_n 2, 1) := by decide +kernel
theorem dL_law_538 : decode cL_law 538 = .ok (.aload_n 0, 1) := by decide +kernel
theorem dL_law_539 : decode cL_law 539 = .ok (.iload_n 3, 1) := by decide +kernel
theorem dL_law_540 : decode cL_law 540 = .ok (.iconst 1, 1) := by decide +kernel
theorem dL_law_541 : decode cL_law 541 = .ok (.iadd, 1) := by decide +kernel
theorem dL_law_542 : decode cL_law 542 = .ok (.iaload, 1) := by decide +kernel
theorem dL_law_543 : decode cL_law 543 = .ok (.invokevirtual 75, 3) := by decide +kernel
theorem dL_law_546 : decode cL_law 546 = .ok (.if_icmp .eq 707, 3) := by decide +kernel
theorem dL_law_549 : decode cL_law 549 = .ok (.iconst 0, 1) := by decide +kernel
theorem dL_law_550 : decode cL_law 550 = .ok (.ireturn, 1) := by decide +kernel
theorem dL_law_551 : decode cL_law 551 = .ok (.aload_n 1, 1) := by decide +kernel
theorem dL_law_552 : decode cL_law 552 = .ok (.aload_n 0, 1) := by decide +kernel
theorem dL_law_553 : decode cL_law 553 = .ok (.iload_n 3, 1) := by decide +kernel
theorem dL_law_554 : decode cL_law 554 = .ok (.iconst 1, 1) := by decide +kernel
theorem dL_law_555 : decode cL_law 555 = .ok (.iadd, 1) := by decide +kernel
theorem dL_law_556 : decode cL_law 556 = .ok (.iaload, 1) := by decide +kernel
theorem dL_law_557 : decode cL_law 557 = .ok (.aload_n 0, 1) := by decide +kernel
theorem dL_law_558 : decode cL_law 558 = .ok (.iload_n 3, 1) := by decide +kernel
theorem dL_law_559 : decode cL_law 559 = .ok (.iconst 2, 1) := by decide +kernel
theorem dL_law_560 : decode cL_law 560 = .ok (.iadd, 1) := by decide +kernel
theorem dL_law_561 : decode cL_law 561 = .ok (.iaload, 1) := by decide +kernel
theorem dL_law_562 : decode cL_law 562 = .ok (.invokevirtual 76, 3) := by decide +kernel
theorem dL_law_565 : decode cL_law 565 = .ok (.aload_n 2, 1) := by decide +kernel
theorem dL_law_566 : decode cL_law 566 = .ok (.aload_n 0, 1) := by decide +kernel
theorem dL_law_567 : decode cL_law 567 = .ok (.iload_n 3, 1) := by decide +kernel
theorem dL_law_568 : decode cL_law 568 = .ok (.iconst 1, 1) := by decide +kernel
theorem dL_law_569 : decode cL_law 569 = .ok (.iadd, 1) := by decide +kernel
theorem dL_law_570 : decode cL_law 570 = .ok (.iaload, 1) := by decide +kernel
theorem dL_law_571 : decode cL_law 571 = .ok (.aload_n 0, 1) := by decide +kernel
theorem dL_law_572 : decode cL_law 572 = .ok (.iload_n 3, 1) := by decide +kernel
theorem dL_law_573 : decode cL_law 573 = .ok (.iconst 2, 1) := by decide +kernel
theorem dL_law_574 : decode cL_law 574 = .ok (.iadd, 1) := by decide +kernel
theorem dL_law_575 : decode cL_law 575 = .ok (.iaload, 1) := by decide +kernel
theorem dL_law_576 : decode cL_law 576 = .ok (.invokevirtual 79, 3) := by decide +kernel
theorem dL_law_579 : decode cL_law 579 = .ok (.if_icmp .eq 674, 3) := by decide +kernel
theorem dL_law_582 : decode cL_law 582 = .ok (.iconst 0, 1) := by decide +kernel
theorem dL_law_583 : decode cL_law 583 = .ok (.ireturn, 1) := by decide +kernel
theorem dL_law_584 : decode cL_law 584 = .ok (.aload_n 1, 1) := by decide +kernel
theorem dL_law_585 : decode cL_law 585 = .ok (.aload_n 0, 1) := by decide +kernel
theorem dL_law_586 : decode cL_law 586 = .ok (.iload_n 3, 1) := by decide +kernel
theorem dL_law_587 : decode cL_law 587 = .ok (.iconst 1, 1) := by decide +kernel
theorem dL_law_588 : decode cL_law 588 = .ok (.iadd, 1) := by decide +kernel
theorem dL_law_589 : decode cL_law 589 = .ok (.iaload, 1) := by decide +kernel
theorem dL_law_590 : decode cL_law 590 = .ok (.aload_n 0, 1) := by decide +kernel
theorem dL_law_591 : decode cL_law 591 = .ok (.iload_n 3, 1) := by decide +kernel
theorem dL_law_592 : decode cL_law 592 = .ok (.iconst 2, 1) := by decide +kernel
theorem dL_law_593 : decode cL_law 593 = .ok (.iadd, 1) := by decide +kernel
theorem dL_law_594 : decode cL_law 594 = .ok (.iaload, 1) := by decide +kernel
theorem dL_law_595 : decode cL_law 595 = .ok (.invokevirtual 80, 3) := by decide +kernel
theorem dL_law_598 : decode cL_law 598 = .ok (.aload_n 2, 1) := by decide +kernel
theorem dL_law_599 : decode cL_law 599 = .ok (.aload_n 0, 1) := by decide +kernel
theorem dL_law_600 : decode cL_law 600 = .ok (.iload_n 3, 1) := by decide +kernel
theorem dL_law_601 : decode cL_law 601 = .ok (.iconst 1, 1) := by decide +kernel
theorem dL_law_602 : decode cL_law 602 = .ok (.iadd, 1) := by decide +kernel
theorem dL_law_603 : decode cL_law 603 = .ok (.iaload, 1) := by decide +kernel
theorem dL_law_604 : decode cL_law 604 = .ok (.aload_n 0, 1) := by decide +kernel
theorem dL_law_605 : decode cL_law 605 = .ok (.iload_n 3, 1) := by decide +kernel
theorem dL_law_606 : decode cL_law 606 = .ok (.iconst 2, 1) := by decide +kernel
theorem dL_law_607 : decode cL_law 607 = .ok (.iadd, 1) := by decide +kernel
theorem dL_law_608 : decode cL_law 608 = .ok (.iaload, 1) := by decide +kernel
theorem dL_law_609 : decode cL_law 609 = .ok (.invokevirtual 83, 3) := by decide +kernel
theorem dL_law_612 : decode cL_law 612 = .ok (.if_icmp .eq 641, 3) := by decide +kernel
theorem dL_law_615 : decode cL_law 615 = .ok (.iconst 0, 1) := by decide +kernel
theorem dL_law_616 : decode cL_law 616 = .ok (.ireturn, 1) := by decide +kernel
theorem dL_law_617 : decode cL_law 617 = .ok (.aload_n 1, 1) := by decide +kernel
theorem dL_law_618 : decode cL_law 618 = .ok (.aload_n 0, 1) := by decide +kernel
theorem dL_law_619 : decode cL_law 619 = .ok (.iload_n 3, 1) := by decide +kernel
theorem dL_law_620 : decode cL_law 620 = .ok (.iconst 1, 1) := by decide +kernel
theorem dL_law_621 : decode cL_law 621 = .ok (.iadd, 1) := by decide +kernel
theorem dL_law_622 : decode cL_law 622 = .ok (.iaload, 1) := by decide +kernel
theorem dL_law_623 : decode cL_law 623 = .ok (.aload_n 0, 1) := by decide +kernel
theorem dL_law_624 : decode cL_law 624 = .ok (.iload_n 3, 1) := by decide +kernel
theorem dL_law_625 : decode cL_law 625 = .ok (.iconst 2, 1) := by decide +kernel
theorem dL_law_626 : decode cL_law 626 = .ok (.iadd, 1) := by decide +kernel
theorem dL_law_627 : decode cL_law 627 = .ok (.iaload, 1) := by decide +kernel
theorem dL_law_628 : decode cL_law 628 = .ok (.invokevirtual 84, 3) := by decide +kernel
theorem dL_law_631 : decode cL_law 631 = .ok (.aload_n 2, 1) := by decide +kernel
theorem dL_law_632 : decode cL_law 632 = .ok (.aload_n 0, 1) := by decide +kernel
theorem dL_law_633 : decode cL_law 633 = .ok (.iload_n 3, 1) := by decide +kernel
theorem dL_law_634 : decode cL_law 634 = .ok (.iconst 1, 1) := by decide +kernel
theorem dL_law_635 : decode cL_law 635 = .ok (.iadd, 1) := by decide +kernel
theorem dL_law_636 : decode cL_law 636 = .ok (.iaload, 1) := by decide +kernel
theorem dL_law_637 : decode cL_law 637 = .ok (.aload_n 0, 1) := by decide +kernel
theorem dL_law_638 : decode cL_law 638 = .ok (.iload_n 3, 1) := by decide +kernel
theorem dL_law_639 : decode cL_law 639 = .ok (.iconst 2, 1) := by decide +kernel
theorem dL_law_640 : decode cL_law 640 = .ok (.iadd, 1) := by decide +kernel
theorem dL_law_641 : decode cL_law 641 = .ok (.iaload, 1) := by decide +kernel
theorem dL_law_642 : decode cL_law 642 = .ok (.invokevirtual 87, 3) := by decide +kernel
theorem dL_law_645 : decode cL_law 645 = .ok (.if_icmp .eq 608, 3) := by decide +kernel
theorem dL_law_648 : decode cL_law 648 = .ok (.iconst 0, 1) := by decide +kernel
theorem dL_law_649 : decode cL_law 649 = .ok (.ireturn, 1) := by decide +kernel
theorem dL_law_650 : decode cL_law 650 = .ok (.aload_n 1, 1) := by decide +kernel
theorem dL_law_651 : decode cL_law 651 = .ok (.aload_n 0, 1) := by decide +kernel
theorem dL_law_652 : decode cL_law 652 = .ok (.iload_n 3, 1) := by decide +kernel
theorem dL_law_653 : decode cL_law 653 = .ok (.iconst 1, 1) := by decide +kernel
theorem dL_law_654 : decode cL_law 654 = .ok (.iadd, 1) := by decide +kernel
theorem dL_law_655 : decode cL_law 655 = .ok (.iaload, 1) := by decide +kernel
theorem dL_law_656 : decode cL_law 656 = .ok (.invokevirtual 88, 3) := by decide +kernel
theorem dL_law_659 : decode cL_law 659 = .ok (.aload_n 2, 1) := by decide +kernel
theorem dL_law_660 : decode cL_law 660 = .ok (.aload_n 0, 1) := by decide +kernel
theorem dL_law_661 : decode cL_law 661 = .ok (.iload_n 3, 1) := by decide +kernel
theorem dL_law_662 : decode cL_law 662 = .ok (.iconst 1, 1) := by decide +kernel
theorem dL_law_663 : decode cL_law 663 = .ok (.iadd, 1) := by decide +kernel
theorem dL_law_664 : decode cL_law 664 = .ok (.iaload, 1) := by decide +kernel
theorem dL_law_665 : decode cL_law 665 = .ok (.invokevirtual 91, 3) := by decide +kernel
theorem dL_law_668 : decode cL_law 668 = .ok (.if_icmp .eq 585, 3) := by decide +kernel
theorem dL_law_671 : decode cL_law 671 = .ok (.iconst 0, 1) := by decide +kernel
theorem dL_law_672 : decode cL_law 672 = .ok (.ireturn, 1) := by decide +kernel
theorem dL_law_673 : decode cL_law 673 = .ok (.aload_n 1, 1) := by decide +kernel
theorem dL_law_674 : decode cL_law 674 = .ok (.aload_n 0, 1) := by decide +kernel
theorem dL_law_675 : decode cL_law 675 = .ok (.iload_n 3, 1) := by decide +kernel
theorem dL_law_676 : decode cL_law 676 = .ok (.iconst 1, 1) := by decide +kernel
theorem dL_law_677 : decode cL_law 677 = .ok (.iadd, 1) := by decide +kernel
theorem dL_law_678 : decode cL_law 678 = .ok (.iaload, 1) := by decide +kernel
theorem dL_law_679 : decode cL_law 679 = .ok (.invokevirtual 92, 3) := by decide +kernel
theorem dL_law_682 : decode cL_law 682 = .ok (.aload_n 2, 1) := by decide +kernel
theorem dL_law_683 : decode cL_law 683 = .ok (.aload_n 0, 1) := by decide +kernel
theorem dL_law_684 : decode cL_law 684 = .ok (.iload_n 3, 1) := by decide +kernel
theorem dL_law_685 : decode cL_law 685 = .ok (.iconst 1, 1) := by decide +kernel
theorem dL_law_686 : decode cL_law 686 = .ok (.iadd, 1) := by decide +kernel
theorem dL_law_687 : decode cL_law 687 = .ok (.iaload, 1) := by decide +kernel
theorem dL_law_688 : decode cL_law 688 = .ok (.invokevirtual 95, 3) := by decide +kernel
theorem dL_law_691 : decode cL_law 691 = .ok (.if_icmp .eq 562, 3) := by decide +kernel
theorem dL_law_694 : decode cL_law 694 = .ok (.iconst 0, 1) := by decide +kernel
theorem dL_law_695 : decode cL_law 695 = .ok (.ireturn, 1) := by decide +kernel
theorem dL_law_696 : decode cL_law 696 = .ok (.aload_n 1, 1) := by decide +kernel
theorem dL_law_697 : decode cL_law 697 = .ok (.aload_n 0, 1) := by decide +kernel
theorem dL_law_698 : decode cL_law 698 = .ok (.iload_n 3, 1) := by decide +kernel
theorem dL_law_699 : decode cL_law 699 = .ok (.iconst 1, 1) := by decide +kernel
theorem dL_law_700 : decode cL_law 700 = .ok (.iadd, 1) := by decide +kernel
theorem dL_law_701 : decode cL_law 701 = .ok (.iaload, 1) := by decide +kernel
theorem dL_law_702 : decode cL_law 702 = .ok (.invokevirtual 96, 3) := by decide +kernel
theorem dL_law_705 : decode cL_law 705 = .ok (.aload_n 2, 1) := by decide +kernel
theorem dL_law_706 : decode cL_law 706 = .ok (.aload_n 0, 1) := by decide +kernel
theorem dL_law_707 : decode cL_law 707 = .ok (.iload_n 3, 1) := by decide +kernel
theorem dL_law_708 : decode cL_law 708 = .ok (.iconst 1, 1) := by decide +kernel
theorem dL_law_709 : decode cL_law 709 = .ok (.iadd, 1) := by decide +kernel
theorem dL_law_710 : decode cL_law 710 = .ok (.iaload, 1) := by decide +kernel
theorem dL_law_711 : decode cL_law 711 = .ok (.invokevirtual 99, 3) := by decide +kernel
theorem dL_law_714 : decode cL_law 714 = .ok (.if_icmp .eq 539, 3) := by decide +kernel
theorem dL_law_717 : decode cL_law 717 = .ok (.iconst 0, 1) := by decide +kernel
theorem dL_law_718 : decode cL_law 718 = .ok (.ireturn, 1) := by decide +kernel
theorem dL_law_719 : decode cL_law 719 = .ok (.aload_n 1, 1) := by decide +kernel
theorem dL_law_720 : decode cL_law 720 = .ok (.invokevirtual 100, 3) := by decide +kernel
theorem dL_law_723 : decode cL_law 723 = .ok (.aload_n 2, 1) := by decide +kernel
theorem dL_law_724 : decode cL_law 724 = .ok (.invokevirtual 103, 3) := by decide +kernel
theorem dL_law_727 : decode cL_law 727 = .ok (.if_icmp .eq 526, 3) := by decide +kernel
theorem dL_law_730 : decode cL_law 730 = .ok (.iconst 0, 1) := by decide +kernel
theorem dL_law_731 : decode cL_law 731 = .ok (.ireturn, 1) := by decide +kernel
theorem dL_law_732 : decode cL_law 732 = .ok (.aload_n 1, 1) := by decide +kernel
theorem dL_law_733 : decode cL_law 733 = .ok (.aload_n 0, 1) := by decide +kernel
theorem dL_law_734 : decode cL_law 734 = .ok (.iload_n 3, 1) := by decide +kernel
theorem dL_law_735 : decode cL_law 735 = .ok (.iconst 1, 1) := by decide +kernel
theorem dL_law_736 : decode cL_law 736 = .ok (.iadd, 1) := by decide +kernel
theorem dL_law_737 : decode cL_law 737 = .ok (.iaload, 1) := by decide +kernel
theorem dL_law_738 : decode cL_law 738 = .ok (.aload_n 0, 1) := by decide +kernel
theorem dL_law_739 : decode cL_law 739 = .ok (.iload_n 3, 1) := by decide +kernel
theorem dL_law_740 : decode cL_law 740 = .ok (.iconst 2, 1) := by decide +kernel
theorem dL_law_741 : decode cL_law 741 = .ok (.iadd, 1) := by decide +kernel
theorem dL_law_742 : decode cL_law 742 = .ok (.iaload, 1) := by decide +kernel
theorem dL_law_743 : decode cL_law 743 = .ok (.invokevirtual 104, 3) := by decide +kernel
theorem dL_law_746 : decode cL_law 746 = .ok (.aload_n 2, 1) := by decide +kernel
theorem dL_law_747 : decode cL_law 747 = .ok (.aload_n 0, 1) := by decide +kernel
theorem dL_law_748 : decode cL_law 748 = .ok (.iload_n 3, 1) := by decide +kernel
theorem dL_law_749 : decode cL_law 749 = .ok (.iconst 1, 1) := by decide +kernel
theorem dL_law_750 : decode cL_law 750 = .ok (.iadd, 1) := by decide +kernel
theorem dL_law_751 : decode cL_law 751 = .ok (.iaload, 1) := by decide +kernel
theorem dL_law_752 : decode cL_law 752 = .ok (.aload_n 0, 1) := by decide +kernel
theorem dL_law_753 : decode cL_law 753 = .ok (.iload_n 3, 1) := by decide +kernel
theorem dL_law_754 : decode cL_law 754 = .ok (.iconst 2, 1) := by decide +kernel
theorem dL_law_755 : decode cL_law 755 = .ok (.iadd, 1) := by decide +kernel
theorem dL_law_756 : decode cL_law 756 = .ok (.iaload, 1) := by decide +kernel
theorem dL_law_757 : decode cL_law 757 = .ok (.invokevirtual 107, 3) := by decide +kernel
theorem dL_law_760 : decode cL_law 760 = .ok (.if_icmp .eq 493, 3) := by decide +kernel
theorem dL_law_763 : decode cL_law 763 = .ok (.iconst 0, 1) := by decide +kernel
theorem dL_law_764 : decode cL_law 764 = .ok (.ireturn, 1) := by decide +kernel
theorem dL_law_765 : decode cL_law 765 = .ok (.aload_n 1, 1) := by decide +kernel
theorem dL_law_766 : decode cL_law 766 = .ok (.aload_n 0, 1) := by decide +kernel
theorem dL_law_767 : decode cL_law 767 = .ok (.iload_n 3, 1) := by decide +kernel
theorem dL_law_768 : decode cL_law 768 = .ok (.iconst 1, 1) := by decide +kernel
theorem dL_law_769 : decode cL_law 769 = .ok (.iadd, 1) := by decide +kernel
theorem dL_law_770 : decode cL_law 770 = .ok (.iaload, 1) := by decide +kernel
theorem dL_law_771 : decode cL_law 771 = .ok (.invokevirtual 108, 3) := by decide +kernel
theorem dL_law_774 : decode cL_law 774 = .ok (.aload_n 2, 1) := by decide +kernel
theorem dL_law_775 : decode cL_law 775 = .ok (.aload_n 0, 1) := by decide +kernel
theorem dL_law_776 : decode cL_law 776 = .ok (.iload_n 3, 1) := by decide +kernel
theorem dL_law_777 : decode cL_law 777 = .ok (.iconst 1, 1) := by decide +kernel
theorem dL_law_778 : decode cL_law 778 = .ok (.iadd, 1) := by decide +kernel
theorem dL_law_779 : decode cL_law 779 = .ok (.iaload, 1) := by decide +kernel
theorem dL_law_780 : decode cL_law 780 = .ok (.invokevirtual 111, 3) := by decide +kernel
theorem dL_law_783 : decode cL_law 783 = .ok (.if_icmp .eq 470, 3) := by decide +kernel
theorem dL_law_786 : decode cL_law 786 = .ok (.iconst 0, 1) := by decide +kernel
theorem dL_law_787 : decode cL_law 787 = .ok (.ireturn, 1) := by decide +kernel
theorem dL_law_788 : decode cL_law 788 = .ok (.aload_n 1, 1) := by decide +kernel
theorem dL_law_789 : decode cL_law 789 = .ok (.aload_n 0, 1) := by decide +kernel
theorem dL_law_790 : decode cL_law 790 = .ok (.iload_n 3, 1) := by decide +kernel
theorem dL_law_791 : decode cL_law 791 = .ok (.iconst 1, 1) := by decide +kernel
theorem dL_law_792 : decode cL_law 792 = .ok (.iadd, 1) := by decide +kernel
theorem dL_law_793 : decode cL_law 793 = .ok (.iaload, 1) := by decide +kernel
theorem dL_law_794 : decode cL_law 794 = .ok (.invokevirtual 112, 3) := by decide +kernel
theorem dL_law_797 : decode cL_law 797 = .ok (.aload_n 2, 1) := by decide +kernel
theorem dL_law_798 : decode cL_law 798 = .ok (.aload_n 0, 1) := by decide +kernel
theorem dL_law_799 : decode cL_law 799 = .ok (.iload_n 3, 1) := by decide +kernel
theorem dL_law_800 : decode cL_law 800 = .ok (.iconst 1, 1) := by decide +kernel
theorem dL_law_801 : decode cL_law 801 = .ok (.iadd, 1) := by decide +kernel
theorem dL_law_802 : decode cL_law 802 = .ok (.iaload, 1) := by decide +kernel
theorem dL_law_803 : decode cL_law 803 = .ok (.invokevirtual 115, 3) := by decide +kernel
theorem dL_law_806 : decode cL_law 806 = .ok (.if_icmp .eq 447, 3) := by decide +kernel
theorem dL_law_809 : decode cL_law 809 = .ok (.iconst 0, 1) := by decide +kernel
theorem dL_law_810 : decode cL_law 810 = .ok (.ireturn, 1) := by decide +kernel
theorem dL_law_811 : decode cL_law 811 = .ok (.aload_n 1, 1) := by decide +kernel
theorem dL_law_812 : decode cL_law 812 = .ok (.aload_n 0, 1) := by decide +kernel
theorem dL_law_813 : decode cL_law 813 = .ok (.iload_n 3, 1) := by decide +kernel
theorem dL_law_814 : decode cL_law 814 = .ok (.iconst 1, 1) := by decide +kernel
theorem dL_law_815 : decode cL_law 815 = .ok (.iadd, 1) := by decide +kernel
theorem dL_law_816 : decode cL_law 816 = .ok (.iaload, 1) := by decide +kernel
theorem dL_law_817 : decode cL_law 817 = .ok (.invokevirtual 116, 3) := by decide +kernel
theorem dL_law_820 : decode cL_law 820 = .ok (.aload_n 2, 1) := by decide +kernel
theorem dL_law_821 : decode cL_law 821 = .ok (.aload_n 0, 1) := by decide +kernel
theorem dL_law_822 : decode cL_law 822 = .ok (.iload_n 3, 1) := by decide +kernel
theorem dL_law_823 : decode cL_law 823 = .ok (.iconst 1, 1) := by decide +kernel
theorem dL_law_824 : decode cL_law 824 = .ok (.iadd, 1) := by decide +kernel
theorem dL_law_825 : decode cL_law 825 = .ok (.iaload, 1) := by decide +kernel
theorem dL_law_826 : decode cL_law 826 = .ok (.invokevirtual 119, 3) := by decide +kernel
theorem dL_law_829 : decode cL_law 829 = .ok (.if_icmp .eq 424, 3) := by decide +kernel
theorem dL_law_832 : decode cL_law 832 = .ok (.iconst 0, 1) := by decide +kernel
theorem dL_law_833 : decode cL_law 833 = .ok (.ireturn, 1) := by decide +kernel
theorem dL_law_834 : decode cL_law 834 = .ok (.aload_n 1, 1) := by decide +kernel
theorem dL_law_835 : decode cL_law 835 = .ok (.aload_n 0, 1) := by decide +kernel
theorem dL_law_836 : decode cL_law 836 = .ok (.iload_n 3, 1) := by decide +kernel
theorem dL_law_837 : decode cL_law 837 = .ok (.iconst 1, 1) := by decide +kernel
theorem dL_law_838 : decode cL_law 838 = .ok (.iadd, 1) := by decide +kernel
theorem dL_law_839 : decode cL_law 839 = .ok (.iaload, 1) := by decide +kernel
theorem dL_law_840 : decode cL_law 840 = .ok (.invokevirtual 120, 3) := by decide +kernel
theorem dL_law_843 : decode cL_law 843 = .ok (.aload_n 2, 1) := by decide +kernel
theorem dL_law_844 : decode cL_law 844 = .ok (.aload_n 0, 1) := by decide +kernel
theorem dL_law_845 : decode cL_law 845 = .ok (.iload_n 3, 1) := by decide +kernel
theorem dL_law_846 : decode cL_law 846 = .ok (.iconst 1, 1) := by decide +kernel
theorem dL_law_847 : decode cL_law 847 = .ok (.iadd, 1) := by decide +kernel
theorem dL_law_848 : decode cL_law 848 = .ok (.iaload, 1) := by decide +kernel
theorem dL_law_849 : decode cL_law 849 = .ok (.invokevirtual 123, 3) := by decide +kernel
theorem dL_law_852 : decode cL_law 852 = .ok (.if_icmp .eq 401, 3) := by decide +kernel
theorem dL_law_855 : decode cL_law 855 = .ok (.iconst 0, 1) := by decide +kernel
theorem dL_law_856 : decode cL_law 856 = .ok (.ireturn, 1) := by decide +kernel
theorem dL_law_857 : decode cL_law 857 = .ok (.aload_n 1, 1) := by decide +kernel
theorem dL_law_858 : decode cL_law 858 = .ok (.aload_n 0, 1) := by decide +kernel
theorem dL_law_859 : decode cL_law 859 = .ok (.iload_n 3, 1) := by decide +kernel
theorem dL_law_860 : decode cL_law 860 = .ok (.iconst 1, 1) := by decide +kernel
theorem dL_law_861 : decode cL_law 861 = .ok (.iadd, 1) := by decide +kernel
theorem dL_law_862 : decode cL_law 862 = .ok (.iaload, 1) := by decide +kernel
theorem dL_law_863 : decode cL_law 863 = .ok (.invokevirtual 124, 3) := by decide +kernel
theorem dL_law_866 : decode cL_law 866 = .ok (.aload_n 2, 1) := by decide +kernel
theorem dL_law_867 : decode cL_law 867 = .ok (.aload_n 0, 1) := by decide +kernel
theorem dL_law_868 : decode cL_law 868 = .ok (.iload_n 3, 1) := by decide +kernel
theorem dL_law_869 : decode cL_law 869 = .ok (.iconst 1, 1) := by decide +kernel
theorem dL_law_870 : decode cL_law 870 = .ok (.iadd, 1) := by decide +kernel
theorem dL_law_871 : decode cL_law 871 = .ok (.iaload, 1) := by decide +kernel
theorem dL_law_872 : decode cL_law 872 = .ok (.invokevirtual 127, 3) := by decide +kernel
theorem dL_law_875 : decode cL_law 875 = .ok (.if_icmp .eq 378, 3) := by decide +kernel
theorem dL_law_878 : decode cL_law 878 = .ok (.iconst 0, 1) := by decide +kernel
theorem dL_law_879 : decode cL_law 879 = .ok (.ireturn, 1) := by decide +kernel
theorem dL_law_880 : decode cL_law 880 = .ok (.aload_n 1, 1) := by decide +kernel
theorem dL_law_881 : decode cL_law 881 = .ok (.aload_n 0, 1) := by decide +kernel
theorem dL_law_882 : decode cL_law 882 = .ok (.iload_n 3, 1) := by decide +kernel
theorem dL_law_883 : decode cL_law 883 = .ok (.iconst 1, 1) := by decide +kernel
theorem dL_law_884 : decode cL_law 884 = .ok (.iadd, 1) := by decide +kernel
theorem dL_law_885 : decode cL_law 885 = .ok (.iaload, 1) := by decide +kernel
theorem dL_law_886 : decode cL_law 886 = .ok (.invokevirtual 128, 3) := by decide +kernel
theorem dL_law_889 : decode cL_law 889 = .ok (.aload_n 2, 1) := by decide +kernel
theorem dL_law_890 : decode cL_law 890 = .ok (.aload_n 0, 1) := by decide +kernel
theorem dL_law_891 : decode cL_law 891 = .ok (.iload_n 3, 1) := by decide +kernel
theorem dL_law_892 : decode cL_law 892 = .ok (.iconst 1, 1) := by decide +kernel
theorem dL_law_893 : decode cL_law 893 = .ok (.iadd, 1) := by decide +kernel
theorem dL_law_894 : decode cL_law 894 = .ok (.iaload, 1) := by decide +kernel
theorem dL_law_895 : decode cL_law 895 = .ok (.invokevirtual 131, 3) := by decide +kernel
theorem dL_law_898 : decode cL_law 898 = .ok (.if_icmp .eq 355, 3) := by decide +kernel
theorem dL_law_901 : decode cL_law 901 = .ok (.iconst 0, 1) := by decide +kernel
theorem dL_law_902 : decode cL_law 902 = .ok (.ireturn, 1) := by decide +kernel
theorem dL_law_903 : decode cL_law 903 = .ok (.aload_n 1, 1) := by decide +kernel
theorem dL_law_904 : decode cL_law 904 = .ok (.aload_n 0, 1) := by decide +kernel
theorem dL_law_905 : decode cL_law 905 = .ok (.iload_n 3, 1) := by decide +kernel
theorem dL_law_906 : decode cL_law 906 = .ok (.iconst 1, 1) := by decide +kernel
theorem dL_law_907 : decode cL_law 907 = .ok (.iadd, 1) := by decide +kernel
theorem dL_law_908 : decode cL_law 908 = .ok (.iaload, 1) := by decide +kernel
theorem dL_law_909 : decode cL_law 909 = .ok (.aload_n 0, 1) := by decide +kernel
theorem dL_law_910 : decode cL_law 910 = .ok (.iload_n 3, 1) := by decide +kernel
theorem dL_law_911 : decode cL_law 911 = .ok (.iconst 2, 1) := by decide +kernel
theorem dL_law_912 : decode cL_law 912 = .ok (.iadd, 1) := by decide +kernel
theorem dL_law_913 : decode cL_law 913 = .ok (.iaload, 1) := by decide +kernel
theorem dL_law_914 : decode cL_law 914 = .ok (.invokevirtual 132, 3) := by decide +kernel
theorem dL_law_917 : decode cL_law 917 = .ok (.aload_n 2, 1) := by decide +kernel
theorem dL_law_918 : decode cL_law 918 = .ok (.aload_n 0, 1) := by decide +kernel
theorem dL_law_919 : decode cL_law 919 = .ok (.iload_n 3, 1) := by decide +kernel
theorem dL_law_920 : decode cL_law 920 = .ok (.iconst 1, 1) := by decide +kernel
theorem dL_law_921 : decode cL_law 921 = .ok (.iadd, 1) := by decide +kernel
theorem dL_law_922 : decode cL_law 922 = .ok (.iaload, 1) := by decide +kernel
theorem dL_law_923 : decode cL_law 923 = .ok (.aload_n 0, 1) := by decide +kernel
theorem dL_law_924 : decode cL_law 924 = .ok (.iload_n 3, 1) := by decide +kernel
theorem dL_law_925 : decode cL_law 925 = .ok (.iconst 2, 1) := by decide +kernel
theorem dL_law_926 : decode cL_law 926 = .ok (.iadd, 1) := by decide +kernel
theorem dL_law_927 : decode cL_law 927 = .ok (.iaload, 1) := by decide +kernel
theorem dL_law_928 : decode cL_law 928 = .ok (.invokevirtual 135, 3) := by decide +kernel
theorem dL_law_931 : decode cL_law 931 = .ok (.if_icmp .eq 322, 3) := by decide +kernel
theorem dL_law_934 : decode cL_law 934 = .ok (.iconst 0, 1) := by decide +kernel
theorem dL_law_935 : decode cL_law 935 = .ok (.ireturn, 1) := by decide +kernel
theorem dL_law_936 : decode cL_law 936 = .ok (.aload_n 1, 1) := by decide +kernel
theorem dL_law_937 : decode cL_law 937 = .ok (.aload_n 0, 1) := by decide +kernel
theorem dL_law_938 : decode cL_law 938 = .ok (.iload_n 3, 1) := by decide +kernel
theorem dL_law_939 : decode cL_law 939 = .ok (.iconst 1, 1) := by decide +kernel
theorem dL_law_940 : decode cL_law 940 = .ok (.iadd, 1) := by decide +kernel
theorem dL_law_941 : decode cL_law 941 = .ok (.iaload, 1) := by decide +kernel
theorem dL_law_942 : decode cL_law 942 = .ok (.aload_n 0, 1) := by decide +kernel
theorem dL_law_943 : decode cL_law 943 = .ok (.iload_n 3, 1) := by decide +kernel
theorem dL_law_944 : decode cL_law 944 = .ok (.iconst 2, 1) := by decide +kernel
theorem dL_law_945 : decode cL_law 945 = .ok (.iadd, 1) := by decide +kernel
theorem dL_law_946 : decode cL_law 946 = .ok (.iaload, 1) := by decide +kernel
theorem dL_law_947 : decode cL_law 947 = .ok (.invokevirtual 136, 3) := by decide +kernel
theorem dL_law_950 : decode cL_law 950 = .ok (.aload_n 2, 1) := by decide +kernel
theorem dL_law_951 : decode cL_law 951 = .ok (.aload_n 0, 1) := by decide +kernel
theorem dL_law_952 : decode cL_law 952 = .ok (.iload_n 3, 1) := by decide +kernel
theorem dL_law_953 : decode cL_law 953 = .ok (.iconst 1, 1) := by decide +kernel
theorem dL_law_954 : decode cL_law 954 = .ok (.iadd, 1) := by decide +kernel
theorem dL_law_955 : decode cL_law 955 = .ok (.iaload, 1) := by decide +kernel
theorem dL_law_956 : decode cL_law 956 = .ok (.aload_n 0, 1) := by decide +kernel
theorem dL_law_957 : decode cL_law 957 = .ok (.iload_n 3, 1) := by decide +kernel
theorem dL_law_958 : decode cL_law 958 = .ok (.iconst 2, 1) := by decide +kernel
theorem dL_law_959 : decode cL_law 959 = .ok (.iadd, 1) := by decide +kernel
theorem dL_law_960 : decode cL_law 960 = .ok (.iaload, 1) := by decide +kernel
theorem dL_law_961 : decode cL_law 961 = .ok (.invokevirtual 139, 3) := by decide +kernel
theorem dL_law_964 : decode cL_law 964 = .ok (.if_icmp .eq 289, 3) := by decide +kernel
theorem dL_law_967 : decode cL_law 967 = .ok (.iconst 0, 1) := by decide +kernel
theorem dL_law_968 : decode cL_law 968 = .ok (.ireturn, 1) := by decide +kernel
theorem dL_law_969 : decode cL_law 969 = .ok (.aload_n 1, 1) := by decide +kernel
theorem dL_law_970 : decode cL_law 970 = .ok (.aload_n 0, 1) := by decide +kernel
theorem dL_law_971 : decode cL_law 971 = .ok (.iload_n 3, 1) := by decide +kernel
theorem dL_law_972 : decode cL_law 972 = .ok (.iconst 1, 1) := by decide +kernel
theorem dL_law_973 : decode cL_law 973 = .ok (.iadd, 1) := by decide +kernel
theorem dL_law_974 : decode cL_law 974 = .ok (.iaload, 1) := by decide +kernel
theorem dL_law_975 : decode cL_law 975 = .ok (.aload_n 0, 1) := by decide +kernel
theorem dL_law_976 : decode cL_law 976 = .ok (.iload_n 3, 1) := by decide +kernel
theorem dL_law_977 : decode cL_law 977 = .ok (.iconst 2, 1) := by decide +kernel
theorem dL_law_978 : decode cL_law 978 = .ok (.iadd, 1) := by decide +kernel
theorem dL_law_979 : decode cL_law 979 = .ok (.iaload, 1) := by decide +kernel
theorem dL_law_980 : decode cL_law 980 = .ok (.aload_n 0, 1) := by decide +kernel
theorem dL_law_981 : decode cL_law 981 = .ok (.iload_n 3, 1) := by decide +kernel
theorem dL_law_982 : decode cL_law 982 = .ok (.iconst 3, 1) := by decide +kernel
theorem dL_law_983 : decode cL_law 983 = .ok (.iadd, 1) := by decide +kernel
theorem dL_law_984 : decode cL_law 984 = .ok (.iaload, 1) := by decide +kernel
theorem dL_law_985 : decode cL_law 985 = .ok (.i2l, 1) := by decide +kernel
theorem dL_law_986 : decode cL_law 986 = .ok (.bipush 32, 2) := by decide +kernel
theorem dL_law_988 : decode cL_law 988 = .ok (.lshl, 1) := by decide +kernel
theorem dL_law_989 : decode cL_law 989 = .ok (.aload_n 0, 1) := by decide +kernel
theorem dL_law_990 : decode cL_law 990 = .ok (.iload_n 3, 1) := by decide +kernel
theorem dL_law_991 : decode cL_law 991 = .ok (.iconst 4, 1) := by decide +kernel
theorem dL_law_992 : decode cL_law 992 = .ok (.iadd, 1) := by decide +kernel
theorem dL_law_993 : decode cL_law 993 = .ok (.iaload, 1) := by decide +kernel
theorem dL_law_994 : decode cL_law 994 = .ok (.i2l, 1) := by decide +kernel
theorem dL_law_995 : decode cL_law 995 = .ok (.ldc2_w 140, 3) := by decide +kernel
theorem dL_law_998 : decode cL_law 998 = .ok (.land, 1) := by decide +kernel
theorem dL_law_999 : decode cL_law 999 = .ok (.lor, 1) := by decide +kernel
theorem dL_law_1000 : decode cL_law 1000 = .ok (.invokevirtual 142, 3) := by decide +kernel
theorem dL_law_1003 : decode cL_law 1003 = .ok (.aload_n 2, 1) := by decide +kernel
theorem dL_law_1004 : decode cL_law 1004 = .ok (.aload_n 0, 1) := by decide +kernel
theorem dL_law_1005 : decode cL_law 1005 = .ok (.iload_n 3, 1) := by decide +kernel
theorem dL_law_1006 : decode cL_law 1006 = .ok (.iconst 1, 1) := by decide +kernel
theorem dL_law_1007 : decode cL_law 1007 = .ok (.iadd, 1) := by decide +kernel
theorem dL_law_1008 : decode cL_law 1008 = .ok (.iaload, 1) := by decide +kernel
theorem dL_law_1009 : decode cL_law 1009 = .ok (.aload_n 0, 1) := by decide +kernel
theorem dL_law_1010 : decode cL_law 1010 = .ok (.iload_n 3, 1) := by decide +kernel
theorem dL_law_1011 : decode cL_law 1011 = .ok (.iconst 2, 1) := by decide +kernel
theorem dL_law_1012 : decode cL_law 1012 = .ok (.iadd, 1) := by decide +kernel
theorem dL_law_1013 : decode cL_law 1013 = .ok (.iaload, 1) := by decide +kernel
theorem dL_law_1014 : decode cL_law 1014 = .ok (.aload_n 0, 1) := by decide +kernel
theorem dL_law_1015 : decode cL_law 1015 = .ok (.iload_n 3, 1) := by decide +kernel
theorem dL_law_1016 : decode cL_law 1016 = .ok (.iconst 3, 1) := by decide +kernel
theorem dL_law_1017 : decode cL_law 1017 = .ok (.iadd, 1) := by decide +kernel
theorem dL_law_1018 : decode cL_law 1018 = .ok (.iaload, 1) := by decide +kernel
theorem dL_law_1019 : decode cL_law 1019 = .ok (.i2l, 1) := by decide +kernel
theorem dL_law_1020 : decode cL_law 1020 = .ok (.bipush 32, 2) := by decide +kernel
theorem dL_law_1022 : decode cL_law 1022 = .ok (.lshl, 1) := by decide +kernel
theorem dL_law_1023 : decode cL_law 1023 = .ok (.aload_n 0, 1) := by decide +kernel
theorem dL_law_1024 : decode cL_law 1024 = .ok (.iload_n 3, 1) := by decide +kernel
theorem dL_law_1025 : decode cL_law 1025 = .ok (.iconst 4, 1) := by decide +kernel
theorem dL_law_1026 : decode cL_law 1026 = .ok (.iadd, 1) := by decide +kernel
theorem dL_law_1027 : decode cL_law 1027 = .ok (.iaload, 1) := by decide +kernel
theorem dL_law_1028 : decode cL_law 1028 = .ok (.i2l, 1) := by decide +kernel
theorem dL_law_1029 : decode cL_law 1029 = .ok (.ldc2_w 140, 3) := by decide +kernel
theorem dL_law_1032 : decode cL_law 1032 = .ok (.land, 1) := by decide +kernel
theorem dL_law_1033 : decode cL_law 1033 = .ok (.lor, 1) := by decide +kernel
theorem dL_law_1034 : decode cL_law 1034 = .ok (.invokevirtual 146, 3) := by decide +kernel
theorem dL_law_1037 : decode cL_law 1037 = .ok (.if_icmp .eq 216, 3) := by decide +kernel
theorem dL_law_1040 : decode cL_law 1040 = .ok (.iconst 0, 1) := by decide +kernel
theorem dL_law_1041 : decode cL_law 1041 = .ok (.ireturn, 1) := by decide +kernel
theorem dL_law_1042 : decode cL_law 1042 = .ok (.aload_n 1, 1) := by decide +kernel
theorem dL_law_1043 : decode cL_law 1043 = .ok (.aload_n 0, 1) := by decide +kernel
theorem dL_law_1044 : decode cL_law 1044 = .ok (.iload_n 3, 1) := by decide +kernel
theorem dL_law_1045 : decode cL_law 1045 = .ok (.iconst 1, 1) := by decide +kernel
theorem dL_law_1046 : decode cL_law 1046 = .ok (.iadd, 1) := by decide +kernel
theorem dL_law_1047 : decode cL_law 1047 = .ok (.iaload, 1) := by decide +kernel
theorem dL_law_1048 : decode cL_law 1048 = .ok (.aload_n 0, 1) := by decide +kernel
theorem dL_law_1049 : decode cL_law 1049 = .ok (.iload_n 3, 1) := by decide +kernel
theorem dL_law_1050 : decode cL_law 1050 = .ok (.iconst 2, 1) := by decide +kernel
theorem dL_law_1051 : decode cL_law 1051 = .ok (.iadd, 1) := by decide +kernel
theorem dL_law_1052 : decode cL_law 1052 = .ok (.iaload, 1) := by decide +kernel
theorem dL_law_1053 : decode cL_law 1053 = .ok (.invokevirtual 147, 3) := by decide +kernel
theorem dL_law_1056 : decode cL_law 1056 = .ok (.aload_n 2, 1) := by decide +kernel
theorem dL_law_1057 : decode cL_law 1057 = .ok (.aload_n 0, 1) := by decide +kernel
theorem dL_law_1058 : decode cL_law 1058 = .ok (.iload_n 3, 1) := by decide +kernel
theorem dL_law_1059 : decode cL_law 1059 = .ok (.iconst 1, 1) := by decide +kernel
theorem dL_law_1060 : decode cL_law 1060 = .ok (.iadd, 1) := by decide +kernel
theorem dL_law_1061 : decode cL_law 1061 = .ok (.iaload, 1) := by decide +kernel
theorem dL_law_1062 : decode cL_law 1062 = .ok (.aload_n 0, 1) := by decide +kernel
theorem dL_law_1063 : decode cL_law 1063 = .ok (.iload_n 3, 1) := by decide +kernel
theorem dL_law_1064 : decode cL_law 1064 = .ok (.iconst 2, 1) := by decide +kernel
theorem dL_law_1065 : decode cL_law 1065 = .ok (.iadd, 1) := by decide +kernel
theorem dL_law_1066 : decode cL_law 1066 = .ok (.iaload, 1) := by decide +kernel
theorem dL_law_1067 : decode cL_law 1067 = .ok (.invokevirtual 151, 3) := by decide +kernel
theorem dL_law_1070 : decode cL_law 1070 = .ok (.lcmp, 1) := by decide +kernel
theorem dL_law_1071 : decode cL_law 1071 = .ok (.ifCond .eq 182, 3) := by decide +kernel
theorem dL_law_1074 : decode cL_law 1074 = .ok (.iconst 0, 1) := by decide +kernel
theorem dL_law_1075 : decode cL_law 1075 = .ok (.ireturn, 1) := by decide +kernel
theorem dL_law_1076 : decode cL_law 1076 = .ok (.aload_n 1, 1) := by decide +kernel
theorem dL_law_1077 : decode cL_law 1077 = .ok (.aload_n 0, 1) := by decide +kernel
theorem dL_law_1078 : decode cL_law 1078 = .ok (.iload_n 3, 1) := by decide +kernel
theorem dL_law_1079 : decode cL_law 1079 = .ok (.iconst 1, 1) := by decide +kernel
theorem dL_law_1080 : decode cL_law 1080 = .ok (.iadd, 1) := by decide +kernel
theorem dL_law_1081 : decode cL_law 1081 = .ok (.iaload, 1) := by decide +kernel
theorem dL_law_1082 : decode cL_law 1082 = .ok (.invokevirtual 152, 3) := by decide +kernel
theorem dL_law_1085 : decode cL_law 1085 = .ok (.aload_n 2, 1) := by decide +kernel
theorem dL_law_1086 : decode cL_law 1086 = .ok (.aload_n 0, 1) := by decide +kernel
theorem dL_law_1087 : decode cL_law 1087 = .ok (.iload_n 3, 1) := by decide +kernel
theorem dL_law_1088 : decode cL_law 1088 = .ok (.iconst 1, 1) := by decide +kernel
theorem dL_law_1089 : decode cL_law 1089 = .ok (.iadd, 1) := by decide +kernel
theorem dL_law_1090 : decode cL_law 1090 = .ok (.iaload, 1) := by decide +kernel
theorem dL_law_1091 : decode cL_law 1091 = .ok (.invokevirtual 155, 3) := by decide +kernel
theorem dL_law_1094 : decode cL_law 1094 = .ok (.if_icmp .eq 159, 3) := by decide +kernel
theorem dL_law_1097 : decode cL_law 1097 = .ok (.iconst 0, 1) := by decide +kernel
theorem dL_law_1098 : decode cL_law 1098 = .ok (.ireturn, 1) := by decide +kernel
theorem dL_law_1099 : decode cL_law 1099 = .ok (.aload_n 1, 1) := by decide +kernel
theorem dL_law_1100 : decode cL_law 1100 = .ok (.aload_n 0, 1) := by decide +kernel
theorem dL_law_1101 : decode cL_law 1101 = .ok (.iload_n 3, 1) := by decide +kernel
theorem dL_law_1102 : decode cL_law 1102 = .ok (.iconst 1, 1) := by decide +kernel
theorem dL_law_1103 : decode cL_law 1103 = .ok (.iadd, 1) := by decide +kernel
theorem dL_law_1104 : decode cL_law 1104 = .ok (.iaload, 1) := by decide +kernel
theorem dL_law_1105 : decode cL_law 1105 = .ok (.aload_n 0, 1) := by decide +kernel
theorem dL_law_1106 : decode cL_law 1106 = .ok (.iload_n 3, 1) := by decide +kernel
theorem dL_law_1107 : decode cL_law 1107 = .ok (.iconst 2, 1) := by decide +kernel
theorem dL_law_1108 : decode cL_law 1108 = .ok (.iadd, 1) := by decide +kernel
theorem dL_law_1109 : decode cL_law 1109 = .ok (.iaload, 1) := by decide +kernel
theorem dL_law_1110 : decode cL_law 1110 = .ok (.invokevirtual 156, 3) := by decide +kernel
theorem dL_law_1113 : decode cL_law 1113 = .ok (.aload_n 2, 1) := by decide +kernel
theorem dL_law_1114 : decode cL_law 1114 = .ok (.aload_n 0, 1) := by decide +kernel
theorem dL_law_1115 : decode cL_law 1115 = .ok (.iload_n 3, 1) := by decide +kernel
theorem dL_law_1116 : decode cL_law 1116 = .ok (.iconst 1, 1) := by decide +kernel
theorem dL_law_1117 : decode cL_law 1117 = .ok (.iadd, 1) := by decide +kernel
theorem dL_law_1118 : decode cL_law 1118 = .ok (.iaload, 1) := by decide +kernel
theorem dL_law_1119 : decode cL_law 1119 = .ok (.aload_n 0, 1) := by decide +kernel
theorem dL_law_1120 : decode cL_law 1120 = .ok (.iload_n 3, 1) := by decide +kernel
theorem dL_law_1121 : decode cL_law 1121 = .ok (.iconst 2, 1) := by decide +kernel
theorem dL_law_1122 : decode cL_law 1122 = .ok (.iadd, 1) := by decide +kernel
theorem dL_law_1123 : decode cL_law 1123 = .ok (.iaload, 1) := by decide +kernel
theorem dL_law_1124 : decode cL_law 1124 = .ok (.invokevirtual 159, 3) := by decide +kernel
theorem dL_law_1127 : decode cL_law 1127 = .ok (.if_icmp .eq 126, 3) := by decide +kernel
theorem dL_law_1130 : decode cL_law 1130 = .ok (.iconst 0, 1) := by decide +kernel
theorem dL_law_1131 : decode cL_law 1131 = .ok (.ireturn, 1) := by decide +kernel
theorem dL_law_1132 : decode cL_law 1132 = .ok (.aload_n 1, 1) := by decide +kernel
theorem dL_law_1133 : decode cL_law 1133 = .ok (.aload_n 0, 1) := by decide +kernel
theorem dL_law_1134 : decode cL_law 1134 = .ok (.iload_n 3, 1) := by decide +kernel
theorem dL_law_1135 : decode cL_law 1135 = .ok (.iconst 1, 1) := by decide +kernel
theorem dL_law_1136 : decode cL_law 1136 = .ok (.iadd, 1) := by decide +kernel
theorem dL_law_1137 : decode cL_law 1137 = .ok (.iaload, 1) := by decide +kernel
theorem dL_law_1138 : decode cL_law 1138 = .ok (.invokevirtual 160, 3) := by decide +kernel
theorem dL_law_1141 : decode cL_law 1141 = .ok (.aload_n 2, 1) := by decide +kernel
theorem dL_law_1142 : decode cL_law 1142 = .ok (.aload_n 0, 1) := by decide +kernel
theorem dL_law_1143 : decode cL_law 1143 = .ok (.iload_n 3, 1) := by decide +kernel
theorem dL_law_1144 : decode cL_law 1144 = .ok (.iconst 1, 1) := by decide +kernel
theorem dL_law_1145 : decode cL_law 1145 = .ok (.iadd, 1) := by decide +kernel
theorem dL_law_1146 : decode cL_law 1146 = .ok (.iaload, 1) := by decide +kernel
theorem dL_law_1147 : decode cL_law 1147 = .ok (.invokevirtual 163, 3) := by decide +kernel
theorem dL_law_1150 : decode cL_law 1150 = .ok (.if_icmp .eq 103, 3) := by decide +kernel
theorem dL_law_1153 : decode cL_law 1153 = .ok (.iconst 0, 1) := by decide +kernel
theorem dL_law_1154 : decode cL_law 1154 = .ok (.ireturn, 1) := by decide +kernel
theorem dL_law_1155 : decode cL_law 1155 = .ok (.aload_n 1, 1) := by decide +kernel
theorem dL_law_1156 : decode cL_law 1156 = .ok (.invokevirtual 164, 3) := by decide +kernel
theorem dL_law_1159 : decode cL_law 1159 = .ok (.aload_n 2, 1) := by decide +kernel
theorem dL_law_1160 : decode cL_law 1160 = .ok (.invokevirtual 167, 3) := by decide +kernel
theorem dL_law_1163 : decode cL_law 1163 = .ok (.if_icmp .eq 90, 3) := by decide +kernel
theorem dL_law_1166 : decode cL_law 1166 = .ok (.iconst 0, 1) := by decide +kernel
theorem dL_law_1167 : decode cL_law 1167 = .ok (.ireturn, 1) := by decide +kernel
theorem dL_law_1168 : decode cL_law 1168 = .ok (.aload_n 1, 1) := by decide +kernel
theorem dL_law_1169 : decode cL_law 1169 = .ok (.invokevirtual 168, 3) := by decide +kernel
theorem dL_law_1172 : decode cL_law 1172 = .ok (.aload_n 2, 1) := by decide +kernel
theorem dL_law_1173 : decode cL_law 1173 = .ok (.invokevirtual 171, 3) := by decide +kernel
theorem dL_law_1176 : decode cL_law 1176 = .ok (.if_icmp .eq 77, 3) := by decide +kernel
theorem dL_law_1179 : decode cL_law 1179 = .ok (.iconst 0, 1) := by decide +kernel
theorem dL_law_1180 : decode cL_law 1180 = .ok (.ireturn, 1) := by decide +kernel
theorem dL_law_1181 : decode cL_law 1181 = .ok (.aload_n 1, 1) := by decide +kernel
theorem dL_law_1182 : decode cL_law 1182 = .ok (.aload_n 0, 1) := by decide +kernel
theorem dL_law_1183 : decode cL_law 1183 = .ok (.iload_n 3, 1) := by decide +kernel
theorem dL_law_1184 : decode cL_law 1184 = .ok (.iconst 1, 1) := by decide +kernel
theorem dL_law_1185 : decode cL_law 1185 = .ok (.iadd, 1) := by decide +kernel
theorem dL_law_1186 : decode cL_law 1186 = .ok (.iaload, 1) := by decide +kernel
theorem dL_law_1187 : decode cL_law 1187 = .ok (.invokevirtual 172, 3) := by decide +kernel
theorem dL_law_1190 : decode cL_law 1190 = .ok (.aload_n 2, 1) := by decide +kernel
theorem dL_law_1191 : decode cL_law 1191 = .ok (.aload_n 0, 1) := by decide +kernel
theorem dL_law_1192 : decode cL_law 1192 = .ok (.iload_n 3, 1) := by decide +kernel
theorem dL_law_1193 : decode cL_law 1193 = .ok (.iconst 1, 1) := by decide +kernel
theorem dL_law_1194 : decode cL_law 1194 = .ok (.iadd, 1) := by decide +kernel
theorem dL_law_1195 : decode cL_law 1195 = .ok (.iaload, 1) := by decide +kernel
theorem dL_law_1196 : decode cL_law 1196 = .ok (.invokevirtual 175, 3) := by decide +kernel
theorem dL_law_1199 : decode cL_law 1199 = .ok (.if_icmp .eq 54, 3) := by decide +kernel
theorem dL_law_1202 : decode cL_law 1202 = .ok (.iconst 0, 1) := by decide +kernel
theorem dL_law_1203 : decode cL_law 1203 = .ok (.ireturn, 1) := by decide +kernel
theorem dL_law_1204 : decode cL_law 1204 = .ok (.aload_n 1, 1) := by decide +kernel
theorem dL_law_1205 : decode cL_law 1205 = .ok (.invokevirtual 176, 3) := by decide +kernel
theorem dL_law_1208 : decode cL_law 1208 = .ok (.aload_n 2, 1) := by decide +kernel
theorem dL_law_1209 : decode cL_law 1209 = .ok (.invokevirtual 179, 3) := by decide +kernel
theorem dL_law_1212 : decode cL_law 1212 = .ok (.if_icmp .eq 41, 3) := by decide +kernel
theorem dL_law_1215 : decode cL_law 1215 = .ok (.iconst 0, 1) := by decide +kernel
theorem dL_law_1216 : decode cL_law 1216 = .ok (.ireturn, 1) := by decide +kernel
theorem dL_law_1217 : decode cL_law 1217 = .ok (.aload_n 1, 1) := by decide +kernel
theorem dL_law_1218 : decode cL_law 1218 = .ok (.invokevirtual 180, 3) := by decide +kernel
theorem dL_law_1221 : decode cL_law 1221 = .ok (.aload_n 2, 1) := by decide +kernel
theorem dL_law_1222 : decode cL_law 1222 = .ok (.invokevirtual 183, 3) := by decide +kernel
theorem dL_law_1225 : decode cL_law 1225 = .ok (.if_icmp .eq 28, 3) := by decide +kernel
theorem dL_law_1228 : decode cL_law 1228 = .ok (.iconst 0, 1) := by decide +kernel
theorem dL_law_1229 : decode cL_law 1229 = .ok (.ireturn, 1) := by decide +kernel
theorem dL_law_1230 : decode cL_law 1230 = .ok (.aload_n 1, 1) := by decide +kernel
theorem dL_law_1231 : decode cL_law 1231 = .ok (.aload_n 0, 1) := by decide +kernel
theorem dL_law_1232 : decode cL_law 1232 = .ok (.iload_n 3, 1) := by decide +kernel
theorem dL_law_1233 : decode cL_law 1233 = .ok (.iconst 1, 1) := by decide +kernel
theorem dL_law_1234 : decode cL_law 1234 = .ok (.iadd, 1) := by decide +kernel
theorem dL_law_1235 : decode cL_law 1235 = .ok (.iaload, 1) := by decide +kernel
theorem dL_law_1236 : decode cL_law 1236 = .ok (.invokevirtual 184, 3) := by decide +kernel
theorem dL_law_1239 : decode cL_law 1239 = .ok (.aload_n 2, 1) := by decide +kernel
theorem dL_law_1240 : decode cL_law 1240 = .ok (.aload_n 0, 1) := by decide +kernel
theorem dL_law_1241 : decode cL_law 1241 = .ok (.iload_n 3, 1) := by decide +kernel
theorem dL_law_1242 : decode cL_law 1242 = .ok (.iconst 1, 1) := by decide +kernel
theorem dL_law_1243 : decode cL_law 1243 = .ok (.iadd, 1) := by decide +kernel
theorem dL_law_1244 : decode cL_law 1244 = .ok (.iaload, 1) := by decide +kernel
theorem dL_law_1245 : decode cL_law 1245 = .ok (.invokevirtual 187, 3) := by decide +kernel
theorem dL_law_1248 : decode cL_law 1248 = .ok (.if_icmp .eq 5, 3) := by decide +kernel
theorem dL_law_1251 : decode cL_law 1251 = .ok (.iconst 0, 1) := by decide +kernel
theorem dL_law_1252 : decode cL_law 1252 = .ok (.ireturn, 1) := by decide +kernel
theorem dL_law_1253 : decode cL_law 1253 = .ok (.iinc 3 5, 3) := by decide +kernel
theorem dL_law_1256 : decode cL_law 1256 = .ok (.goto (-1238), 3) := by decide +kernel
theorem dL_law_1259 : decode cL_law 1259 = .ok (.iconst 1, 1) := by decide +kernel
theorem dL_law_1260 : decode cL_law 1260 = .ok (.ireturn, 1) := by decide +kernel
theorem w_623 : Cond.methodLink RL 13 yX6_nodes ∈ lw_gd := gd (List.mem_of_getElem? (i := 193) (by decide +kernel)) rfl
theorem w_624 : Cond.code yX6_nodes cX6_nodes 3 (some .int) ∈ lw_gd := gd (List.mem_of_getElem? (i := 196) (by decide +kernel)) rfl
theorem w_625 : Cond.instanceMethod yX6_nodes ∈ lw_gd := gd (List.mem_of_getElem? (i := 194) (by decide +kernel)) rfl
theorem w_626 : Cond.selects RX6 yX6_nodes yX6_nodes ∈ lw_gd := gd (List.mem_of_getElem? (i := 195) (by decide +kernel)) rfl
theorem mvX6_nodes : MV yX6_nodes cX6_nodes 3 (some .int) RX6 1 := ⟨⟨w_625, w_626, w_20, w_624⟩, rfl, by decide, by decide, by decide +kernel⟩
theorem w_627 : Cond.methodLink RL 17 yX7_nodes ∈ lw_gd := gd (List.mem_of_getElem? (i := 890) (by decide +kernel)) rfl
theorem w_628 : Cond.code yX7_nodes cX7_nodes 3 (some .int) ∈ lw_gd := gd (List.mem_of_getElem? (i := 893) (by decide +kernel)) rfl
theorem w_629 : Cond.instanceMethod yX7_nodes ∈ lw_gd := gd (List.mem_of_getElem? (i := 891) (by decide +kernel)) rfl
theorem w_630 : Cond.selects RX7 yX7_nodes yX7_nodes ∈ lw_gd := gd (List.mem_of_getElem? (i := 892) (by decide +kernel)) rfl
theorem mvX7_nodes : MV yX7_nodes cX7_nodes 3 (some .int) RX7 1 := ⟨⟨w_629, w_630, w_467, w_628⟩, rfl, by decide, by decide, by decide +kernel⟩
theorem w_631 : Cond.methodLink RL 18 yX6_row ∈ lw_gd := gd (List.mem_of_getElem? (i := 210) (by decide +kernel)) rfl
theorem w_632 : Cond.code yX6_row cX6_row 3 (some .int) ∈ lw_gd := gd (List.mem_of_getElem? (i := 213) (by decide +kernel)) rfl
theorem w_633 : Cond.instanceMethod yX6_row ∈ lw_gd := gd (List.mem_of_getElem? (i := 211) (by decide +kernel)) rfl
theorem w_634 : Cond.selects RX6 yX6_row yX6_row ∈ lw_gd := gd (List.mem_of_getElem? (i := 212) (by decide +kernel)) rfl
theorem mvX6_row : MV yX6_row cX6_row 3 (some .int) RX6 1 := ⟨⟨w_633, w_634, w_20, w_632⟩, rfl, by decide, by decide, by decide +kernel⟩
theorem w_635 : Cond.methodLink RL 21 yX7_row ∈ lw_gd := gd (List.mem_of_getElem? (i := 898) (by decide +kernel)) rfl
theorem w_636 : Cond.code yX7_row cX7_row 2 (some .int) ∈ lw_gd := gd (List.mem_of_getElem? (i := 901) (by decide +kernel)) rfl
theorem w_637 : Cond.instanceMethod yX7_row ∈ lw_gd := gd (List.mem_of_getElem? (i := 899) (by decide +kernel)) rfl
theorem w_638 : Cond.selects RX7 yX7_row yX7_row ∈ lw_gd := gd (List.mem_of_getElem? (i := 900) (by decide +kernel)) rfl
theorem mvX7_row : MV yX7_row cX7_row 2 (some .int) RX7 1 := ⟨⟨w_637, w_638, w_467, w_636⟩, rfl, by decide, by decide, by decide +kernel⟩
theorem w_639 : Cond.methodLink RL 22 yX6_of ∈ lw_gd := gd (List.mem_of_getElem? (i := 251) (by decide +kernel)) rfl
theorem w_640 : Cond.code yX6_of cX6_of 3 (some .int) ∈ lw_gd := gd (List.mem_of_getElem? (i := 254) (by decide +kernel)) rfl
theorem w_641 : Cond.instanceMethod yX6_of ∈ lw_gd := gd (List.mem_of_getElem? (i := 252) (by decide +kernel)) rfl
theorem w_642 : Cond.selects RX6 yX6_of yX6_of ∈ lw_gd := gd (List.mem_of_getElem? (i := 253) (by decide +kernel)) rfl
theorem mvX6_of : MV yX6_of cX6_of 3 (some .int) RX6 2 := ⟨⟨w_641, w_642, w_20, w_640⟩, rfl, by decide, by decide, by decide +kernel⟩
theorem w_643 : Cond.methodLink RL 26 yX7_of ∈ lw_gd := gd (List.mem_of_getElem? (i := 927) (by decide +kernel)) rfl
theorem w_644 : Cond.code yX7_of cX7_of 3 (some .int) ∈ lw_gd := gd (List.mem_of_getElem? (i := 930) (by decide +kernel)) rfl
theorem w_645 : Cond.instanceMethod yX7_of ∈ lw_gd := gd (List.mem_of_getElem? (i := 928) (by decide +kernel)) rfl
theorem w_646 : Cond.selects RX7 yX7_of yX7_of ∈ lw_gd := gd (List.mem_of_getElem? (i := 929) (by decide +kernel)) rfl
theorem mvX7_of : MV yX7_of cX7_of 3 (some .int) RX7 2 := ⟨⟨w_645, w_646, w_467, w_644⟩, rfl, by decide, by decide, by decide +kernel⟩
theorem w_647 : Cond.methodLink RL 27 yX6_number ∈ lw_gd := gd (List.mem_of_getElem? (i := 293) (by decide +kernel)) rfl
theorem w_648 : Cond.code yX6_number cX6_number 3 (some .int) ∈ lw_gd := gd (List.mem_of_getElem? (i := 296) (by decide +kernel)) rfl
theorem w_649 : Cond.instanceMethod yX6_number ∈ lw_gd := gd (List.mem_of_getElem? (i := 294) (by decide +kernel)) rfl
theorem w_650 : Cond.selects RX6 yX6_number yX6_number ∈ lw_gd := gd (List.mem_of_getElem? (i := 295) (by decide +kernel)) rfl
theorem mvX6_number : MV yX6_number cX6_number 3 (some .int) RX6 1 := ⟨⟨w_649, w_650, w_20, w_648⟩, rfl, by decide, by decide, by decide +kernel⟩
theorem w_651 : Cond.methodLink RL 30 yX7_number ∈ lw_gd := gd (List.mem_of_getElem? (i := 944) (by decide +kernel)) rfl
theorem w_652 : Cond.code yX7_number cX7_number 3 (some .int) ∈ lw_gd := gd (List.mem_of_getElem? (i := 947) (by decide +kernel)) rfl
theorem w_653 : Cond.instanceMethod yX7_number ∈ lw_gd := gd (List.mem_of_getElem? (i := 945) (by decide +kernel)) rfl
theorem w_654 : Cond.selects RX7 yX7_number yX7_number ∈ lw_gd := gd (List.mem_of_getElem? (i := 946) (by decide +kernel)) rfl
theorem mvX7_number : MV yX7_number cX7_number 3 (some .int) RX7 1 := ⟨⟨w_653, w_654, w_467, w_652⟩, rfl, by decide, by decide, by decide +kernel⟩
theorem w_655 : Cond.methodLink RL 31 yX6_which ∈ lw_gd := gd (List.mem_of_getElem? (i := 301) (by decide +kernel)) rfl
theorem w_656 : Cond.code yX6_which cX6_which 1 (some .int) ∈ lw_gd := gd (List.mem_of_getElem? (i := 304) (by decide +kernel)) rfl
theorem w_657 : Cond.instanceMethod yX6_which ∈ lw_gd := gd (List.mem_of_getElem? (i := 302) (by decide +kernel)) rfl
theorem w_658 : Cond.selects RX6 yX6_which yX6_which ∈ lw_gd := gd (List.mem_of_getElem? (i := 303) (by decide +kernel)) rfl
theorem mvX6_which : MV yX6_which cX6_which 1 (some .int) RX6 0 := ⟨⟨w_657, w_658, w_20, w_656⟩, rfl, by decide, by decide, by decide +kernel⟩
theorem w_659 : Cond.methodLink RL 35 yX7_which ∈ lw_gd := gd (List.mem_of_getElem? (i := 948) (by decide +kernel)) rfl
theorem w_660 : Cond.methodLink RL 36 yX6_many ∈ lw_gd := gd (List.mem_of_getElem? (i := 305) (by decide +kernel)) rfl
theorem w_661 : Cond.code yX6_many cX6_many 2 (some .int) ∈ lw_gd := gd (List.mem_of_getElem? (i := 308) (by decide +kernel)) rfl
theorem w_662 : Cond.instanceMethod yX6_many ∈ lw_gd := gd (List.mem_of_getElem? (i := 306) (by decide +kernel)) rfl
theorem w_663 : Cond.selects RX6 yX6_many yX6_many ∈ lw_gd := gd (List.mem_of_getElem? (i := 307) (by decide +kernel)) rfl
theorem mvX6_many : MV yX6_many cX6_many 2 (some .int) RX6 1 := ⟨⟨w_662, w_663, w_20, w_661⟩, rfl, by decide, by decide, by decide +kernel⟩
theorem w_664 : Cond.methodLink RL 39 yX7_many ∈ lw_gd := gd (List.mem_of_getElem? (i := 949) (by decide +kernel)) rfl
theorem w_665 : Cond.code yX7_many cX7_many 2 (some .int) ∈ lw_gd := gd (List.mem_of_getElem? (i := 952) (by decide +kernel)) rfl
theorem w_666 : Cond.instanceMethod yX7_many ∈ lw_gd := gd (List.mem_of_getElem? (i := 950) (by decide +kernel)) rfl
theorem w_667 : Cond.selects RX7 yX7_many yX7_many ∈ lw_gd := gd (List.mem_of_getElem? (i := 951) (by decide +kernel)) rfl
theorem mvX7_many : MV yX7_many cX7_many 2 (some .int) RX7 1 := ⟨⟨w_666, w_667, w_467, w_665⟩, rfl, by decide, by decide, by decide +kernel⟩
theorem w_668 : Cond.methodLink RL 40 yX6_digits ∈ lw_gd := gd (List.mem_of_getElem? (i := 309) (by decide +kernel)) rfl
theorem w_669 : Cond.code yX6_digits cX6_digits 1 (some .int) ∈ lw_gd := gd (List.mem_of_getElem? (i := 312) (by decide +kernel)) rfl
theorem w_670 : Cond.instanceMethod yX6_digits ∈ lw_gd := gd (List.mem_of_getElem? (i := 310) (by decide +kernel)) rfl
theorem w_671 : Cond.selects RX6 yX6_digits yX6_digits ∈ lw_gd := gd (List.mem_of_getElem? (i := 311) (by decide +kernel)) rfl
theorem mvX6_digits : MV yX6_digits cX6_digits 1 (some .int) RX6 0 := ⟨⟨w_670, w_671, w_20, w_669⟩, rfl, by decide, by decide, by decide +kernel⟩
theorem w_672 : Cond.methodLink RL 43 yX7_digits ∈ lw_gd := gd (List.mem_of_getElem? (i := 953) (by decide +kernel)) rfl
theorem w_673 : Cond.code yX7_digits cX7_digits 1 (some .int) ∈ lw_gd := gd (List.mem_of_getElem? (i := 956) (by decide +kernel)) rfl
theorem w_674 : Cond.instanceMethod yX7_digits ∈ lw_gd := gd (List.mem_of_getElem? (i := 954) (by decide +kernel)) rfl
theorem w_675 : Cond.selects RX7 yX7_digits yX7_digits ∈ lw_gd := gd (List.mem_of_getElem? (i := 955) (by decide +kernel)) rfl
theorem mvX7_digits : MV yX7_digits cX7_digits 1 (some .int) RX7 0 := ⟨⟨w_674, w_675, w_467, w_673⟩, rfl, by decide, by decide, by decide +kernel⟩
theorem w_676 : Cond.methodLink RL 44 yX6_turn ∈ lw_gd := gd (List.mem_of_getElem? (i := 317) (by decide +kernel)) rfl
theorem w_677 : Cond.code yX6_turn cX6_turn 3 (some .int) ∈ lw_gd := gd (List.mem_of_getElem? (i := 320) (by decide +kernel)) rfl
theorem w_678 : Cond.instanceMethod yX6_turn ∈ lw_gd := gd (List.mem_of_getElem? (i := 318) (by decide +kernel)) rfl
theorem w_679 : Cond.selects RX6 yX6_turn yX6_turn ∈ lw_gd := gd (List.mem_of_getElem? (i := 319) (by decide +kernel)) rfl
theorem mvX6_turn : MV yX6_turn cX6_turn 3 (some .int) RX6 1 := ⟨⟨w_678, w_679, w_20, w_677⟩, rfl, by decide, by decide, by decide +kernel⟩
theorem w_680 : Cond.methodLink RL 47 yX7_turn ∈ lw_gd := gd (List.mem_of_getElem? (i := 957) (by decide +kernel)) rfl
theorem w_681 : Cond.code yX7_turn cX7_turn 3 (some .int) ∈ lw_gd := gd (List.mem_of_getElem? (i := 960) (by decide +kernel)) rfl
theorem w_682 : Cond.instanceMethod yX7_turn ∈ lw_gd := gd (List.mem_of_getElem? (i := 958) (by decide +kernel)) rfl
theorem w_683 : Cond.selects RX7 yX7_turn yX7_turn ∈ lw_gd := gd (List.mem_of_getElem? (i := 959) (by decide +kernel)) rfl
theorem mvX7_turn : MV yX7_turn cX7_turn 3 (some .int) RX7 1 := ⟨⟨w_682, w_683, w_467, w_681⟩, rfl, by decide, by decide, by decide +kernel⟩
theorem w_684 : Cond.methodLink RL 48 yX6_back ∈ lw_gd := gd (List.mem_of_getElem? (i := 332) (by decide +kernel)) rfl
theorem w_685 : Cond.code yX6_back cX6_back 3 (some .int) ∈ lw_gd := gd (List.mem_of_getElem? (i := 335) (by decide +kernel)) rfl
theorem w_686 : Cond.instanceMethod yX6_back ∈ lw_gd := gd (List.mem_of_getElem? (i := 333) (by decide +kernel)) rfl
theorem w_687 : Cond.selects RX6 yX6_back yX6_back ∈ lw_gd := gd (List.mem_of_getElem? (i := 334) (by decide +kernel)) rfl
theorem mvX6_back : MV yX6_back cX6_back 3 (some .int) RX6 1 := ⟨⟨w_686, w_687, w_20, w_685⟩, rfl, by decide, by decide, by decide +kernel⟩
theorem w_688 : Cond.methodLink RL 51 yX7_back ∈ lw_gd := gd (List.mem_of_getElem? (i := 968) (by decide +kernel)) rfl
theorem w_689 : Cond.code yX7_back cX7_back 3 (some .int) ∈ lw_gd := gd (List.mem_of_getElem? (i := 971) (by decide +kernel)) rfl
theorem w_690 : Cond.instanceMethod yX7_back ∈ lw_gd := gd (List.mem_of_getElem? (i := 969) (by decide +kernel)) rfl
theorem w_691 : Cond.selects RX7 yX7_back yX7_back ∈ lw_gd := gd (List.mem_of_getElem? (i := 970) (by decide +kernel)) rfl
theorem mvX7_back : MV yX7_back cX7_back 3 (some .int) RX7 1 := ⟨⟨w_690, w_691, w_467, w_689⟩, rfl, by decide, by decide, by decide +kernel⟩
theorem w_692 : Cond.methodLink RL 52 yX6_mayTurn ∈ lw_gd := gd (List.mem_of_getElem? (i := 340) (by decide +kernel)) rfl
theorem w_693 : Cond.code yX6_mayTurn cX6_mayTurn 2 (some .int) ∈ lw_gd := gd (List.mem_of_getElem? (i := 343) (by decide +kernel)) rfl
theorem w_694 : Cond.instanceMethod yX6_mayTurn ∈ lw_gd := gd (List.mem_of_getElem? (i := 341) (by decide +kernel)) rfl
theorem w_695 : Cond.selects RX6 yX6_mayTurn yX6_mayTurn ∈ lw_gd := gd (List.mem_of_getElem? (i := 342) (by decide +kernel)) rfl
theorem mvX6_mayTurn : MV yX6_mayTurn cX6_mayTurn 2 (some .int) RX6 1 := ⟨⟨w_694, w_695, w_20, w_693⟩, rfl, by decide, by decide, by decide +kernel⟩
theorem w_696 : Cond.methodLink RL 55 yX7_mayTurn ∈ lw_gd := gd (List.mem_of_getElem? (i := 976) (by decide +kernel)) rfl
theorem w_697 : Cond.code yX7_mayTurn cX7_mayTurn 4 (some .int) ∈ lw_gd := gd (List.mem_of_getElem? (i := 979) (by decide +kernel)) rfl
theorem w_698 : Cond.instanceMethod yX7_mayTurn ∈ lw_gd := gd (List.mem_of_getElem? (i := 977) (by decide +kernel)) rfl
theorem w_699 : Cond.selects RX7 yX7_mayTurn yX7_mayTurn ∈ lw_gd := gd (List.mem_of_getElem? (i := 978) (by decide +kernel)) rfl
theorem mvX7_mayTurn : MV yX7_mayTurn cX7_mayTurn 4 (some .int) RX7 1 := ⟨⟨w_698, w_699, w_467, w_697⟩, rfl, by decide, by decide, by decide +kernel⟩
theorem w_700 : Cond.methodLink RL 56 yX6_mirror ∈ lw_gd := gd (List.mem_of_getElem? (i := 358) (by decide +kernel)) rfl
theorem w_701 : Cond.code yX6_mirror cX6_mirror 1 (some .int) ∈ lw_gd := gd (List.mem_of_getElem? (i := 361) (by decide +kernel)) rfl
theorem w_702 : Cond.instanceMethod yX6_mirror ∈ lw_gd := gd (List.mem_of_getElem? (i := 359) (by decide +kernel)) rfl
theorem w_703 : Cond.selects RX6 yX6_mirror yX6_mirror ∈ lw_gd := gd (List.mem_of_getElem? (i := 360) (by decide +kernel)) rfl
theorem mvX6_mirror : MV yX6_mirror cX6_mirror 1 (some .int) RX6 0 := ⟨⟨w_702, w_703, w_20, w_701⟩, rfl, by decide, by decide, by decide +kernel⟩
theorem w_704 : Cond.methodLink RL 59 yX7_mirror ∈ lw_gd := gd (List.mem_of_getElem? (i := 982) (by decide +kernel)) rfl
theorem w_705 : Cond.code yX7_mirror cX7_mirror 1 (some .int) ∈ lw_gd := gd (List.mem_of_getElem? (i := 985) (by decide +kernel)) rfl
theorem w_706 : Cond.instanceMethod yX7_mirror ∈ lw_gd := gd (List.mem_of_getElem? (i := 983) (by decide +kernel)) rfl
theorem w_707 : Cond.selects RX7 yX7_mirror yX7_mirror ∈ lw_gd := gd (List.mem_of_getElem? (i := 984) (by decide +kernel)) rfl
theorem mvX7_mirror : MV yX7_mirror cX7_mirror 1 (some .int) RX7 0 := ⟨⟨w_706, w_707, w_467, w_705⟩, rfl, by decide, by decide, by decide +kernel⟩
theorem w_708 : Cond.methodLink RL 60 yX6_off ∈ lw_gd := gd (List.mem_of_getElem? (i := 366) (by decide +kernel)) rfl
theorem w_709 : Cond.code yX6_off cX6_off 2 (some .int) ∈ lw_gd := gd (List.mem_of_getElem? (i := 369) (by decide +kernel)) rfl
theorem w_710 : Cond.instanceMethod yX6_off ∈ lw_gd := gd (List.mem_of_getElem? (i := 367) (by decide +kernel)) rfl
theorem w_711 : Cond.selects RX6 yX6_off yX6_off ∈ lw_gd := gd (List.mem_of_getElem? (i := 368) (by decide +kernel)) rfl
theorem mvX6_off : MV yX6_off cX6_off 2 (some .int) RX6 0 := ⟨⟨w_710, w_711, w_20, w_709⟩, rfl, by decide, by decide, by decide +kernel⟩
theorem w_712 : Cond.methodLink RL 63 yX7_off ∈ lw_gd := gd (List.mem_of_getElem? (i := 990) (by decide +kernel)) rfl
theorem w_713 : Cond.code yX7_off cX7_off 1 (some .int) ∈ lw_gd := gd (List.mem_of_getElem? (i := 993) (by decide +kernel)) rfl
theorem w_714 : Cond.instanceMethod yX7_off ∈ lw_gd := gd (List.mem_of_getElem? (i := 991) (by decide +kernel)) rfl
theorem w_715 : Cond.selects RX7 yX7_off yX7_off ∈ lw_gd := gd (List.mem_of_getElem? (i := 992) (by decide +kernel)) rfl
theorem mvX7_off : MV yX7_off cX7_off 1 (some .int) RX7 0 := ⟨⟨w_714, w_715, w_467, w_713⟩, rfl, by decide, by decide, by decide +kernel⟩
theorem w_716 : Cond.methodLink RL 64 yX6_below ∈ lw_gd := gd (List.mem_of_getElem? (i := 378) (by decide +kernel)) rfl
theorem w_717 : Cond.code yX6_below cX6_below 6 (some .int) ∈ lw_gd := gd (List.mem_of_getElem? (i := 381) (by decide +kernel)) rfl
theorem w_718 : Cond.instanceMethod yX6_below ∈ lw_gd := gd (List.mem_of_getElem? (i := 379) (by decide +kernel)) rfl
theorem w_719 : Cond.selects RX6 yX6_below yX6_below ∈ lw_gd := gd (List.mem_of_getElem? (i := 380) (by decide +kernel)) rfl
theorem mvX6_below : MV yX6_below cX6_below 6 (some .int) RX6 2 := ⟨⟨w_718, w_719, w_20, w_717⟩, rfl, by decide, by decide, by decide +kernel⟩
theorem w_720 : Cond.methodLink RL 67 yX7_below ∈ lw_gd := gd (List.mem_of_getElem? (i := 994) (by decide +kernel)) rfl
theorem w_721 : Cond.code yX7_below cX7_below 5 (some .int) ∈ lw_gd := gd (List.mem_of_getElem? (i := 997) (by decide +kernel)) rfl
theorem w_722 : Cond.instanceMethod yX7_below ∈ lw_gd := gd (List.mem_of_getElem? (i := 995) (by decide +kernel)) rfl
theorem w_723 : Cond.selects RX7 yX7_below yX7_below ∈ lw_gd := gd (List.mem_of_getElem? (i := 996) (by decide +kernel)) rfl
theorem mvX7_below : MV yX7_below cX7_below 5 (some .int) RX7 2 := ⟨⟨w_722, w_723, w_467, w_721⟩, rfl, by decide, by decide, by decide +kernel⟩
theorem w_724 : Cond.methodLink RL 68 yX6_meet ∈ lw_gd := gd (List.mem_of_getElem? (i := 406) (by decide +kernel)) rfl
theorem w_725 : Cond.code yX6_meet cX6_meet 4 (some .int) ∈ lw_gd := gd (List.mem_of_getElem? (i := 409) (by decide +kernel)) rfl
theorem w_726 : Cond.instanceMethod yX6_meet ∈ lw_gd := gd (List.mem_of_getElem? (i := 407) (by decide +kernel)) rfl
theorem w_727 : Cond.selects RX6 yX6_meet yX6_meet ∈ lw_gd := gd (List.mem_of_getElem? (i := 408) (by decide +kernel)) rfl
theorem mvX6_meet : MV yX6_meet cX6_meet 4 (some .int) RX6 2 := ⟨⟨w_726, w_727, w_20, w_725⟩, rfl, by decide, by decide, by decide +kernel⟩
theorem w_728 : Cond.methodLink RL 71 yX7_meet ∈ lw_gd := gd (List.mem_of_getElem? (i := 1008) (by decide +kernel)) rfl
theorem w_729 : Cond.code yX7_meet cX7_meet 4 (some .int) ∈ lw_gd := gd (List.mem_of_getElem? (i := 1011) (by decide +kernel)) rfl
theorem w_730 : Cond.instanceMethod yX7_meet ∈ lw_gd := gd (List.mem_of_getElem? (i := 1009) (by decide +kernel)) rfl
theorem w_731 : Cond.selects RX7 yX7_meet yX7_meet ∈ lw_gd := gd (List.mem_of_getElem? (i := 1010) (by decide +kernel)) rfl
theorem mvX7_meet : MV yX7_meet cX7_meet 4 (some .int) RX7 2 := ⟨⟨w_730, w_731, w_467, w_729⟩, rfl, by decide, by decide, by decide +kernel⟩
theorem w_732 : Cond.methodLink RL 72 yX6_meetAll ∈ lw_gd := gd (List.mem_of_getElem? (i := 436) (by decide +kernel)) rfl
theorem w_733 : Cond.code yX6_meetAll cX6_meetAll 7 (some .int) ∈ lw_gd := gd (List.mem_of_getElem? (i := 439) (by decide +kernel)) rfl
theorem w_734 : Cond.instanceMethod yX6_meetAll ∈ lw_gd := gd (List.mem_of_getElem? (i := 437) (by decide +kernel)) rfl
theorem w_735 : Cond.selects RX6 yX6_meetAll yX6_meetAll ∈ lw_gd := gd (List.mem_of_getElem? (i := 438) (by decide +kernel)) rfl
theorem mvX6_meetAll : MV yX6_meetAll cX6_meetAll 7 (some .int) RX6 1 := ⟨⟨w_734, w_735, w_20, w_733⟩, rfl, by decide, by decide, by decide +kernel⟩
theorem w_736 : Cond.methodLink RL 75 yX7_meetAll ∈ lw_gd := gd (List.mem_of_getElem? (i := 1016) (by decide +kernel)) rfl
theorem w_737 : Cond.code yX7_meetAll cX7_meetAll 4 (some .int) ∈ lw_gd := gd (List.mem_of_getElem? (i := 1019) (by decide +kernel)) rfl
theorem w_738 : Cond.instanceMethod yX7_meetAll ∈ lw_gd := gd (List.mem_of_getElem? (i := 1017) (by decide +kernel)) rfl
theorem w_739 : Cond.selects RX7 yX7_meetAll yX7_meetAll ∈ lw_gd := gd (List.mem_of_getElem? (i := 1018) (by decide +kernel)) rfl
theorem mvX7_meetAll : MV yX7_meetAll cX7_meetAll 4 (some .int) RX7 1 := ⟨⟨w_738, w_739, w_467, w_737⟩, rfl, by decide, by decide, by decide +kernel⟩
theorem w_740 : Cond.methodLink RL 76 yX6_between ∈ lw_gd := gd (List.mem_of_getElem? (i := 440) (by decide +kernel)) rfl
theorem w_741 : Cond.code yX6_between cX6_between 5 (some .int) ∈ lw_gd := gd (List.mem_of_getElem? (i := 443) (by decide +kernel)) rfl
theorem w_742 : Cond.instanceMethod yX6_between ∈ lw_gd := gd (List.mem_of_getElem? (i := 441) (by decide +kernel)) rfl
theorem w_743 : Cond.selects RX6 yX6_between yX6_between ∈ lw_gd := gd (List.mem_of_getElem? (i := 442) (by decide +kernel)) rfl
theorem mvX6_between : MV yX6_between cX6_between 5 (some .int) RX6 2 := ⟨⟨w_742, w_743, w_20, w_741⟩, rfl, by decide, by decide, by decide +kernel⟩
theorem w_744 : Cond.methodLink RL 79 yX7_between ∈ lw_gd := gd (List.mem_of_getElem? (i := 1020) (by decide +kernel)) rfl
theorem w_745 : Cond.code yX7_between cX7_between 6 (some .int) ∈ lw_gd := gd (List.mem_of_getElem? (i := 1023) (by decide +kernel)) rfl
theorem w_746 : Cond.instanceMethod yX7_between ∈ lw_gd := gd (List.mem_of_getElem? (i := 1021) (by decide +kernel)) rfl
theorem w_747 : Cond.selects RX7 yX7_between yX7_between ∈ lw_gd := gd (List.mem_of_getElem? (i := 1022) (by decide +kernel)) rfl
theorem mvX7_between : MV yX7_between cX7_between 6 (some .int) RX7 2 := ⟨⟨w_746, w_747, w_467, w_745⟩, rfl, by decide, by decide, by decide +kernel⟩
theorem w_748 : Cond.methodLink RL 80 yX6_way ∈ lw_gd := gd (List.mem_of_getElem? (i := 455) (by decide +kernel)) rfl
theorem w_749 : Cond.code yX6_way cX6_way 6 (some .int) ∈ lw_gd := gd (List.mem_of_getElem? (i := 458) (by decide +kernel)) rfl
theorem w_750 : Cond.instanceMethod yX6_way ∈ lw_gd := gd (List.mem_of_getElem? (i := 456) (by decide +kernel)) rfl
theorem w_751 : Cond.selects RX6 yX6_way yX6_way ∈ lw_gd := gd (List.mem_of_getElem? (i := 457) (by decide +kernel)) rfl
theorem mvX6_way : MV yX6_way cX6_way 6 (some .int) RX6 2 := ⟨⟨w_750, w_751, w_20, w_749⟩, rfl, by decide, by decide, by decide +kernel⟩
theorem w_752 : Cond.methodLink RL 83 yX7_way ∈ lw_gd := gd (List.mem_of_getElem? (i := 1028) (by decide +kernel)) rfl
theorem w_753 : Cond.code yX7_way cX7_way 4 (some .int) ∈ lw_gd := gd (List.mem_of_getElem? (i := 1031) (by decide +kernel)) rfl
theorem w_754 : Cond.instanceMethod yX7_way ∈ lw_gd := gd (List.mem_of_getElem? (i := 1029) (by decide +kernel)) rfl
theorem w_755 : Cond.selects RX7 yX7_way yX7_way ∈ lw_gd := gd (List.mem_of_getElem? (i := 1030) (by decide +kernel)) rfl
theorem mvX7_way : MV yX7_way cX7_way 4 (some .int) RX7 2 := ⟨⟨w_754, w_755, w_467, w_753⟩, rfl, by decide, by decide, by decide +kernel⟩
theorem w_756 : Cond.methodLink RL 84 yX6_chain ∈ lw_gd := gd (List.mem_of_getElem? (i := 492) (by decide +kernel)) rfl
theorem w_757 : Cond.code yX6_chain cX6_chain 4 (some .int) ∈ lw_gd := gd (List.mem_of_getElem? (i := 495) (by decide +kernel)) rfl
theorem w_758 : Cond.instanceMethod yX6_chain ∈ lw_gd := gd (List.mem_of_getElem? (i := 493) (by decide +kernel)) rfl
theorem w_759 : Cond.selects RX6 yX6_chain yX6_chain ∈ lw_gd := gd (List.mem_of_getElem? (i := 494) (by decide +kernel)) rfl
theorem mvX6_chain : MV yX6_chain cX6_chain 4 (some .int) RX6 2 := ⟨⟨w_758, w_759, w_20, w_757⟩, rfl, by decide, by decide, by decide +kernel⟩
theorem w_760 : Cond.methodLink RL 87 yX7_chain ∈ lw_gd := gd (List.mem_of_getElem? (i := 1040) (by decide +kernel)) rfl
theorem w_761 : Cond.code yX7_chain cX7_chain 4 (some .int) ∈ lw_gd := gd (List.mem_of_getElem? (i := 1043) (by decide +kernel)) rfl
theorem w_762 : Cond.instanceMethod yX7_chain ∈ lw_gd := gd (List.mem_of_getElem? (i := 1041) (by decide +kernel)) rfl
theorem w_763 : Cond.selects RX7 yX7_chain yX7_chain ∈ lw_gd := gd (List.mem_of_getElem? (i := 1042) (by decide +kernel)) rfl
theorem mvX7_chain : MV yX7_chain cX7_chain 4 (some .int) RX7 2 := ⟨⟨w_762, w_763, w_467, w_761⟩, rfl, by decide, by decide, by decide +kernel⟩
theorem w_764 : Cond.methodLink RL 88 yX6_mark ∈ lw_gd := gd (List.mem_of_getElem? (i := 504) (by decide +kernel)) rfl
theorem w_765 : Cond.code yX6_mark cX6_mark 3 (some .int) ∈ lw_gd := gd (List.mem_of_getElem? (i := 507) (by decide +kernel)) rfl
theorem w_766 : Cond.instanceMethod yX6_mark ∈ lw_gd := gd (List.mem_of_getElem? (i := 505) (by decide +kernel)) rfl
theorem w_767 : Cond.selects RX6 yX6_mark yX6_mark ∈ lw_gd := gd (List.mem_of_getElem? (i := 506) (by decide +kernel)) rfl
theorem mvX6_mark : MV yX6_mark cX6_mark 3 (some .int) RX6 1 := ⟨⟨w_766, w_767, w_20, w_765⟩, rfl, by decide, by decide, by decide +kernel⟩
theorem w_768 : Cond.methodLink RL 91 yX7_mark ∈ lw_gd := gd (List.mem_of_getElem? (i := 1049) (by decide +kernel)) rfl
theorem w_769 : Cond.code yX7_mark cX7_mark 6 (some .int) ∈ lw_gd := gd (List.mem_of_getElem? (i := 1052) (by decide +kernel)) rfl
theorem w_770 : Cond.instanceMethod yX7_mark ∈ lw_gd := gd (List.mem_of_getElem? (i := 1050) (by decide +kernel)) rfl
theorem w_771 : Cond.selects RX7 yX7_mark yX7_mark ∈ lw_gd := gd (List.mem_of_getElem? (i := 1051) (by decide +kernel)) rfl
theorem mvX7_mark : MV yX7_mark cX7_mark 6 (some .int) RX7 1 := ⟨⟨w_770, w_771, w_467, w_769⟩, rfl, by decide, by decide, by decide +kernel⟩
theorem w_772 : Cond.methodLink RL 92 yX6_pairs ∈ lw_gd := gd (List.mem_of_getElem? (i := 516) (by decide +kernel)) rfl
theorem w_773 : Cond.code yX6_pairs cX6_pairs 2 (some .int) ∈ lw_gd := gd (List.mem_of_getElem? (i := 519) (by decide +kernel)) rfl
theorem w_774 : Cond.instanceMethod yX6_pairs ∈ lw_gd := gd (List.mem_of_getElem? (i := 517) (by decide +kernel)) rfl
theorem w_775 : Cond.selects RX6 yX6_pairs yX6_pairs ∈ lw_gd := gd (List.mem_of_getElem? (i := 518) (by decide +kernel)) rfl
theorem mvX6_pairs : MV yX6_pairs cX6_pairs 2 (some .int) RX6 1 := ⟨⟨w_774, w_775, w_20, w_773⟩, rfl, by decide, by decide, by decide +kernel⟩
theorem w_776 : Cond.methodLink RL 95 yX7_pairs ∈ lw_gd := gd (List.mem_of_getElem? (i := 1053) (by decide +kernel)) rfl
theorem w_777 : Cond.code yX7_pairs cX7_pairs 5 (some .int) ∈ lw_gd := gd (List.mem_of_getElem? (i := 1056) (by decide +kernel)) rfl
theorem w_778 : Cond.instanceMethod yX7_pairs ∈ lw_gd := gd (List.mem_of_getElem? (i := 1054) (by decide +kernel)) rfl
theorem w_779 : Cond.selects RX7 yX7_pairs yX7_pairs ∈ lw_gd := gd (List.mem_of_getElem? (i := 1055) (by decide +kernel)) rfl
theorem mvX7_pairs : MV yX7_pairs cX7_pairs 5 (some .int) RX7 1 := ⟨⟨w_778, w_779, w_467, w_777⟩, rfl, by decide, by decide, by decide +kernel⟩
theorem w_780 : Cond.methodLink RL 96 yX6_far ∈ lw_gd := gd (List.mem_of_getElem? (i := 526) (by decide +kernel)) rfl
theorem w_781 : Cond.code yX6_far cX6_far 2 (some .int) ∈ lw_gd := gd (List.mem_of_getElem? (i := 529) (by decide +kernel)) rfl
theorem w_782 : Cond.instanceMethod yX6_far ∈ lw_gd := gd (List.mem_of_getElem? (i := 527) (by decide +kernel)) rfl
theorem w_783 : Cond.selects RX6 yX6_far yX6_far ∈ lw_gd := gd (List.mem_of_getElem? (i := 528) (by decide +kernel)) rfl
theorem mvX6_far : MV yX6_far cX6_far 2 (some .int) RX6 1 := ⟨⟨w_782, w_783, w_20, w_781⟩, rfl, by decide, by decide, by decide +kernel⟩
theorem w_784 : Cond.methodLink RL 99 yX7_far ∈ lw_gd := gd (List.mem_of_getElem? (i := 1058) (by decide +kernel)) rfl
theorem w_785 : Cond.code yX7_far cX7_far 6 (some .int) ∈ lw_gd := gd (List.mem_of_getElem? (i := 1061) (by decide +kernel)) rfl
theorem w_786 : Cond.instanceMethod yX7_far ∈ lw_gd := gd (List.mem_of_getElem? (i := 1059) (by decide +kernel)) rfl
theorem w_787 : Cond.selects RX7 yX7_far yX7_far ∈ lw_gd := gd (List.mem_of_getElem? (i := 1060) (by decide +kernel)) rfl
theorem mvX7_far : MV yX7_far cX7_far 6 (some .int) RX7 1 := ⟨⟨w_786, w_787, w_467, w_785⟩, rfl, by decide, by decide, by decide +kernel⟩
theorem w_788 : Cond.methodLink RL 100 yX6_canopy ∈ lw_gd := gd (List.mem_of_getElem? (i := 544) (by decide +kernel)) rfl
theorem w_789 : Cond.code yX6_canopy cX6_canopy 1 (some .int) ∈ lw_gd := gd (List.mem_of_getElem? (i := 547) (by decide +kernel)) rfl
theorem w_790 : Cond.instanceMethod yX6_canopy ∈ lw_gd := gd (List.mem_of_getElem? (i := 545) (by decide +kernel)) rfl
theorem w_791 : Cond.selects RX6 yX6_canopy yX6_canopy ∈ lw_gd := gd (List.mem_of_getElem? (i := 546) (by decide +kernel)) rfl
theorem mvX6_canopy : MV yX6_canopy cX6_canopy 1 (some .int) RX6 0 := ⟨⟨w_790, w_791, w_20, w_789⟩, rfl, by decide, by decide, by decide +kernel⟩
theorem w_792 : Cond.methodLink RL 103 yX7_canopy ∈ lw_gd := gd (List.mem_of_getElem? (i := 1063) (by decide +kernel)) rfl
theorem w_793 : Cond.methodLink RL 104 yX6_inClass ∈ lw_gd := gd (List.mem_of_getElem? (i := 548) (by decide +kernel)) rfl
theorem w_794 : Cond.code yX6_inClass cX6_inClass 3 (some .int) ∈ lw_gd := gd (List.mem_of_getElem? (i := 551) (by decide +kernel)) rfl
theorem w_795 : Cond.instanceMethod yX6_inClass ∈ lw_gd := gd (List.mem_of_getElem? (i := 549) (by decide +kernel)) rfl
theorem w_796 : Cond.selects RX6 yX6_inClass yX6_inClass ∈ lw_gd := gd (List.mem_of_getElem? (i := 550) (by decide +kernel)) rfl
theorem mvX6_inClass : MV yX6_inClass cX6_inClass 3 (some .int) RX6 2 := ⟨⟨w_795, w_796, w_20, w_794⟩, rfl, by decide, by decide, by decide +kernel⟩
theorem w_797 : Cond.methodLink RL 107 yX7_inClass ∈ lw_gd := gd (List.mem_of_getElem? (i := 1070) (by decide +kernel)) rfl
theorem w_798 : Cond.code yX7_inClass cX7_inClass 7 (some .int) ∈ lw_gd := gd (List.mem_of_getElem? (i := 1073) (by decide +kernel)) rfl
theorem w_799 : Cond.instanceMethod yX7_inClass ∈ lw_gd := gd (List.mem_of_getElem? (i := 1071) (by decide +kernel)) rfl
theorem w_800 : Cond.selects RX7 yX7_inClass yX7_inClass ∈ lw_gd := gd (List.mem_of_getElem? (i := 1072) (by decide +kernel)) rfl
theorem mvX7_inClass : MV yX7_inClass cX7_inClass 7 (some .int) RX7 2 := ⟨⟨w_799, w_800, w_467, w_798⟩, rfl, by decide, by decide, by decide +kernel⟩
theorem w_801 : Cond.methodLink RL 108 yX6_likeness ∈ lw_gd := gd (List.mem_of_getElem? (i := 565) (by decide +kernel)) rfl
theorem w_802 : Cond.code yX6_likeness cX6_likeness 3 (some .int) ∈ lw_gd := gd (List.mem_of_getElem? (i := 568) (by decide +kernel)) rfl
theorem w_803 : Cond.instanceMethod yX6_likeness ∈ lw_gd := gd (List.mem_of_getElem? (i := 566) (by decide +kernel)) rfl
theorem w_804 : Cond.selects RX6 yX6_likeness yX6_likeness ∈ lw_gd := gd (List.mem_of_getElem? (i := 567) (by decide +kernel)) rfl
theorem mvX6_likeness : MV yX6_likeness cX6_likeness 3 (some .int) RX6 1 := ⟨⟨w_803, w_804, w_20, w_802⟩, rfl, by decide, by decide, by decide +kernel⟩
theorem w_805 : Cond.methodLink RL 111 yX7_likeness ∈ lw_gd := gd (List.mem_of_getElem? (i := 1074) (by decide +kernel)) rfl
theorem w_806 : Cond.code yX7_likeness cX7_likeness 3 (some .int) ∈ lw_gd := gd (List.mem_of_getElem? (i := 1077) (by decide +kernel)) rfl
theorem w_807 : Cond.instanceMethod yX7_likeness ∈ lw_gd := gd (List.mem_of_getElem? (i := 1075) (by decide +kernel)) rfl
theorem w_808 : Cond.selects RX7 yX7_likeness yX7_likeness ∈ lw_gd := gd (List.mem_of_getElem? (i := 1076) (by decide +kernel)) rfl
theorem mvX7_likeness : MV yX7_likeness cX7_likeness 3 (some .int) RX7 1 := ⟨⟨w_807, w_808, w_467, w_806⟩, rfl, by decide, by decide, by decide +kernel⟩
theorem w_809 : Cond.methodLink RL 112 yX6_keep ∈ lw_gd := gd (List.mem_of_getElem? (i := 569) (by decide +kernel)) rfl
theorem w_810 : Cond.code yX6_keep cX6_keep 2 (some .int) ∈ lw_gd := gd (List.mem_of_getElem? (i := 572) (by decide +kernel)) rfl
theorem w_811 : Cond.instanceMethod yX6_keep ∈ lw_gd := gd (List.mem_of_getElem? (i := 570) (by decide +kernel)) rfl
theorem w_812 : Cond.selects RX6 yX6_keep yX6_keep ∈ lw_gd := gd (List.mem_of_getElem? (i := 571) (by decide +kernel)) rfl
theorem mvX6_keep : MV yX6_keep cX6_keep 2 (some .int) RX6 1 := ⟨⟨w_811, w_812, w_20, w_810⟩, rfl, by decide, by decide, by decide +kernel⟩
theorem w_813 : Cond.methodLink RL 115 yX7_keep ∈ lw_gd := gd (List.mem_of_getElem? (i := 1079) (by decide +kernel)) rfl
theorem w_814 : Cond.code yX7_keep cX7_keep 2 (some .int) ∈ lw_gd := gd (List.mem_of_getElem? (i := 1082) (by decide +kernel)) rfl
theorem w_815 : Cond.instanceMethod yX7_keep ∈ lw_gd := gd (List.mem_of_getElem? (i := 1080) (by decide +kernel)) rfl
theorem w_816 : Cond.selects RX7 yX7_keep yX7_keep ∈ lw_gd := gd (List.mem_of_getElem? (i := 1081) (by decide +kernel)) rfl
theorem mvX7_keep : MV yX7_keep cX7_keep 2 (some .int) RX7 1 := ⟨⟨w_815, w_816, w_467, w_814⟩, rfl, by decide, by decide, by decide +kernel⟩
theorem w_817 : Cond.methodLink RL 116 yX6_lay ∈ lw_gd := gd (List.mem_of_getElem? (i := 573) (by decide +kernel)) rfl
theorem w_818 : Cond.code yX6_lay cX6_lay 3 (some .int) ∈ lw_gd := gd (List.mem_of_getElem? (i := 576) (by decide +kernel)) rfl
theorem w_819 : Cond.instanceMethod yX6_lay ∈ lw_gd := gd (List.mem_of_getElem? (i := 574) (by decide +kernel)) rfl
theorem w_820 : Cond.selects RX6 yX6_lay yX6_lay ∈ lw_gd := gd (List.mem_of_getElem? (i := 575) (by decide +kernel)) rfl
theorem mvX6_lay : MV yX6_lay cX6_lay 3 (some .int) RX6 1 := ⟨⟨w_819, w_820, w_20, w_818⟩, rfl, by decide, by decide, by decide +kernel⟩
theorem w_821 : Cond.methodLink RL 119 yX7_lay ∈ lw_gd := gd (List.mem_of_getElem? (i := 1083) (by decide +kernel)) rfl
theorem w_822 : Cond.code yX7_lay cX7_lay 2 (some .int) ∈ lw_gd := gd (List.mem_of_getElem? (i := 1086) (by decide +kernel)) rfl
theorem w_823 : Cond.instanceMethod yX7_lay ∈ lw_gd := gd (List.mem_of_getElem? (i := 1084) (by decide +kernel)) rfl
theorem w_824 : Cond.selects RX7 yX7_lay yX7_lay ∈ lw_gd := gd (List.mem_of_getElem? (i := 1085) (by decide +kernel)) rfl
theorem mvX7_lay : MV yX7_lay cX7_lay 2 (some .int) RX7 1 := ⟨⟨w_823, w_824, w_467, w_822⟩, rfl, by decide, by decide, by decide +kernel⟩
theorem w_825 : Cond.methodLink RL 120 yX6_lose ∈ lw_gd := gd (List.mem_of_getElem? (i := 577) (by decide +kernel)) rfl
theorem w_826 : Cond.code yX6_lose cX6_lose 4 (some .int) ∈ lw_gd := gd (List.mem_of_getElem? (i := 580) (by decide +kernel)) rfl
theorem w_827 : Cond.instanceMethod yX6_lose ∈ lw_gd := gd (List.mem_of_getElem? (i := 578) (by decide +kernel)) rfl
theorem w_828 : Cond.selects RX6 yX6_lose yX6_lose ∈ lw_gd := gd (List.mem_of_getElem? (i := 579) (by decide +kernel)) rfl
theorem mvX6_lose : MV yX6_lose cX6_lose 4 (some .int) RX6 1 := ⟨⟨w_827, w_828, w_20, w_826⟩, rfl, by decide, by decide, by decide +kernel⟩
theorem w_829 : Cond.methodLink RL 123 yX7_lose ∈ lw_gd := gd (List.mem_of_getElem? (i := 1087) (by decide +kernel)) rfl
theorem w_830 : Cond.code yX7_lose cX7_lose 3 (some .int) ∈ lw_gd := gd (List.mem_of_getElem? (i := 1090) (by decide +kernel)) rfl
theorem w_831 : Cond.instanceMethod yX7_lose ∈ lw_gd := gd (List.mem_of_getElem? (i := 1088) (by decide +kernel)) rfl
theorem w_832 : Cond.selects RX7 yX7_lose yX7_lose ∈ lw_gd := gd (List.mem_of_getElem? (i := 1089) (by decide +kernel)) rfl
theorem mvX7_lose : MV yX7_lose cX7_lose 3 (some .int) RX7 1 := ⟨⟨w_831, w_832, w_467, w_830⟩, rfl, by decide, by decide, by decide +kernel⟩
theorem w_833 : Cond.methodLink RL 124 yX6_over ∈ lw_gd := gd (List.mem_of_getElem? (i := 581) (by decide +kernel)) rfl
theorem w_834 : Cond.code yX6_over cX6_over 3 (some .int) ∈ lw_gd := gd (List.mem_of_getElem? (i := 584) (by decide +kernel)) rfl
theorem w_835 : Cond.instanceMethod yX6_over ∈ lw_gd := gd (List.mem_of_getElem? (i := 582) (by decide +kernel)) rfl
theorem w_836 : Cond.selects RX6 yX6_over yX6_over ∈ lw_gd := gd (List.mem_of_getElem? (i := 583) (by decide +kernel)) rfl
theorem mvX6_over : MV yX6_over cX6_over 3 (some .int) RX6 1 := ⟨⟨w_835, w_836, w_20, w_834⟩, rfl, by decide, by decide, by decide +kernel⟩
theorem w_837 : Cond.methodLink RL 127 yX7_over ∈ lw_gd := gd (List.mem_of_getElem? (i := 1091) (by decide +kernel)) rfl
theorem w_838 : Cond.code yX7_over cX7_over 2 (some .int) ∈ lw_gd := gd (List.mem_of_getElem? (i := 1094) (by decide +kernel)) rfl
theorem w_839 : Cond.instanceMethod yX7_over ∈ lw_gd := gd (List.mem_of_getElem? (i := 1092) (by decide +kernel)) rfl
theorem w_840 : Cond.selects RX7 yX7_over yX7_over ∈ lw_gd := gd (List.mem_of_getElem? (i := 1093) (by decide +kernel)) rfl
theorem mvX7_over : MV yX7_over cX7_over 2 (some .int) RX7 1 := ⟨⟨w_839, w_840, w_467, w_838⟩, rfl, by decide, by decide, by decide +kernel⟩
theorem w_841 : Cond.methodLink RL 128 yX6_under ∈ lw_gd := gd (List.mem_of_getElem? (i := 597) (by decide +kernel)) rfl
theorem w_842 : Cond.code yX6_under cX6_under 3 (some .int) ∈ lw_gd := gd (List.mem_of_getElem? (i := 600) (by decide +kernel)) rfl
theorem w_843 : Cond.instanceMethod yX6_under ∈ lw_gd := gd (List.mem_of_getElem? (i := 598) (by decide +kernel)) rfl
theorem w_844 : Cond.selects RX6 yX6_under yX6_under ∈ lw_gd := gd (List.mem_of_getElem? (i := 599) (by decide +kernel)) rfl
theorem mvX6_under : MV yX6_under cX6_under 3 (some .int) RX6 1 := ⟨⟨w_843, w_844, w_20, w_842⟩, rfl, by decide, by decide, by decide +kernel⟩
theorem w_845 : Cond.methodLink RL 131 yX7_under ∈ lw_gd := gd (List.mem_of_getElem? (i := 1095) (by decide +kernel)) rfl
theorem w_846 : Cond.code yX7_under cX7_under 5 (some .int) ∈ lw_gd := gd (List.mem_of_getElem? (i := 1098) (by decide +kernel)) rfl
theorem w_847 : Cond.instanceMethod yX7_under ∈ lw_gd := gd (List.mem_of_getElem? (i := 1096) (by decide +kernel)) rfl
theorem w_848 : Cond.selects RX7 yX7_under yX7_under ∈ lw_gd := gd (List.mem_of_getElem? (i := 1097) (by decide +kernel)) rfl
theorem mvX7_under : MV yX7_under cX7_under 5 (some .int) RX7 1 := ⟨⟨w_847, w_848, w_467, w_846⟩, rfl, by decide, by decide, by decide +kernel⟩
theorem w_849 : Cond.methodLink RL 132 yX6_shelf ∈ lw_gd := gd (List.mem_of_getElem? (i := 605) (by decide +kernel)) rfl
theorem w_850 : Cond.code yX6_shelf cX6_shelf 4 (some .int) ∈ lw_gd := gd (List.mem_of_getElem? (i := 608) (by decide +kernel)) rfl
theorem w_851 : Cond.instanceMethod yX6_shelf ∈ lw_gd := gd (List.mem_of_getElem? (i := 606) (by decide +kernel)) rfl
theorem w_852 : Cond.selects RX6 yX6_shelf yX6_shelf ∈ lw_gd := gd (List.mem_of_getElem? (i := 607) (by decide +kernel)) rfl
theorem mvX6_shelf : MV yX6_shelf cX6_shelf 4 (some .int) RX6 2 := ⟨⟨w_851, w_852, w_20, w_850⟩, rfl, by decide, by decide, by decide +kernel⟩
theorem w_853 : Cond.methodLink RL 135 yX7_shelf ∈ lw_gd := gd (List.mem_of_getElem? (i := 1099) (by decide +kernel)) rfl
theorem w_854 : Cond.code yX7_shelf cX7_shelf 3 (some .int) ∈ lw_gd := gd (List.mem_of_getElem? (i := 1102) (by decide +kernel)) rfl
theorem w_855 : Cond.instanceMethod yX7_shelf ∈ lw_gd := gd (List.mem_of_getElem? (i := 1100) (by decide +kernel)) rfl
theorem w_856 : Cond.selects RX7 yX7_shelf yX7_shelf ∈ lw_gd := gd (List.mem_of_getElem? (i := 1101) (by decide +kernel)) rfl
theorem mvX7_shelf : MV yX7_shelf cX7_shelf 3 (some .int) RX7 2 := ⟨⟨w_855, w_856, w_467, w_854⟩, rfl, by decide, by decide, by decide +kernel⟩
theorem w_857 : Cond.methodLink RL 136 yX6_list ∈ lw_gd := gd (List.mem_of_getElem? (i := 609) (by decide +kernel)) rfl
theorem w_858 : Cond.code yX6_list cX6_list 3 (some .int) ∈ lw_gd := gd (List.mem_of_getElem? (i := 612) (by decide +kernel)) rfl
theorem w_859 : Cond.instanceMethod yX6_list ∈ lw_gd := gd (List.mem_of_getElem? (i := 610) (by decide +kernel)) rfl
theorem w_860 : Cond.selects RX6 yX6_list yX6_list ∈ lw_gd := gd (List.mem_of_getElem? (i := 611) (by decide +kernel)) rfl
theorem mvX6_list : MV yX6_list cX6_list 3 (some .int) RX6 2 := ⟨⟨w_859, w_860, w_20, w_858⟩, rfl, by decide, by decide, by decide +kernel⟩
theorem w_861 : Cond.methodLink RL 139 yX7_list ∈ lw_gd := gd (List.mem_of_getElem? (i := 1103) (by decide +kernel)) rfl
theorem w_862 : Cond.code yX7_list cX7_list 3 (some .int) ∈ lw_gd := gd (List.mem_of_getElem? (i := 1106) (by decide +kernel)) rfl
theorem w_863 : Cond.instanceMethod yX7_list ∈ lw_gd := gd (List.mem_of_getElem? (i := 1104) (by decide +kernel)) rfl
theorem w_864 : Cond.selects RX7 yX7_list yX7_list ∈ lw_gd := gd (List.mem_of_getElem? (i := 1105) (by decide +kernel)) rfl
theorem mvX7_list : MV yX7_list cX7_list 3 (some .int) RX7 2 := ⟨⟨w_863, w_864, w_467, w_862⟩, rfl, by decide, by decide, by decide +kernel⟩
theorem w_865 : Cond.constantLong RL 140 (4294967295 : Int64) ∈ lw_gd := gd (List.mem_of_getElem? (i := 1174) (by decide +kernel)) rfl
theorem w_866 : Cond.methodLink RL 142 yX6_put ∈ lw_gd := gd (List.mem_of_getElem? (i := 624) (by decide +kernel)) rfl
theorem w_867 : Cond.code yX6_put cX6_put 5 (some .int) ∈ lw_gd := gd (List.mem_of_getElem? (i := 627) (by decide +kernel)) rfl
theorem w_868 : Cond.instanceMethod yX6_put ∈ lw_gd := gd (List.mem_of_getElem? (i := 625) (by decide +kernel)) rfl
theorem w_869 : Cond.selects RX6 yX6_put yX6_put ∈ lw_gd := gd (List.mem_of_getElem? (i := 626) (by decide +kernel)) rfl
theorem mvX6_put : MV yX6_put cX6_put 5 (some .int) RX6 3 := ⟨⟨w_868, w_869, w_20, w_867⟩, rfl, by decide, by decide, by decide +kernel⟩
theorem w_870 : Cond.methodLink RL 146 yX7_put ∈ lw_gd := gd (List.mem_of_getElem? (i := 1114) (by decide +kernel)) rfl
theorem w_871 : Cond.code yX7_put cX7_put 5 (some .int) ∈ lw_gd := gd (List.mem_of_getElem? (i := 1117) (by decide +kernel)) rfl
theorem w_872 : Cond.instanceMethod yX7_put ∈ lw_gd := gd (List.mem_of_getElem? (i := 1115) (by decide +kernel)) rfl
theorem w_873 : Cond.selects RX7 yX7_put yX7_put ∈ lw_gd := gd (List.mem_of_getElem? (i := 1116) (by decide +kernel)) rfl
theorem mvX7_put : MV yX7_put cX7_put 5 (some .int) RX7 3 := ⟨⟨w_872, w_873, w_467, w_871⟩, rfl, by decide, by decide, by decide +kernel⟩
theorem w_874 : Cond.methodLink RL 147 yX6_get ∈ lw_gd := gd (List.mem_of_getElem? (i := 645) (by decide +kernel)) rfl
theorem w_875 : Cond.code yX6_get cX6_get 3 (some .long) ∈ lw_gd := gd (List.mem_of_getElem? (i := 648) (by decide +kernel)) rfl
theorem w_876 : Cond.instanceMethod yX6_get ∈ lw_gd := gd (List.mem_of_getElem? (i := 646) (by decide +kernel)) rfl
theorem w_877 : Cond.selects RX6 yX6_get yX6_get ∈ lw_gd := gd (List.mem_of_getElem? (i := 647) (by decide +kernel)) rfl
theorem mvX6_get : MV yX6_get cX6_get 3 (some .long) RX6 2 := ⟨⟨w_876, w_877, w_20, w_875⟩, rfl, by decide, by decide, by decide +kernel⟩
theorem w_878 : Cond.methodLink RL 151 yX7_get ∈ lw_gd := gd (List.mem_of_getElem? (i := 1118) (by decide +kernel)) rfl
theorem w_879 : Cond.code yX7_get cX7_get 3 (some .long) ∈ lw_gd := gd (List.mem_of_getElem? (i := 1121) (by decide +kernel)) rfl
theorem w_880 : Cond.instanceMethod yX7_get ∈ lw_gd := gd (List.mem_of_getElem? (i := 1119) (by decide +kernel)) rfl
theorem w_881 : Cond.selects RX7 yX7_get yX7_get ∈ lw_gd := gd (List.mem_of_getElem? (i := 1120) (by decide +kernel)) rfl
theorem mvX7_get : MV yX7_get cX7_get 3 (some .long) RX7 2 := ⟨⟨w_880, w_881, w_467, w_879⟩, rfl, by decide, by decide, by decide +kernel⟩
theorem w_882 : Cond.methodLink RL 152 yX6_play ∈ lw_gd := gd (List.mem_of_getElem? (i := 655) (by decide +kernel)) rfl
theorem w_883 : Cond.code yX6_play cX6_play 5 (some .int) ∈ lw_gd := gd (List.mem_of_getElem? (i := 658) (by decide +kernel)) rfl
theorem w_884 : Cond.instanceMethod yX6_play ∈ lw_gd := gd (List.mem_of_getElem? (i := 656) (by decide +kernel)) rfl
theorem w_885 : Cond.selects RX6 yX6_play yX6_play ∈ lw_gd := gd (List.mem_of_getElem? (i := 657) (by decide +kernel)) rfl
theorem mvX6_play : MV yX6_play cX6_play 5 (some .int) RX6 1 := ⟨⟨w_884, w_885, w_20, w_883⟩, rfl, by decide, by decide, by decide +kernel⟩
theorem w_886 : Cond.methodLink RL 155 yX7_play ∈ lw_gd := gd (List.mem_of_getElem? (i := 1123) (by decide +kernel)) rfl
theorem w_887 : Cond.code yX7_play cX7_play 6 (some .int) ∈ lw_gd := gd (List.mem_of_getElem? (i := 1126) (by decide +kernel)) rfl
theorem w_888 : Cond.instanceMethod yX7_play ∈ lw_gd := gd (List.mem_of_getElem? (i := 1124) (by decide +kernel)) rfl
theorem w_889 : Cond.selects RX7 yX7_play yX7_play ∈ lw_gd := gd (List.mem_of_getElem? (i := 1125) (by decide +kernel)) rfl
theorem mvX7_play : MV yX7_play cX7_play 6 (some .int) RX7 1 := ⟨⟨w_888, w_889, w_467, w_887⟩, rfl, by decide, by decide, by decide +kernel⟩
theorem w_890 : Cond.methodLink RL 156 yX6_film ∈ lw_gd := gd (List.mem_of_getElem? (i := 667) (by decide +kernel)) rfl
theorem w_891 : Cond.code yX6_film cX6_film 8 (some .int) ∈ lw_gd := gd (List.mem_of_getElem? (i := 670) (by decide +kernel)) rfl
theorem w_892 : Cond.instanceMethod yX6_film ∈ lw_gd := gd (List.mem_of_getElem? (i := 668) (by decide +kernel)) rfl
theorem w_893 : Cond.selects RX6 yX6_film yX6_film ∈ lw_gd := gd (List.mem_of_getElem? (i := 669) (by decide +kernel)) rfl
theorem mvX6_film : MV yX6_film cX6_film 8 (some .int) RX6 2 := ⟨⟨w_892, w_893, w_20, w_891⟩, rfl, by decide, by decide, by decide +kernel⟩
theorem w_894 : Cond.methodLink RL 159 yX7_film ∈ lw_gd := gd (List.mem_of_getElem? (i := 1128) (by decide +kernel)) rfl
theorem w_895 : Cond.code yX7_film cX7_film 9 (some .int) ∈ lw_gd := gd (List.mem_of_getElem? (i := 1131) (by decide +kernel)) rfl
theorem w_896 : Cond.instanceMethod yX7_film ∈ lw_gd := gd (List.mem_of_getElem? (i := 1129) (by decide +kernel)) rfl
theorem w_897 : Cond.selects RX7 yX7_film yX7_film ∈ lw_gd := gd (List.mem_of_getElem? (i := 1130) (by decide +kernel)) rfl
theorem mvX7_film : MV yX7_film cX7_film 9 (some .int) RX7 2 := ⟨⟨w_896, w_897, w_467, w_895⟩, rfl, by decide, by decide, by decide +kernel⟩
theorem w_898 : Cond.methodLink RL 160 yX6_feed ∈ lw_gd := gd (List.mem_of_getElem? (i := 671) (by decide +kernel)) rfl
theorem w_899 : Cond.code yX6_feed cX6_feed 2 (some .int) ∈ lw_gd := gd (List.mem_of_getElem? (i := 674) (by decide +kernel)) rfl
theorem w_900 : Cond.instanceMethod yX6_feed ∈ lw_gd := gd (List.mem_of_getElem? (i := 672) (by decide +kernel)) rfl
theorem w_901 : Cond.selects RX6 yX6_feed yX6_feed ∈ lw_gd := gd (List.mem_of_getElem? (i := 673) (by decide +kernel)) rfl
theorem mvX6_feed : MV yX6_feed cX6_feed 2 (some .int) RX6 1 := ⟨⟨w_900, w_901, w_20, w_899⟩, rfl, by decide, by decide, by decide +kernel⟩
theorem w_902 : Cond.methodLink RL 163 yX7_feed ∈ lw_gd := gd (List.mem_of_getElem? (i := 1132) (by decide +kernel)) rfl
theorem w_903 : Cond.code yX7_feed cX7_feed 2 (some .int) ∈ lw_gd := gd (List.mem_of_getElem? (i := 1135) (by decide +kernel)) rfl
theorem w_904 : Cond.instanceMethod yX7_feed ∈ lw_gd := gd (List.mem_of_getElem? (i := 1133) (by decide +kernel)) rfl
theorem w_905 : Cond.selects RX7 yX7_feed yX7_feed ∈ lw_gd := gd (List.mem_of_getElem? (i := 1134) (by decide +kernel)) rfl
theorem mvX7_feed : MV yX7_feed cX7_feed 2 (some .int) RX7 1 := ⟨⟨w_904, w_905, w_467, w_903⟩, rfl, by decide, by decide, by decide +kernel⟩
theorem w_906 : Cond.methodLink RL 164 yX6_wipe ∈ lw_gd := gd (List.mem_of_getElem? (i := 683) (by decide +kernel)) rfl
theorem w_907 : Cond.code yX6_wipe cX6_wipe 2 (some .int) ∈ lw_gd := gd (List.mem_of_getElem? (i := 686) (by decide +kernel)) rfl
theorem w_908 : Cond.instanceMethod yX6_wipe ∈ lw_gd := gd (List.mem_of_getElem? (i := 684) (by decide +kernel)) rfl
theorem w_909 : Cond.selects RX6 yX6_wipe yX6_wipe ∈ lw_gd := gd (List.mem_of_getElem? (i := 685) (by decide +kernel)) rfl
theorem mvX6_wipe : MV yX6_wipe cX6_wipe 2 (some .int) RX6 0 := ⟨⟨w_908, w_909, w_20, w_907⟩, rfl, by decide, by decide, by decide +kernel⟩
theorem w_910 : Cond.methodLink RL 167 yX7_wipe ∈ lw_gd := gd (List.mem_of_getElem? (i := 1138) (by decide +kernel)) rfl
theorem w_911 : Cond.code yX7_wipe cX7_wipe 2 (some .int) ∈ lw_gd := gd (List.mem_of_getElem? (i := 1141) (by decide +kernel)) rfl
theorem w_912 : Cond.instanceMethod yX7_wipe ∈ lw_gd := gd (List.mem_of_getElem? (i := 1139) (by decide +kernel)) rfl
theorem w_913 : Cond.selects RX7 yX7_wipe yX7_wipe ∈ lw_gd := gd (List.mem_of_getElem? (i := 1140) (by decide +kernel)) rfl
theorem mvX7_wipe : MV yX7_wipe cX7_wipe 2 (some .int) RX7 0 := ⟨⟨w_912, w_913, w_467, w_911⟩, rfl, by decide, by decide, by decide +kernel⟩
theorem w_914 : Cond.methodLink RL 168 yX6_read ∈ lw_gd := gd (List.mem_of_getElem? (i := 691) (by decide +kernel)) rfl
theorem w_915 : Cond.code yX6_read cX6_read 2 (some .int) ∈ lw_gd := gd (List.mem_of_getElem? (i := 694) (by decide +kernel)) rfl
theorem w_916 : Cond.instanceMethod yX6_read ∈ lw_gd := gd (List.mem_of_getElem? (i := 692) (by decide +kernel)) rfl
theorem w_917 : Cond.selects RX6 yX6_read yX6_read ∈ lw_gd := gd (List.mem_of_getElem? (i := 693) (by decide +kernel)) rfl
theorem mvX6_read : MV yX6_read cX6_read 2 (some .int) RX6 0 := ⟨⟨w_916, w_917, w_20, w_915⟩, rfl, by decide, by decide, by decide +kernel⟩
theorem w_918 : Cond.methodLink RL 171 yX7_read ∈ lw_gd := gd (List.mem_of_getElem? (i := 1142) (by decide +kernel)) rfl
theorem w_919 : Cond.code yX7_read cX7_read 4 (some .int) ∈ lw_gd := gd (List.mem_of_getElem? (i := 1145) (by decide +kernel)) rfl
theorem w_920 : Cond.instanceMethod yX7_read ∈ lw_gd := gd (List.mem_of_getElem? (i := 1143) (by decide +kernel)) rfl
theorem w_921 : Cond.selects RX7 yX7_read yX7_read ∈ lw_gd := gd (List.mem_of_getElem? (i := 1144) (by decide +kernel)) rfl
theorem mvX7_read : MV yX7_read cX7_read 4 (some .int) RX7 0 := ⟨⟨w_920, w_921, w_467, w_919⟩, rfl, by decide, by decide, by decide +kernel⟩
theorem w_922 : Cond.methodLink RL 172 yX6_written ∈ lw_gd := gd (List.mem_of_getElem? (i := 737) (by decide +kernel)) rfl
theorem w_923 : Cond.code yX6_written cX6_written 2 (some .int) ∈ lw_gd := gd (List.mem_of_getElem? (i := 740) (by decide +kernel)) rfl
theorem w_924 : Cond.instanceMethod yX6_written ∈ lw_gd := gd (List.mem_of_getElem? (i := 738) (by decide +kernel)) rfl
theorem w_925 : Cond.selects RX6 yX6_written yX6_written ∈ lw_gd := gd (List.mem_of_getElem? (i := 739) (by decide +kernel)) rfl
theorem mvX6_written : MV yX6_written cX6_written 2 (some .int) RX6 1 := ⟨⟨w_924, w_925, w_20, w_923⟩, rfl, by decide, by decide, by decide +kernel⟩
theorem w_926 : Cond.methodLink RL 175 yX7_written ∈ lw_gd := gd (List.mem_of_getElem? (i := 1154) (by decide +kernel)) rfl
theorem w_927 : Cond.code yX7_written cX7_written 2 (some .int) ∈ lw_gd := gd (List.mem_of_getElem? (i := 1157) (by decide +kernel)) rfl
theorem w_928 : Cond.instanceMethod yX7_written ∈ lw_gd := gd (List.mem_of_getElem? (i := 1155) (by decide +kernel)) rfl
theorem w_929 : Cond.selects RX7 yX7_written yX7_written ∈ lw_gd := gd (List.mem_of_getElem? (i := 1156) (by decide +kernel)) rfl
theorem mvX7_written : MV yX7_written cX7_written 2 (some .int) RX7 1 := ⟨⟨w_928, w_929, w_467, w_927⟩, rfl, by decide, by decide, by decide +kernel⟩
theorem w_930 : Cond.methodLink RL 176 yX6_image ∈ lw_gd := gd (List.mem_of_getElem? (i := 757) (by decide +kernel)) rfl
theorem w_931 : Cond.code yX6_image cX6_image 1 (some .int) ∈ lw_gd := gd (List.mem_of_getElem? (i := 760) (by decide +kernel)) rfl
theorem w_932 : Cond.instanceMethod yX6_image ∈ lw_gd := gd (List.mem_of_getElem? (i := 758) (by decide +kernel)) rfl
theorem w_933 : Cond.selects RX6 yX6_image yX6_image ∈ lw_gd := gd (List.mem_of_getElem? (i := 759) (by decide +kernel)) rfl
theorem mvX6_image : MV yX6_image cX6_image 1 (some .int) RX6 0 := ⟨⟨w_932, w_933, w_20, w_931⟩, rfl, by decide, by decide, by decide +kernel⟩
theorem w_934 : Cond.methodLink RL 179 yX7_image ∈ lw_gd := gd (List.mem_of_getElem? (i := 1162) (by decide +kernel)) rfl
theorem w_935 : Cond.code yX7_image cX7_image 2 (some .int) ∈ lw_gd := gd (List.mem_of_getElem? (i := 1165) (by decide +kernel)) rfl
theorem w_936 : Cond.instanceMethod yX7_image ∈ lw_gd := gd (List.mem_of_getElem? (i := 1163) (by decide +kernel)) rfl
theorem w_937 : Cond.selects RX7 yX7_image yX7_image ∈ lw_gd := gd (List.mem_of_getElem? (i := 1164) (by decide +kernel)) rfl
theorem mvX7_image : MV yX7_image cX7_image 2 (some .int) RX7 0 := ⟨⟨w_936, w_937, w_467, w_935⟩, rfl, by decide, by decide, by decide +kernel⟩
theorem w_938 : Cond.methodLink RL 180 yX6_undo ∈ lw_gd := gd (List.mem_of_getElem? (i := 762) (by decide +kernel)) rfl
theorem w_939 : Cond.code yX6_undo cX6_undo 1 (some .int) ∈ lw_gd := gd (List.mem_of_getElem? (i := 765) (by decide +kernel)) rfl
theorem w_940 : Cond.instanceMethod yX6_undo ∈ lw_gd := gd (List.mem_of_getElem? (i := 763) (by decide +kernel)) rfl
theorem w_941 : Cond.selects RX6 yX6_undo yX6_undo ∈ lw_gd := gd (List.mem_of_getElem? (i := 764) (by decide +kernel)) rfl
theorem mvX6_undo : MV yX6_undo cX6_undo 1 (some .int) RX6 0 := ⟨⟨w_940, w_941, w_20, w_939⟩, rfl, by decide, by decide, by decide +kernel⟩
theorem w_942 : Cond.methodLink RL 183 yX7_undo ∈ lw_gd := gd (List.mem_of_getElem? (i := 1166) (by decide +kernel)) rfl
theorem w_943 : Cond.code yX7_undo cX7_undo 2 (some .int) ∈ lw_gd := gd (List.mem_of_getElem? (i := 1169) (by decide +kernel)) rfl
theorem w_944 : Cond.instanceMethod yX7_undo ∈ lw_gd := gd (List.mem_of_getElem? (i := 1167) (by decide +kernel)) rfl
theorem w_945 : Cond.selects RX7 yX7_undo yX7_undo ∈ lw_gd := gd (List.mem_of_getElem? (i := 1168) (by decide +kernel)) rfl
theorem mvX7_undo : MV yX7_undo cX7_undo 2 (some .int) RX7 0 := ⟨⟨w_944, w_945, w_467, w_943⟩, rfl, by decide, by decide, by decide +kernel⟩
theorem w_946 : Cond.methodLink RL 184 yX6_count ∈ lw_gd := gd (List.mem_of_getElem? (i := 766) (by decide +kernel)) rfl
theorem w_947 : Cond.code yX6_count cX6_count 2 (some .int) ∈ lw_gd := gd (List.mem_of_getElem? (i := 769) (by decide +kernel)) rfl
theorem w_948 : Cond.instanceMethod yX6_count ∈ lw_gd := gd (List.mem_of_getElem? (i := 767) (by decide +kernel)) rfl
theorem w_949 : Cond.selects RX6 yX6_count yX6_count ∈ lw_gd := gd (List.mem_of_getElem? (i := 768) (by decide +kernel)) rfl
theorem mvX6_count : MV yX6_count cX6_count 2 (some .int) RX6 1 := ⟨⟨w_948, w_949, w_20, w_947⟩, rfl, by decide, by decide, by decide +kernel⟩
theorem w_950 : Cond.methodLink RL 187 yX7_count ∈ lw_gd := gd (List.mem_of_getElem? (i := 1170) (by decide +kernel)) rfl
theorem w_951 : Cond.code yX7_count cX7_count 4 (some .int) ∈ lw_gd := gd (List.mem_of_getElem? (i := 1173) (by decide +kernel)) rfl
theorem w_952 : Cond.instanceMethod yX7_count ∈ lw_gd := gd (List.mem_of_getElem? (i := 1171) (by decide +kernel)) rfl
theorem w_953 : Cond.selects RX7 yX7_count yX7_count ∈ lw_gd := gd (List.mem_of_getElem? (i := 1172) (by decide +kernel)) rfl
theorem mvX7_count : MV yX7_count cX7_count 4 (some .int) RX7 1 := ⟨⟨w_952, w_953, w_467, w_951⟩, rfl, by decide, by decide, by decide +kernel⟩
