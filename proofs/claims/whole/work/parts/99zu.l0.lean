/-! L0: the law: decode rows -/
theorem dL_law_0 : decode code 0 = .ok (.new 8, 3) := by decide +kernel
theorem dL_law_3 : decode code 3 = .ok (.dup, 1) := by decide +kernel
theorem dL_law_4 : decode code 4 = .ok (.invokespecial 88, 3) := by decide +kernel
theorem dL_law_7 : decode code 7 = .ok (.astore_n 1, 1) := by decide +kernel
theorem dL_law_8 : decode code 8 = .ok (.new 89, 3) := by decide +kernel
theorem dL_law_11 : decode code 11 = .ok (.dup, 1) := by decide +kernel
theorem dL_law_12 : decode code 12 = .ok (.invokespecial 91, 3) := by decide +kernel
theorem dL_law_15 : decode code 15 = .ok (.astore_n 2, 1) := by decide +kernel
theorem dL_law_16 : decode code 16 = .ok (.iconst 1, 1) := by decide +kernel
theorem dL_law_17 : decode code 17 = .ok (.newarray .long, 2) := by decide +kernel
theorem dL_law_19 : decode code 19 = .ok (.astore_n 3, 1) := by decide +kernel
theorem dL_law_20 : decode code 20 = .ok (.iconst 0, 1) := by decide +kernel
theorem dL_law_21 : decode code 21 = .ok (.istore 4, 2) := by decide +kernel
theorem dL_law_23 : decode code 23 = .ok (.iload 4, 2) := by decide +kernel
theorem dL_law_25 : decode code 25 = .ok (.aload_n 0, 1) := by decide +kernel
theorem dL_law_26 : decode code 26 = .ok (.arraylength, 1) := by decide +kernel
theorem dL_law_27 : decode code 27 = .ok (.bipush 6, 2) := by decide +kernel
theorem dL_law_29 : decode code 29 = .ok (.isub, 1) := by decide +kernel
theorem dL_law_30 : decode code 30 = .ok (.if_icmp .gt 1964, 3) := by decide +kernel
theorem dL_law_33 : decode code 33 = .ok (.aload_n 0, 1) := by decide +kernel
theorem dL_law_34 : decode code 34 = .ok (.iload 4, 2) := by decide +kernel
theorem dL_law_36 : decode code 36 = .ok (.iaload, 1) := by decide +kernel
theorem dL_law_37 : decode code 37 = .ok (.bipush 63, 2) := by decide +kernel
theorem dL_law_39 : decode code 39 = .ok (.iand, 1) := by decide +kernel
theorem dL_law_40 : decode code 40 = .ok (.tableswitch 1948 0 34 #[156, 229, 254, 267, 311, 324, 392, 417, 442, 510, 578, 646, 733, 801, 881, 949, 1005, 1073, 1153, 1221, 1289, 1314, 1355, 1396, 1452, 1508, 1564, 1608, 1633, 1689, 1745, 1801, 1857, 1882, 1923], 156) := by decide +kernel
theorem dL_law_196 : decode code 196 = .ok (.aload_n 1, 1) := by decide +kernel
theorem dL_law_197 : decode code 197 = .ok (.aload_n 0, 1) := by decide +kernel
theorem dL_law_198 : decode code 198 = .ok (.iload 4, 2) := by decide +kernel
theorem dL_law_200 : decode code 200 = .ok (.iconst 1, 1) := by decide +kernel
theorem dL_law_201 : decode code 201 = .ok (.iadd, 1) := by decide +kernel
theorem dL_law_202 : decode code 202 = .ok (.iaload, 1) := by decide +kernel
theorem dL_law_203 : decode code 203 = .ok (.aload_n 0, 1) := by decide +kernel
theorem dL_law_204 : decode code 204 = .ok (.iload 4, 2) := by decide +kernel
theorem dL_law_206 : decode code 206 = .ok (.iconst 2, 1) := by decide +kernel
theorem dL_law_207 : decode code 207 = .ok (.iadd, 1) := by decide +kernel
theorem dL_law_208 : decode code 208 = .ok (.iaload, 1) := by decide +kernel
theorem dL_law_209 : decode code 209 = .ok (.aload_n 0, 1) := by decide +kernel
theorem dL_law_210 : decode code 210 = .ok (.iload 4, 2) := by decide +kernel
theorem dL_law_212 : decode code 212 = .ok (.iconst 3, 1) := by decide +kernel
theorem dL_law_213 : decode code 213 = .ok (.iadd, 1) := by decide +kernel
theorem dL_law_214 : decode code 214 = .ok (.iaload, 1) := by decide +kernel
theorem dL_law_215 : decode code 215 = .ok (.aload_n 0, 1) := by decide +kernel
theorem dL_law_216 : decode code 216 = .ok (.iload 4, 2) := by decide +kernel
theorem dL_law_218 : decode code 218 = .ok (.iconst 4, 1) := by decide +kernel
theorem dL_law_219 : decode code 219 = .ok (.iadd, 1) := by decide +kernel
theorem dL_law_220 : decode code 220 = .ok (.iaload, 1) := by decide +kernel
theorem dL_law_221 : decode code 221 = .ok (.aload_n 0, 1) := by decide +kernel
theorem dL_law_222 : decode code 222 = .ok (.iload 4, 2) := by decide +kernel
theorem dL_law_224 : decode code 224 = .ok (.iconst 5, 1) := by decide +kernel
theorem dL_law_225 : decode code 225 = .ok (.iadd, 1) := by decide +kernel
theorem dL_law_226 : decode code 226 = .ok (.iaload, 1) := by decide +kernel
theorem dL_law_227 : decode code 227 = .ok (.invokevirtual 92, 3) := by decide +kernel
theorem dL_law_230 : decode code 230 = .ok (.aload_n 2, 1) := by decide +kernel
theorem dL_law_231 : decode code 231 = .ok (.aload_n 0, 1) := by decide +kernel
theorem dL_law_232 : decode code 232 = .ok (.iload 4, 2) := by decide +kernel
theorem dL_law_234 : decode code 234 = .ok (.iconst 1, 1) := by decide +kernel
theorem dL_law_235 : decode code 235 = .ok (.iadd, 1) := by decide +kernel
theorem dL_law_236 : decode code 236 = .ok (.iaload, 1) := by decide +kernel
theorem dL_law_237 : decode code 237 = .ok (.aload_n 0, 1) := by decide +kernel
theorem dL_law_238 : decode code 238 = .ok (.iload 4, 2) := by decide +kernel
theorem dL_law_240 : decode code 240 = .ok (.iconst 2, 1) := by decide +kernel
theorem dL_law_241 : decode code 241 = .ok (.iadd, 1) := by decide +kernel
theorem dL_law_242 : decode code 242 = .ok (.iaload, 1) := by decide +kernel
theorem dL_law_243 : decode code 243 = .ok (.aload_n 0, 1) := by decide +kernel
theorem dL_law_244 : decode code 244 = .ok (.iload 4, 2) := by decide +kernel
theorem dL_law_246 : decode code 246 = .ok (.iconst 3, 1) := by decide +kernel
theorem dL_law_247 : decode code 247 = .ok (.iadd, 1) := by decide +kernel
theorem dL_law_248 : decode code 248 = .ok (.iaload, 1) := by decide +kernel
theorem dL_law_249 : decode code 249 = .ok (.aload_n 0, 1) := by decide +kernel
theorem dL_law_250 : decode code 250 = .ok (.iload 4, 2) := by decide +kernel
theorem dL_law_252 : decode code 252 = .ok (.iconst 4, 1) := by decide +kernel
theorem dL_law_253 : decode code 253 = .ok (.iadd, 1) := by decide +kernel
theorem dL_law_254 : decode code 254 = .ok (.iaload, 1) := by decide +kernel
theorem dL_law_255 : decode code 255 = .ok (.aload_n 0, 1) := by decide +kernel
theorem dL_law_256 : decode code 256 = .ok (.iload 4, 2) := by decide +kernel
theorem dL_law_258 : decode code 258 = .ok (.iconst 5, 1) := by decide +kernel
theorem dL_law_259 : decode code 259 = .ok (.iadd, 1) := by decide +kernel
theorem dL_law_260 : decode code 260 = .ok (.iaload, 1) := by decide +kernel
theorem dL_law_261 : decode code 261 = .ok (.invokevirtual 96, 3) := by decide +kernel
theorem dL_law_264 : decode code 264 = .ok (.if_icmp .eq 1724, 3) := by decide +kernel
theorem dL_law_267 : decode code 267 = .ok (.iconst 0, 1) := by decide +kernel
theorem dL_law_268 : decode code 268 = .ok (.ireturn, 1) := by decide +kernel
theorem dL_law_269 : decode code 269 = .ok (.aload_n 1, 1) := by decide +kernel
theorem dL_law_270 : decode code 270 = .ok (.aload_n 0, 1) := by decide +kernel
theorem dL_law_271 : decode code 271 = .ok (.iload 4, 2) := by decide +kernel
theorem dL_law_273 : decode code 273 = .ok (.iconst 1, 1) := by decide +kernel
theorem dL_law_274 : decode code 274 = .ok (.iadd, 1) := by decide +kernel
theorem dL_law_275 : decode code 275 = .ok (.iaload, 1) := by decide +kernel
theorem dL_law_276 : decode code 276 = .ok (.invokevirtual 97, 3) := by decide +kernel
theorem dL_law_279 : decode code 279 = .ok (.aload_n 2, 1) := by decide +kernel
theorem dL_law_280 : decode code 280 = .ok (.aload_n 0, 1) := by decide +kernel
theorem dL_law_281 : decode code 281 = .ok (.iload 4, 2) := by decide +kernel
theorem dL_law_283 : decode code 283 = .ok (.iconst 1, 1) := by decide +kernel
theorem dL_law_284 : decode code 284 = .ok (.iadd, 1) := by decide +kernel
theorem dL_law_285 : decode code 285 = .ok (.iaload, 1) := by decide +kernel
theorem dL_law_286 : decode code 286 = .ok (.invokevirtual 101, 3) := by decide +kernel
theorem dL_law_289 : decode code 289 = .ok (.if_icmp .eq 1699, 3) := by decide +kernel
theorem dL_law_292 : decode code 292 = .ok (.iconst 0, 1) := by decide +kernel
theorem dL_law_293 : decode code 293 = .ok (.ireturn, 1) := by decide +kernel
theorem dL_law_294 : decode code 294 = .ok (.aload_n 1, 1) := by decide +kernel
theorem dL_law_295 : decode code 295 = .ok (.invokevirtual 102, 3) := by decide +kernel
theorem dL_law_298 : decode code 298 = .ok (.aload_n 2, 1) := by decide +kernel
theorem dL_law_299 : decode code 299 = .ok (.invokevirtual 105, 3) := by decide +kernel
theorem dL_law_302 : decode code 302 = .ok (.if_icmp .eq 1686, 3) := by decide +kernel
theorem dL_law_305 : decode code 305 = .ok (.iconst 0, 1) := by decide +kernel
theorem dL_law_306 : decode code 306 = .ok (.ireturn, 1) := by decide +kernel
theorem dL_law_307 : decode code 307 = .ok (.aload_n 1, 1) := by decide +kernel
theorem dL_law_308 : decode code 308 = .ok (.aload_n 3, 1) := by decide +kernel
theorem dL_law_309 : decode code 309 = .ok (.invokestatic 106, 3) := by decide +kernel
theorem dL_law_312 : decode code 312 = .ok (.istore 5, 2) := by decide +kernel
theorem dL_law_314 : decode code 314 = .ok (.aload_n 2, 1) := by decide +kernel
theorem dL_law_315 : decode code 315 = .ok (.invokevirtual 111, 3) := by decide +kernel
theorem dL_law_318 : decode code 318 = .ok (.istore 6, 2) := by decide +kernel
theorem dL_law_320 : decode code 320 = .ok (.aload_n 2, 1) := by decide +kernel
theorem dL_law_321 : decode code 321 = .ok (.invokevirtual 112, 3) := by decide +kernel
theorem dL_law_324 : decode code 324 = .ok (.iload 5, 2) := by decide +kernel
theorem dL_law_326 : decode code 326 = .ok (.if_icmp .eq 5, 3) := by decide +kernel
theorem dL_law_329 : decode code 329 = .ok (.iconst 0, 1) := by decide +kernel
theorem dL_law_330 : decode code 330 = .ok (.ireturn, 1) := by decide +kernel
theorem dL_law_331 : decode code 331 = .ok (.iload 5, 2) := by decide +kernel
theorem dL_law_333 : decode code 333 = .ok (.ifCond .ne 15, 3) := by decide +kernel
theorem dL_law_336 : decode code 336 = .ok (.aload_n 3, 1) := by decide +kernel
theorem dL_law_337 : decode code 337 = .ok (.iconst 0, 1) := by decide +kernel
theorem dL_law_338 : decode code 338 = .ok (.laload, 1) := by decide +kernel
theorem dL_law_339 : decode code 339 = .ok (.iload 6, 2) := by decide +kernel
theorem dL_law_341 : decode code 341 = .ok (.i2l, 1) := by decide +kernel
theorem dL_law_342 : decode code 342 = .ok (.lcmp, 1) := by decide +kernel
theorem dL_law_343 : decode code 343 = .ok (.ifCond .eq 5, 3) := by decide +kernel
theorem dL_law_346 : decode code 346 = .ok (.iconst 0, 1) := by decide +kernel
theorem dL_law_347 : decode code 347 = .ok (.ireturn, 1) := by decide +kernel
theorem dL_law_348 : decode code 348 = .ok (.goto 1640, 3) := by decide +kernel
theorem dL_law_351 : decode code 351 = .ok (.aload_n 1, 1) := by decide +kernel
theorem dL_law_352 : decode code 352 = .ok (.invokevirtual 115, 3) := by decide +kernel
theorem dL_law_355 : decode code 355 = .ok (.aload_n 2, 1) := by decide +kernel
theorem dL_law_356 : decode code 356 = .ok (.invokevirtual 118, 3) := by decide +kernel
theorem dL_law_359 : decode code 359 = .ok (.if_icmp .eq 1629, 3) := by decide +kernel
theorem dL_law_362 : decode code 362 = .ok (.iconst 0, 1) := by decide +kernel
theorem dL_law_363 : decode code 363 = .ok (.ireturn, 1) := by decide +kernel
theorem dL_law_364 : decode code 364 = .ok (.aload_n 1, 1) := by decide +kernel
theorem dL_law_365 : decode code 365 = .ok (.aload_n 0, 1) := by decide +kernel
theorem dL_law_366 : decode code 366 = .ok (.iload 4, 2) := by decide +kernel
theorem dL_law_368 : decode code 368 = .ok (.iconst 1, 1) := by decide +kernel
theorem dL_law_369 : decode code 369 = .ok (.iadd, 1) := by decide +kernel
theorem dL_law_370 : decode code 370 = .ok (.iaload, 1) := by decide +kernel
theorem dL_law_371 : decode code 371 = .ok (.aload_n 0, 1) := by decide +kernel
theorem dL_law_372 : decode code 372 = .ok (.iload 4, 2) := by decide +kernel
theorem dL_law_374 : decode code 374 = .ok (.iconst 2, 1) := by decide +kernel
theorem dL_law_375 : decode code 375 = .ok (.iadd, 1) := by decide +kernel
theorem dL_law_376 : decode code 376 = .ok (.iaload, 1) := by decide +kernel
theorem dL_law_377 : decode code 377 = .ok (.aload_n 3, 1) := by decide +kernel
theorem dL_law_378 : decode code 378 = .ok (.invokestatic 119, 3) := by decide +kernel
theorem dL_law_381 : decode code 381 = .ok (.istore 5, 2) := by decide +kernel
theorem dL_law_383 : decode code 383 = .ok (.aload_n 2, 1) := by decide +kernel
theorem dL_law_384 : decode code 384 = .ok (.aload_n 0, 1) := by decide +kernel
theorem dL_law_385 : decode code 385 = .ok (.iload 4, 2) := by decide +kernel
theorem dL_law_387 : decode code 387 = .ok (.iconst 1, 1) := by decide +kernel
theorem dL_law_388 : decode code 388 = .ok (.iadd, 1) := by decide +kernel
theorem dL_law_389 : decode code 389 = .ok (.iaload, 1) := by decide +kernel
theorem dL_law_390 : decode code 390 = .ok (.aload_n 0, 1) := by decide +kernel
theorem dL_law_391 : decode code 391 = .ok (.iload 4, 2) := by decide +kernel
theorem dL_law_393 : decode code 393 = .ok (.iconst 2, 1) := by decide +kernel
theorem dL_law_394 : decode code 394 = .ok (.iadd, 1) := by decide +kernel
theorem dL_law_395 : decode code 395 = .ok (.iaload, 1) := by decide +kernel
theorem dL_law_396 : decode code 396 = .ok (.invokevirtual 122, 3) := by decide +kernel
theorem dL_law_399 : decode code 399 = .ok (.istore 6, 2) := by decide +kernel
theorem dL_law_401 : decode code 401 = .ok (.aload_n 2, 1) := by decide +kernel
theorem dL_law_402 : decode code 402 = .ok (.invokevirtual 112, 3) := by decide +kernel
theorem dL_law_405 : decode code 405 = .ok (.iload 5, 2) := by decide +kernel
theorem dL_law_407 : decode code 407 = .ok (.if_icmp .eq 5, 3) := by decide +kernel
theorem dL_law_410 : decode code 410 = .ok (.iconst 0, 1) := by decide +kernel
theorem dL_law_411 : decode code 411 = .ok (.ireturn, 1) := by decide +kernel
theorem dL_law_412 : decode code 412 = .ok (.iload 5, 2) := by decide +kernel
theorem dL_law_414 : decode code 414 = .ok (.ifCond .ne 15, 3) := by decide +kernel
theorem dL_law_417 : decode code 417 = .ok (.aload_n 3, 1) := by decide +kernel
theorem dL_law_418 : decode code 418 = .ok (.iconst 0, 1) := by decide +kernel
theorem dL_law_419 : decode code 419 = .ok (.laload, 1) := by decide +kernel
theorem dL_law_420 : decode code 420 = .ok (.iload 6, 2) := by decide +kernel
theorem dL_law_422 : decode code 422 = .ok (.i2l, 1) := by decide +kernel
theorem dL_law_423 : decode code 423 = .ok (.lcmp, 1) := by decide +kernel
theorem dL_law_424 : decode code 424 = .ok (.ifCond .eq 5, 3) := by decide +kernel
theorem dL_law_427 : decode code 427 = .ok (.iconst 0, 1) := by decide +kernel
theorem dL_law_428 : decode code 428 = .ok (.ireturn, 1) := by decide +kernel
theorem dL_law_429 : decode code 429 = .ok (.goto 1559, 3) := by decide +kernel
theorem dL_law_432 : decode code 432 = .ok (.aload_n 1, 1) := by decide +kernel
theorem dL_law_433 : decode code 433 = .ok (.aload_n 0, 1) := by decide +kernel
theorem dL_law_434 : decode code 434 = .ok (.iload 4, 2) := by decide +kernel
theorem dL_law_436 : decode code 436 = .ok (.iconst 1, 1) := by decide +kernel
theorem dL_law_437 : decode code 437 = .ok (.iadd, 1) := by decide +kernel
theorem dL_law_438 : decode code 438 = .ok (.iaload, 1) := by decide +kernel
theorem dL_law_439 : decode code 439 = .ok (.invokevirtual 123, 3) := by decide +kernel
theorem dL_law_442 : decode code 442 = .ok (.aload_n 2, 1) := by decide +kernel
theorem dL_law_443 : decode code 443 = .ok (.aload_n 0, 1) := by decide +kernel
theorem dL_law_444 : decode code 444 = .ok (.iload 4, 2) := by decide +kernel
theorem dL_law_446 : decode code 446 = .ok (.iconst 1, 1) := by decide +kernel
theorem dL_law_447 : decode code 447 = .ok (.iadd, 1) := by decide +kernel
theorem dL_law_448 : decode code 448 = .ok (.iaload, 1) := by decide +kernel
theorem dL_law_449 : decode code 449 = .ok (.invokevirtual 126, 3) := by decide +kernel
theorem dL_law_452 : decode code 452 = .ok (.if_icmp .eq 1536, 3) := by decide +kernel
theorem dL_law_455 : decode code 455 = .ok (.iconst 0, 1) := by decide +kernel
theorem dL_law_456 : decode code 456 = .ok (.ireturn, 1) := by decide +kernel
theorem dL_law_457 : decode code 457 = .ok (.aload_n 1, 1) := by decide +kernel
theorem dL_law_458 : decode code 458 = .ok (.aload_n 0, 1) := by decide +kernel
theorem dL_law_459 : decode code 459 = .ok (.iload 4, 2) := by decide +kernel
theorem dL_law_461 : decode code 461 = .ok (.iconst 1, 1) := by decide +kernel
theorem dL_law_462 : decode code 462 = .ok (.iadd, 1) := by decide +kernel
theorem dL_law_463 : decode code 463 = .ok (.iaload, 1) := by decide +kernel
theorem dL_law_464 : decode code 464 = .ok (.invokevirtual 127, 3) := by decide +kernel
theorem dL_law_467 : decode code 467 = .ok (.aload_n 2, 1) := by decide +kernel
theorem dL_law_468 : decode code 468 = .ok (.aload_n 0, 1) := by decide +kernel
theorem dL_law_469 : decode code 469 = .ok (.iload 4, 2) := by decide +kernel
theorem dL_law_471 : decode code 471 = .ok (.iconst 1, 1) := by decide +kernel
theorem dL_law_472 : decode code 472 = .ok (.iadd, 1) := by decide +kernel
theorem dL_law_473 : decode code 473 = .ok (.iaload, 1) := by decide +kernel
theorem dL_law_474 : decode code 474 = .ok (.invokevirtual 130, 3) := by decide +kernel
theorem dL_law_477 : decode code 477 = .ok (.if_icmp .eq 1511, 3) := by decide +kernel
theorem dL_law_480 : decode code 480 = .ok (.iconst 0, 1) := by decide +kernel
theorem dL_law_481 : decode code 481 = .ok (.ireturn, 1) := by decide +kernel
theorem dL_law_482 : decode code 482 = .ok (.aload_n 1, 1) := by decide +kernel
theorem dL_law_483 : decode code 483 = .ok (.aload_n 0, 1) := by decide +kernel
theorem dL_law_484 : decode code 484 = .ok (.iload 4, 2) := by decide +kernel
theorem dL_law_486 : decode code 486 = .ok (.iconst 1, 1) := by decide +kernel
theorem dL_law_487 : decode code 487 = .ok (.iadd, 1) := by decide +kernel
theorem dL_law_488 : decode code 488 = .ok (.iaload, 1) := by decide +kernel
theorem dL_law_489 : decode code 489 = .ok (.aload_n 0, 1) := by decide +kernel
theorem dL_law_490 : decode code 490 = .ok (.iload 4, 2) := by decide +kernel
theorem dL_law_492 : decode code 492 = .ok (.iconst 2, 1) := by decide +kernel
theorem dL_law_493 : decode code 493 = .ok (.iadd, 1) := by decide +kernel
theorem dL_law_494 : decode code 494 = .ok (.iaload, 1) := by decide +kernel
theorem dL_law_495 : decode code 495 = .ok (.aload_n 3, 1) := by decide +kernel
theorem dL_law_496 : decode code 496 = .ok (.invokestatic 131, 3) := by decide +kernel
theorem dL_law_499 : decode code 499 = .ok (.istore 5, 2) := by decide +kernel
theorem dL_law_501 : decode code 501 = .ok (.aload_n 2, 1) := by decide +kernel
theorem dL_law_502 : decode code 502 = .ok (.aload_n 0, 1) := by decide +kernel
theorem dL_law_503 : decode code 503 = .ok (.iload 4, 2) := by decide +kernel
theorem dL_law_505 : decode code 505 = .ok (.iconst 1, 1) := by decide +kernel
theorem dL_law_506 : decode code 506 = .ok (.iadd, 1) := by decide +kernel
theorem dL_law_507 : decode code 507 = .ok (.iaload, 1) := by decide +kernel
theorem dL_law_508 : decode code 508 = .ok (.aload_n 0, 1) := by decide +kernel
theorem dL_law_509 : decode code 509 = .ok (.iload 4, 2) := by decide +kernel
theorem dL_law_511 : decode code 511 = .ok (.iconst 2, 1) := by decide +kernel
theorem dL_law_512 : decode code 512 = .ok (.iadd, 1) := by decide +kernel
theorem dL_law_513 : decode code 513 = .ok (.iaload, 1) := by decide +kernel
theorem dL_law_514 : decode code 514 = .ok (.invokevirtual 133, 3) := by decide +kernel
theorem dL_law_517 : decode code 517 = .ok (.istore 6, 2) := by decide +kernel
theorem dL_law_519 : decode code 519 = .ok (.aload_n 2, 1) := by decide +kernel
theorem dL_law_520 : decode code 520 = .ok (.invokevirtual 112, 3) := by decide +kernel
theorem dL_law_523 : decode code 523 = .ok (.iload 5, 2) := by decide +kernel
theorem dL_law_525 : decode code 525 = .ok (.if_icmp .eq 5, 3) := by decide +kernel
theorem dL_law_528 : decode code 528 = .ok (.iconst 0, 1) := by decide +kernel
theorem dL_law_529 : decode code 529 = .ok (.ireturn, 1) := by decide +kernel
theorem dL_law_530 : decode code 530 = .ok (.iload 5, 2) := by decide +kernel
theorem dL_law_532 : decode code 532 = .ok (.ifCond .ne 15, 3) := by decide +kernel
theorem dL_law_535 : decode code 535 = .ok (.aload_n 3, 1) := by decide +kernel
theorem dL_law_536 : decode code 536 = .ok (.iconst 0, 1) := by decide +kernel
theorem dL_law_537 : decode code 537 = .ok (.laload, 1) := by decide +kernel
theorem dL_law_538 : decode code 538 = .ok (.iload 6, 2) := by decide +kernel
theorem dL_law_540 : decode code 540 = .ok (.i2l, 1) := by decide +kernel
theorem dL_law_541 : decode code 541 = .ok (.lcmp, 1) := by decide +kernel
theorem dL_law_542 : decode code 542 = .ok (.ifCond .eq 5, 3) := by decide +kernel
theorem dL_law_545 : decode code 545 = .ok (.iconst 0, 1) := by decide +kernel
theorem dL_law_546 : decode code 546 = .ok (.ireturn, 1) := by decide +kernel
theorem dL_law_547 : decode code 547 = .ok (.goto 1441, 3) := by decide +kernel
theorem dL_law_550 : decode code 550 = .ok (.aload_n 1, 1) := by decide +kernel
theorem dL_law_551 : decode code 551 = .ok (.aload_n 0, 1) := by decide +kernel
theorem dL_law_552 : decode code 552 = .ok (.iload 4, 2) := by decide +kernel
theorem dL_law_554 : decode code 554 = .ok (.iconst 1, 1) := by decide +kernel
theorem dL_law_555 : decode code 555 = .ok (.iadd, 1) := by decide +kernel
theorem dL_law_556 : decode code 556 = .ok (.iaload, 1) := by decide +kernel
theorem dL_law_557 : decode code 557 = .ok (.aload_n 0, 1) := by decide +kernel
theorem dL_law_558 : decode code 558 = .ok (.iload 4, 2) := by decide +kernel
theorem dL_law_560 : decode code 560 = .ok (.iconst 2, 1) := by decide +kernel
theorem dL_law_561 : decode code 561 = .ok (.iadd, 1) := by decide +kernel
theorem dL_law_562 : decode code 562 = .ok (.iaload, 1) := by decide +kernel
theorem dL_law_563 : decode code 563 = .ok (.aload_n 3, 1) := by decide +kernel
theorem dL_law_564 : decode code 564 = .ok (.invokestatic 134, 3) := by decide +kernel
theorem dL_law_567 : decode code 567 = .ok (.istore 5, 2) := by decide +kernel
theorem dL_law_569 : decode code 569 = .ok (.aload_n 2, 1) := by decide +kernel
theorem dL_law_570 : decode code 570 = .ok (.aload_n 0, 1) := by decide +kernel
theorem dL_law_571 : decode code 571 = .ok (.iload 4, 2) := by decide +kernel
theorem dL_law_573 : decode code 573 = .ok (.iconst 1, 1) := by decide +kernel
theorem dL_law_574 : decode code 574 = .ok (.iadd, 1) := by decide +kernel
theorem dL_law_575 : decode code 575 = .ok (.iaload, 1) := by decide +kernel
theorem dL_law_576 : decode code 576 = .ok (.aload_n 0, 1) := by decide +kernel
theorem dL_law_577 : decode code 577 = .ok (.iload 4, 2) := by decide +kernel
theorem dL_law_579 : decode code 579 = .ok (.iconst 2, 1) := by decide +kernel
theorem dL_law_580 : decode code 580 = .ok (.iadd, 1) := by decide +kernel
theorem dL_law_581 : decode code 581 = .ok (.iaload, 1) := by decide +kernel
theorem dL_law_582 : decode code 582 = .ok (.invokevirtual 136, 3) := by decide +kernel
theorem dL_law_585 : decode code 585 = .ok (.istore 6, 2) := by decide +kernel
theorem dL_law_587 : decode code 587 = .ok (.aload_n 2, 1) := by decide +kernel
theorem dL_law_588 : decode code 588 = .ok (.invokevirtual 112, 3) := by decide +kernel
theorem dL_law_591 : decode code 591 = .ok (.iload 5, 2) := by decide +kernel
theorem dL_law_593 : decode code 593 = .ok (.if_icmp .eq 5, 3) := by decide +kernel
theorem dL_law_596 : decode code 596 = .ok (.iconst 0, 1) := by decide +kernel
theorem dL_law_597 : decode code 597 = .ok (.ireturn, 1) := by decide +kernel
theorem dL_law_598 : decode code 598 = .ok (.iload 5, 2) := by decide +kernel
theorem dL_law_600 : decode code 600 = .ok (.ifCond .ne 15, 3) := by decide +kernel
theorem dL_law_603 : decode code 603 = .ok (.aload_n 3, 1) := by decide +kernel
theorem dL_law_604 : decode code 604 = .ok (.iconst 0, 1) := by decide +kernel
theorem dL_law_605 : decode code 605 = .ok (.laload, 1) := by decide +kernel
theorem dL_law_606 : decode code 606 = .ok (.iload 6, 2) := by decide +kernel
theorem dL_law_608 : decode code 608 = .ok (.i2l, 1) := by decide +kernel
theorem dL_law_609 : decode code 609 = .ok (.lcmp, 1) := by decide +kernel
theorem dL_law_610 : decode code 610 = .ok (.ifCond .eq 5, 3) := by decide +kernel
theorem dL_law_613 : decode code 613 = .ok (.iconst 0, 1) := by decide +kernel
theorem dL_law_614 : decode code 614 = .ok (.ireturn, 1) := by decide +kernel
theorem dL_law_615 : decode code 615 = .ok (.goto 1373, 3) := by decide +kernel
theorem dL_law_618 : decode code 618 = .ok (.aload_n 1, 1) := by decide +kernel
theorem dL_law_619 : decode code 619 = .ok (.aload_n 0, 1) := by decide +kernel
theorem dL_law_620 : decode code 620 = .ok (.iload 4, 2) := by decide +kernel
theorem dL_law_622 : decode code 622 = .ok (.iconst 1, 1) := by decide +kernel
theorem dL_law_623 : decode code 623 = .ok (.iadd, 1) := by decide +kernel
theorem dL_law_624 : decode code 624 = .ok (.iaload, 1) := by decide +kernel
theorem dL_law_625 : decode code 625 = .ok (.aload_n 0, 1) := by decide +kernel
theorem dL_law_626 : decode code 626 = .ok (.iload 4, 2) := by decide +kernel
theorem dL_law_628 : decode code 628 = .ok (.iconst 2, 1) := by decide +kernel
theorem dL_law_629 : decode code 629 = .ok (.iadd, 1) := by decide +kernel
theorem dL_law_630 : decode code 630 = .ok (.iaload, 1) := by decide +kernel
theorem dL_law_631 : decode code 631 = .ok (.aload_n 3, 1) := by decide +kernel
theorem dL_law_632 : decode code 632 = .ok (.invokestatic 137, 3) := by decide +kernel
theorem dL_law_635 : decode code 635 = .ok (.istore 5, 2) := by decide +kernel
theorem dL_law_637 : decode code 637 = .ok (.aload_n 2, 1) := by decide +kernel
theorem dL_law_638 : decode code 638 = .ok (.aload_n 0, 1) := by decide +kernel
theorem dL_law_639 : decode code 639 = .ok (.iload 4, 2) := by decide +kernel
theorem dL_law_641 : decode code 641 = .ok (.iconst 1, 1) := by decide +kernel
theorem dL_law_642 : decode code 642 = .ok (.iadd, 1) := by decide +kernel
theorem dL_law_643 : decode code 643 = .ok (.iaload, 1) := by decide +kernel
theorem dL_law_644 : decode code 644 = .ok (.aload_n 0, 1) := by decide +kernel
theorem dL_law_645 : decode code 645 = .ok (.iload 4, 2) := by decide +kernel
theorem dL_law_647 : decode code 647 = .ok (.iconst 2, 1) := by decide +kernel
theorem dL_law_648 : decode code 648 = .ok (.iadd, 1) := by decide +kernel
theorem dL_law_649 : decode code 649 = .ok (.iaload, 1) := by decide +kernel
theorem dL_law_650 : decode code 650 = .ok (.invokevirtual 139, 3) := by decide +kernel
theorem dL_law_653 : decode code 653 = .ok (.istore 6, 2) := by decide +kernel
theorem dL_law_655 : decode code 655 = .ok (.aload_n 2, 1) := by decide +kernel
theorem dL_law_656 : decode code 656 = .ok (.invokevirtual 112, 3) := by decide +kernel
theorem dL_law_659 : decode code 659 = .ok (.iload 5, 2) := by decide +kernel
theorem dL_law_661 : decode code 661 = .ok (.if_icmp .eq 5, 3) := by decide +kernel
theorem dL_law_664 : decode code 664 = .ok (.iconst 0, 1) := by decide +kernel
theorem dL_law_665 : decode code 665 = .ok (.ireturn, 1) := by decide +kernel
theorem dL_law_666 : decode code 666 = .ok (.iload 5, 2) := by decide +kernel
theorem dL_law_668 : decode code 668 = .ok (.ifCond .ne 15, 3) := by decide +kernel
theorem dL_law_671 : decode code 671 = .ok (.aload_n 3, 1) := by decide +kernel
theorem dL_law_672 : decode code 672 = .ok (.iconst 0, 1) := by decide +kernel
theorem dL_law_673 : decode code 673 = .ok (.laload, 1) := by decide +kernel
theorem dL_law_674 : decode code 674 = .ok (.iload 6, 2) := by decide +kernel
theorem dL_law_676 : decode code 676 = .ok (.i2l, 1) := by decide +kernel
theorem dL_law_677 : decode code 677 = .ok (.lcmp, 1) := by decide +kernel
theorem dL_law_678 : decode code 678 = .ok (.ifCond .eq 5, 3) := by decide +kernel
theorem dL_law_681 : decode code 681 = .ok (.iconst 0, 1) := by decide +kernel
theorem dL_law_682 : decode code 682 = .ok (.ireturn, 1) := by decide +kernel
theorem dL_law_683 : decode code 683 = .ok (.goto 1305, 3) := by decide +kernel
theorem dL_law_686 : decode code 686 = .ok (.aload_n 1, 1) := by decide +kernel
theorem dL_law_687 : decode code 687 = .ok (.aload_n 0, 1) := by decide +kernel
theorem dL_law_688 : decode code 688 = .ok (.iload 4, 2) := by decide +kernel
theorem dL_law_690 : decode code 690 = .ok (.iconst 1, 1) := by decide +kernel
theorem dL_law_691 : decode code 691 = .ok (.iadd, 1) := by decide +kernel
theorem dL_law_692 : decode code 692 = .ok (.iaload, 1) := by decide +kernel
theorem dL_law_693 : decode code 693 = .ok (.aload_n 0, 1) := by decide +kernel
theorem dL_law_694 : decode code 694 = .ok (.iload 4, 2) := by decide +kernel
theorem dL_law_696 : decode code 696 = .ok (.iconst 2, 1) := by decide +kernel
theorem dL_law_697 : decode code 697 = .ok (.iadd, 1) := by decide +kernel
theorem dL_law_698 : decode code 698 = .ok (.iaload, 1) := by decide +kernel
theorem dL_law_699 : decode code 699 = .ok (.aload_n 0, 1) := by decide +kernel
theorem dL_law_700 : decode code 700 = .ok (.iload 4, 2) := by decide +kernel
theorem dL_law_702 : decode code 702 = .ok (.iconst 3, 1) := by decide +kernel
theorem dL_law_703 : decode code 703 = .ok (.iadd, 1) := by decide +kernel
theorem dL_law_704 : decode code 704 = .ok (.iaload, 1) := by decide +kernel
theorem dL_law_705 : decode code 705 = .ok (.aload_n 3, 1) := by decide +kernel
theorem dL_law_706 : decode code 706 = .ok (.invokestatic 140, 3) := by decide +kernel
theorem dL_law_709 : decode code 709 = .ok (.istore 5, 2) := by decide +kernel
theorem dL_law_711 : decode code 711 = .ok (.aload_n 2, 1) := by decide +kernel
theorem dL_law_712 : decode code 712 = .ok (.aload_n 0, 1) := by decide +kernel
theorem dL_law_713 : decode code 713 = .ok (.iload 4, 2) := by decide +kernel
theorem dL_law_715 : decode code 715 = .ok (.iconst 1, 1) := by decide +kernel
theorem dL_law_716 : decode code 716 = .ok (.iadd, 1) := by decide +kernel
theorem dL_law_717 : decode code 717 = .ok (.iaload, 1) := by decide +kernel
theorem dL_law_718 : decode code 718 = .ok (.aload_n 0, 1) := by decide +kernel
theorem dL_law_719 : decode code 719 = .ok (.iload 4, 2) := by decide +kernel
theorem dL_law_721 : decode code 721 = .ok (.iconst 2, 1) := by decide +kernel
theorem dL_law_722 : decode code 722 = .ok (.iadd, 1) := by decide +kernel
theorem dL_law_723 : decode code 723 = .ok (.iaload, 1) := by decide +kernel
theorem dL_law_724 : decode code 724 = .ok (.aload_n 0, 1) := by decide +kernel
theorem dL_law_725 : decode code 725 = .ok (.iload 4, 2) := by decide +kernel
theorem dL_law_727 : decode code 727 = .ok (.iconst 3, 1) := by decide +kernel
theorem dL_law_728 : decode code 728 = .ok (.iadd, 1) := by decide +kernel
theorem dL_law_729 : decode code 729 = .ok (.iaload, 1) := by decide +kernel
theorem dL_law_730 : decode code 730 = .ok (.invokevirtual 143, 3) := by decide +kernel
theorem dL_law_733 : decode code 733 = .ok (.istore 6, 2) := by decide +kernel
theorem dL_law_735 : decode code 735 = .ok (.aload_n 2, 1) := by decide +kernel
theorem dL_law_736 : decode code 736 = .ok (.invokevirtual 112, 3) := by decide +kernel
theorem dL_law_739 : decode code 739 = .ok (.iload 5, 2) := by decide +kernel
theorem dL_law_741 : decode code 741 = .ok (.if_icmp .eq 5, 3) := by decide +kernel
theorem dL_law_744 : decode code 744 = .ok (.iconst 0, 1) := by decide +kernel
theorem dL_law_745 : decode code 745 = .ok (.ireturn, 1) := by decide +kernel
theorem dL_law_746 : decode code 746 = .ok (.iload 5, 2) := by decide +kernel
theorem dL_law_748 : decode code 748 = .ok (.ifCond .ne 22, 3) := by decide +kernel
theorem dL_law_751 : decode code 751 = .ok (.aload_n 3, 1) := by decide +kernel
theorem dL_law_752 : decode code 752 = .ok (.iconst 0, 1) := by decide +kernel
theorem dL_law_753 : decode code 753 = .ok (.laload, 1) := by decide +kernel
theorem dL_law_754 : decode code 754 = .ok (.iload 6, 2) := by decide +kernel
theorem dL_law_756 : decode code 756 = .ok (.ifCond .eq 7, 3) := by decide +kernel
theorem dL_law_759 : decode code 759 = .ok (.lconst 1, 1) := by decide +kernel
theorem dL_law_760 : decode code 760 = .ok (.goto 4, 3) := by decide +kernel
theorem dL_law_763 : decode code 763 = .ok (.lconst 0, 1) := by decide +kernel
theorem dL_law_764 : decode code 764 = .ok (.lcmp, 1) := by decide +kernel
theorem dL_law_765 : decode code 765 = .ok (.ifCond .eq 5, 3) := by decide +kernel
theorem dL_law_768 : decode code 768 = .ok (.iconst 0, 1) := by decide +kernel
theorem dL_law_769 : decode code 769 = .ok (.ireturn, 1) := by decide +kernel
theorem dL_law_770 : decode code 770 = .ok (.goto 1218, 3) := by decide +kernel
theorem dL_law_773 : decode code 773 = .ok (.aload_n 1, 1) := by decide +kernel
theorem dL_law_774 : decode code 774 = .ok (.aload_n 0, 1) := by decide +kernel
theorem dL_law_775 : decode code 775 = .ok (.iload 4, 2) := by decide +kernel
theorem dL_law_777 : decode code 777 = .ok (.iconst 1, 1) := by decide +kernel
theorem dL_law_778 : decode code 778 = .ok (.iadd, 1) := by decide +kernel
theorem dL_law_779 : decode code 779 = .ok (.iaload, 1) := by decide +kernel
theorem dL_law_780 : decode code 780 = .ok (.aload_n 0, 1) := by decide +kernel
theorem dL_law_781 : decode code 781 = .ok (.iload 4, 2) := by decide +kernel
theorem dL_law_783 : decode code 783 = .ok (.iconst 2, 1) := by decide +kernel
theorem dL_law_784 : decode code 784 = .ok (.iadd, 1) := by decide +kernel
theorem dL_law_785 : decode code 785 = .ok (.iaload, 1) := by decide +kernel
theorem dL_law_786 : decode code 786 = .ok (.aload_n 3, 1) := by decide +kernel
theorem dL_law_787 : decode code 787 = .ok (.invokestatic 144, 3) := by decide +kernel
theorem dL_law_790 : decode code 790 = .ok (.istore 5, 2) := by decide +kernel
theorem dL_law_792 : decode code 792 = .ok (.aload_n 2, 1) := by decide +kernel
theorem dL_law_793 : decode code 793 = .ok (.aload_n 0, 1) := by decide +kernel
theorem dL_law_794 : decode code 794 = .ok (.iload 4, 2) := by decide +kernel
theorem dL_law_796 : decode code 796 = .ok (.iconst 1, 1) := by decide +kernel
theorem dL_law_797 : decode code 797 = .ok (.iadd, 1) := by decide +kernel
theorem dL_law_798 : decode code 798 = .ok (.iaload, 1) := by decide +kernel
theorem dL_law_799 : decode code 799 = .ok (.aload_n 0, 1) := by decide +kernel
theorem dL_law_800 : decode code 800 = .ok (.iload 4, 2) := by decide +kernel
theorem dL_law_802 : decode code 802 = .ok (.iconst 2, 1) := by decide +kernel
theorem dL_law_803 : decode code 803 = .ok (.iadd, 1) := by decide +kernel
theorem dL_law_804 : decode code 804 = .ok (.iaload, 1) := by decide +kernel
theorem dL_law_805 : decode code 805 = .ok (.invokevirtual 146, 3) := by decide +kernel
theorem dL_law_808 : decode code 808 = .ok (.istore 6, 2) := by decide +kernel
theorem dL_law_810 : decode code 810 = .ok (.aload_n 2, 1) := by decide +kernel
theorem dL_law_811 : decode code 811 = .ok (.invokevirtual 112, 3) := by decide +kernel
theorem dL_law_814 : decode code 814 = .ok (.iload 5, 2) := by decide +kernel
theorem dL_law_816 : decode code 816 = .ok (.if_icmp .eq 5, 3) := by decide +kernel
theorem dL_law_819 : decode code 819 = .ok (.iconst 0, 1) := by decide +kernel
theorem dL_law_820 : decode code 820 = .ok (.ireturn, 1) := by decide +kernel
theorem dL_law_821 : decode code 821 = .ok (.iload 5, 2) := by decide +kernel
theorem dL_law_823 : decode code 823 = .ok (.ifCond .ne 15, 3) := by decide +kernel
theorem dL_law_826 : decode code 826 = .ok (.aload_n 3, 1) := by decide +kernel
theorem dL_law_827 : decode code 827 = .ok (.iconst 0, 1) := by decide +kernel
theorem dL_law_828 : decode code 828 = .ok (.laload, 1) := by decide +kernel
theorem dL_law_829 : decode code 829 = .ok (.iload 6, 2) := by decide +kernel
theorem dL_law_831 : decode code 831 = .ok (.i2l, 1) := by decide +kernel
theorem dL_law_832 : decode code 832 = .ok (.lcmp, 1) := by decide +kernel
theorem dL_law_833 : decode code 833 = .ok (.ifCond .eq 5, 3) := by decide +kernel
theorem dL_law_836 : decode code 836 = .ok (.iconst 0, 1) := by decide +kernel
theorem dL_law_837 : decode code 837 = .ok (.ireturn, 1) := by decide +kernel
theorem dL_law_838 : decode code 838 = .ok (.goto 1150, 3) := by decide +kernel
theorem dL_law_841 : decode code 841 = .ok (.aload_n 1, 1) := by decide +kernel
theorem dL_law_842 : decode code 842 = .ok (.aload_n 0, 1) := by decide +kernel
theorem dL_law_843 : decode code 843 = .ok (.iload 4, 2) := by decide +kernel
theorem dL_law_845 : decode code 845 = .ok (.iconst 1, 1) := by decide +kernel
theorem dL_law_846 : decode code 846 = .ok (.iadd, 1) := by decide +kernel
theorem dL_law_847 : decode code 847 = .ok (.iaload, 1) := by decide +kernel
theorem dL_law_848 : decode code 848 = .ok (.aload_n 0, 1) := by decide +kernel
theorem dL_law_849 : decode code 849 = .ok (.iload 4, 2) := by decide +kernel
theorem dL_law_851 : decode code 851 = .ok (.iconst 2, 1) := by decide +kernel
theorem dL_law_852 : decode code 852 = .ok (.iadd, 1) := by decide +kernel
theorem dL_law_853 : decode code 853 = .ok (.iaload, 1) := by decide +kernel
theorem dL_law_854 : decode code 854 = .ok (.aload_n 0, 1) := by decide +kernel
theorem dL_law_855 : decode code 855 = .ok (.iload 4, 2) := by decide +kernel
theorem dL_law_857 : decode code 857 = .ok (.iconst 3, 1) := by decide +kernel
theorem dL_law_858 : decode code 858 = .ok (.iadd, 1) := by decide +kernel
theorem dL_law_859 : decode code 859 = .ok (.iaload, 1) := by decide +kernel
theorem dL_law_860 : decode code 860 = .ok (.aload_n 3, 1) := by decide +kernel
theorem dL_law_861 : decode code 861 = .ok (.invokestatic 147, 3) := by decide +kernel
theorem dL_law_864 : decode code 864 = .ok (.istore 5, 2) := by decide +kernel
theorem dL_law_866 : decode code 866 = .ok (.aload_n 2, 1) := by decide +kernel
theorem dL_law_867 : decode code 867 = .ok (.aload_n 0, 1) := by decide +kernel
theorem dL_law_868 : decode code 868 = .ok (.iload 4, 2) := by decide +kernel
theorem dL_law_870 : decode code 870 = .ok (.iconst 1, 1) := by decide +kernel
theorem dL_law_871 : decode code 871 = .ok (.iadd, 1) := by decide +kernel
theorem dL_law_872 : decode code 872 = .ok (.iaload, 1) := by decide +kernel
theorem dL_law_873 : decode code 873 = .ok (.aload_n 0, 1) := by decide +kernel
theorem dL_law_874 : decode code 874 = .ok (.iload 4, 2) := by decide +kernel
theorem dL_law_876 : decode code 876 = .ok (.iconst 2, 1) := by decide +kernel
theorem dL_law_877 : decode code 877 = .ok (.iadd, 1) := by decide +kernel
theorem dL_law_878 : decode code 878 = .ok (.iaload, 1) := by decide +kernel
theorem dL_law_879 : decode code 879 = .ok (.aload_n 0, 1) := by decide +kernel
theorem dL_law_880 : decode code 880 = .ok (.iload 4, 2) := by decide +kernel
theorem dL_law_882 : decode code 882 = .ok (.iconst 3, 1) := by decide +kernel
theorem dL_law_883 : decode code 883 = .ok (.iadd, 1) := by decide +kernel
theorem dL_law_884 : decode code 884 = .ok (.iaload, 1) := by decide +kernel
theorem dL_law_885 : decode code 885 = .ok (.invokevirtual 149, 3) := by decide +kernel
theorem dL_law_888 : decode code 888 = .ok (.istore 6, 2) := by decide +kernel
theorem dL_law_890 : decode code 890 = .ok (.aload_n 2, 1) := by decide +kernel
theorem dL_law_891 : decode code 891 = .ok (.invokevirtual 112, 3) := by decide +kernel
theorem dL_law_894 : decode code 894 = .ok (.iload 5, 2) := by decide +kernel
theorem dL_law_896 : decode code 896 = .ok (.if_icmp .eq 5, 3) := by decide +kernel
theorem dL_law_899 : decode code 899 = .ok (.iconst 0, 1) := by decide +kernel
theorem dL_law_900 : decode code 900 = .ok (.ireturn, 1) := by decide +kernel
theorem dL_law_901 : decode code 901 = .ok (.iload 5, 2) := by decide +kernel
theorem dL_law_903 : decode code 903 = .ok (.ifCond .ne 15, 3) := by decide +kernel
theorem dL_law_906 : decode code 906 = .ok (.aload_n 3, 1) := by decide +kernel
theorem dL_law_907 : decode code 907 = .ok (.iconst 0, 1) := by decide +kernel
theorem dL_law_908 : decode code 908 = .ok (.laload, 1) := by decide +kernel
theorem dL_law_909 : decode code 909 = .ok (.iload 6, 2) := by decide +kernel
theorem dL_law_911 : decode code 911 = .ok (.i2l, 1) := by decide +kernel
theorem dL_law_912 : decode code 912 = .ok (.lcmp, 1) := by decide +kernel
theorem dL_law_913 : decode code 913 = .ok (.ifCond .eq 5, 3) := by decide +kernel
theorem dL_law_916 : decode code 916 = .ok (.iconst 0, 1) := by decide +kernel
theorem dL_law_917 : decode code 917 = .ok (.ireturn, 1) := by decide +kernel
theorem dL_law_918 : decode code 918 = .ok (.goto 1070, 3) := by decide +kernel
theorem dL_law_921 : decode code 921 = .ok (.aload_n 1, 1) := by decide +kernel
theorem dL_law_922 : decode code 922 = .ok (.aload_n 0, 1) := by decide +kernel
theorem dL_law_923 : decode code 923 = .ok (.iload 4, 2) := by decide +kernel
theorem dL_law_925 : decode code 925 = .ok (.iconst 1, 1) := by decide +kernel
theorem dL_law_926 : decode code 926 = .ok (.iadd, 1) := by decide +kernel
theorem dL_law_927 : decode code 927 = .ok (.iaload, 1) := by decide +kernel
theorem dL_law_928 : decode code 928 = .ok (.aload_n 0, 1) := by decide +kernel
theorem dL_law_929 : decode code 929 = .ok (.iload 4, 2) := by decide +kernel
theorem dL_law_931 : decode code 931 = .ok (.iconst 2, 1) := by decide +kernel
theorem dL_law_932 : decode code 932 = .ok (.iadd, 1) := by decide +kernel
theorem dL_law_933 : decode code 933 = .ok (.iaload, 1) := by decide +kernel
theorem dL_law_934 : decode code 934 = .ok (.aload_n 3, 1) := by decide +kernel
theorem dL_law_935 : decode code 935 = .ok (.invokestatic 150, 3) := by decide +kernel
theorem dL_law_938 : decode code 938 = .ok (.istore 5, 2) := by decide +kernel
theorem dL_law_940 : decode code 940 = .ok (.aload_n 2, 1) := by decide +kernel
theorem dL_law_941 : decode code 941 = .ok (.aload_n 0, 1) := by decide +kernel
theorem dL_law_942 : decode code 942 = .ok (.iload 4, 2) := by decide +kernel
theorem dL_law_944 : decode code 944 = .ok (.iconst 1, 1) := by decide +kernel
theorem dL_law_945 : decode code 945 = .ok (.iadd, 1) := by decide +kernel
theorem dL_law_946 : decode code 946 = .ok (.iaload, 1) := by decide +kernel
theorem dL_law_947 : decode code 947 = .ok (.aload_n 0, 1) := by decide +kernel
theorem dL_law_948 : decode code 948 = .ok (.iload 4, 2) := by decide +kernel
theorem dL_law_950 : decode code 950 = .ok (.iconst 2, 1) := by decide +kernel
theorem dL_law_951 : decode code 951 = .ok (.iadd, 1) := by decide +kernel
theorem dL_law_952 : decode code 952 = .ok (.iaload, 1) := by decide +kernel
theorem dL_law_953 : decode code 953 = .ok (.invokevirtual 152, 3) := by decide +kernel
theorem dL_law_956 : decode code 956 = .ok (.istore 6, 2) := by decide +kernel
theorem dL_law_958 : decode code 958 = .ok (.aload_n 2, 1) := by decide +kernel
theorem dL_law_959 : decode code 959 = .ok (.invokevirtual 112, 3) := by decide +kernel
theorem dL_law_962 : decode code 962 = .ok (.iload 5, 2) := by decide +kernel
theorem dL_law_964 : decode code 964 = .ok (.if_icmp .eq 5, 3) := by decide +kernel
theorem dL_law_967 : decode code 967 = .ok (.iconst 0, 1) := by decide +kernel
theorem dL_law_968 : decode code 968 = .ok (.ireturn, 1) := by decide +kernel
theorem dL_law_969 : decode code 969 = .ok (.iload 5, 2) := by decide +kernel
theorem dL_law_971 : decode code 971 = .ok (.ifCond .ne 15, 3) := by decide +kernel
theorem dL_law_974 : decode code 974 = .ok (.aload_n 3, 1) := by decide +kernel
theorem dL_law_975 : decode code 975 = .ok (.iconst 0, 1) := by decide +kernel
theorem dL_law_976 : decode code 976 = .ok (.laload, 1) := by decide +kernel
theorem dL_law_977 : decode code 977 = .ok (.iload 6, 2) := by decide +kernel
theorem dL_law_979 : decode code 979 = .ok (.i2l, 1) := by decide +kernel
theorem dL_law_980 : decode code 980 = .ok (.lcmp, 1) := by decide +kernel
theorem dL_law_981 : decode code 981 = .ok (.ifCond .eq 5, 3) := by decide +kernel
theorem dL_law_984 : decode code 984 = .ok (.iconst 0, 1) := by decide +kernel
theorem dL_law_985 : decode code 985 = .ok (.ireturn, 1) := by decide +kernel
theorem dL_law_986 : decode code 986 = .ok (.goto 1002, 3) := by decide +kernel
theorem dL_law_989 : decode code 989 = .ok (.aload_n 1, 1) := by decide +kernel
theorem dL_law_990 : decode code 990 = .ok (.aload_n 0, 1) := by decide +kernel
theorem dL_law_991 : decode code 991 = .ok (.iload 4, 2) := by decide +kernel
theorem dL_law_993 : decode code 993 = .ok (.iconst 1, 1) := by decide +kernel
theorem dL_law_994 : decode code 994 = .ok (.iadd, 1) := by decide +kernel
theorem dL_law_995 : decode code 995 = .ok (.iaload, 1) := by decide +kernel
theorem dL_law_996 : decode code 996 = .ok (.aload_n 3, 1) := by decide +kernel
theorem dL_law_997 : decode code 997 = .ok (.invokestatic 153, 3) := by decide +kernel
theorem dL_law_1000 : decode code 1000 = .ok (.istore 5, 2) := by decide +kernel
theorem dL_law_1002 : decode code 1002 = .ok (.aload_n 2, 1) := by decide +kernel
theorem dL_law_1003 : decode code 1003 = .ok (.aload_n 0, 1) := by decide +kernel
theorem dL_law_1004 : decode code 1004 = .ok (.iload 4, 2) := by decide +kernel
theorem dL_law_1006 : decode code 1006 = .ok (.iconst 1, 1) := by decide +kernel
theorem dL_law_1007 : decode code 1007 = .ok (.iadd, 1) := by decide +kernel
theorem dL_law_1008 : decode code 1008 = .ok (.iaload, 1) := by decide +kernel
theorem dL_law_1009 : decode code 1009 = .ok (.invokevirtual 156, 3) := by decide +kernel
theorem dL_law_1012 : decode code 1012 = .ok (.istore 6, 2) := by decide +kernel
theorem dL_law_1014 : decode code 1014 = .ok (.aload_n 2, 1) := by decide +kernel
theorem dL_law_1015 : decode code 1015 = .ok (.invokevirtual 112, 3) := by decide +kernel
theorem dL_law_1018 : decode code 1018 = .ok (.iload 5, 2) := by decide +kernel
theorem dL_law_1020 : decode code 1020 = .ok (.if_icmp .eq 5, 3) := by decide +kernel
theorem dL_law_1023 : decode code 1023 = .ok (.iconst 0, 1) := by decide +kernel
theorem dL_law_1024 : decode code 1024 = .ok (.ireturn, 1) := by decide +kernel
theorem dL_law_1025 : decode code 1025 = .ok (.iload 5, 2) := by decide +kernel
theorem dL_law_1027 : decode code 1027 = .ok (.ifCond .ne 15, 3) := by decide +kernel
theorem dL_law_1030 : decode code 1030 = .ok (.aload_n 3, 1) := by decide +kernel
theorem dL_law_1031 : decode code 1031 = .ok (.iconst 0, 1) := by decide +kernel
theorem dL_law_1032 : decode code 1032 = .ok (.laload, 1) := by decide +kernel
theorem dL_law_1033 : decode code 1033 = .ok (.iload 6, 2) := by decide +kernel
theorem dL_law_1035 : decode code 1035 = .ok (.i2l, 1) := by decide +kernel
theorem dL_law_1036 : decode code 1036 = .ok (.lcmp, 1) := by decide +kernel
theorem dL_law_1037 : decode code 1037 = .ok (.ifCond .eq 5, 3) := by decide +kernel
theorem dL_law_1040 : decode code 1040 = .ok (.iconst 0, 1) := by decide +kernel
theorem dL_law_1041 : decode code 1041 = .ok (.ireturn, 1) := by decide +kernel
theorem dL_law_1042 : decode code 1042 = .ok (.goto 946, 3) := by decide +kernel
theorem dL_law_1045 : decode code 1045 = .ok (.aload_n 1, 1) := by decide +kernel
theorem dL_law_1046 : decode code 1046 = .ok (.aload_n 0, 1) := by decide +kernel
theorem dL_law_1047 : decode code 1047 = .ok (.iload 4, 2) := by decide +kernel
theorem dL_law_1049 : decode code 1049 = .ok (.iconst 1, 1) := by decide +kernel
theorem dL_law_1050 : decode code 1050 = .ok (.iadd, 1) := by decide +kernel
theorem dL_law_1051 : decode code 1051 = .ok (.iaload, 1) := by decide +kernel
theorem dL_law_1052 : decode code 1052 = .ok (.aload_n 0, 1) := by decide +kernel
theorem dL_law_1053 : decode code 1053 = .ok (.iload 4, 2) := by decide +kernel
