/-! the law's own instructions, part 2 (by program out of javap's listing) -/
theorem dW_263 : decode code 263 = .ok (.ldc2_w 75, 3) := by decide +kernel
theorem dW_266 : decode code 266 = .ok (.land, 1) := by decide +kernel
theorem dW_267 : decode code 267 = .ok (.lor, 1) := by decide +kernel
theorem dW_268 : decode code 268 = .ok (.invokevirtual 88, 3) := by decide +kernel
theorem dW_271 : decode code 271 = .ok (.istore 6, 2) := by decide +kernel
theorem dW_273 : decode code 273 = .ok (.aload_n 2, 1) := by decide +kernel
theorem dW_274 : decode code 274 = .ok (.invokevirtual 83, 3) := by decide +kernel
theorem dW_277 : decode code 277 = .ok (.iload 5, 2) := by decide +kernel
theorem dW_279 : decode code 279 = .ok (.if_icmp .eq 5, 3) := by decide +kernel
theorem dW_282 : decode code 282 = .ok (.iconst 0, 1) := by decide +kernel
theorem dW_283 : decode code 283 = .ok (.ireturn, 1) := by decide +kernel
theorem dW_284 : decode code 284 = .ok (.iload 5, 2) := by decide +kernel
theorem dW_286 : decode code 286 = .ok (.ifCond .ne 15, 3) := by decide +kernel
theorem dW_289 : decode code 289 = .ok (.aload_n 3, 1) := by decide +kernel
theorem dW_290 : decode code 290 = .ok (.iconst 0, 1) := by decide +kernel
theorem dW_291 : decode code 291 = .ok (.laload, 1) := by decide +kernel
theorem dW_292 : decode code 292 = .ok (.iload 6, 2) := by decide +kernel
theorem dW_294 : decode code 294 = .ok (.i2l, 1) := by decide +kernel
theorem dW_295 : decode code 295 = .ok (.lcmp, 1) := by decide +kernel
theorem dW_296 : decode code 296 = .ok (.ifCond .eq 5, 3) := by decide +kernel
theorem dW_299 : decode code 299 = .ok (.iconst 0, 1) := by decide +kernel
theorem dW_300 : decode code 300 = .ok (.ireturn, 1) := by decide +kernel
theorem dW_301 : decode code 301 = .ok (.goto 903, 3) := by decide +kernel
theorem dW_304 : decode code 304 = .ok (.aload_n 1, 1) := by decide +kernel
theorem dW_305 : decode code 305 = .ok (.aload_n 0, 1) := by decide +kernel
theorem dW_306 : decode code 306 = .ok (.iload 4, 2) := by decide +kernel
theorem dW_308 : decode code 308 = .ok (.iconst 1, 1) := by decide +kernel
theorem dW_309 : decode code 309 = .ok (.iadd, 1) := by decide +kernel
theorem dW_310 : decode code 310 = .ok (.iaload, 1) := by decide +kernel
theorem dW_311 : decode code 311 = .ok (.i2l, 1) := by decide +kernel
theorem dW_312 : decode code 312 = .ok (.bipush 32, 2) := by decide +kernel
theorem dW_314 : decode code 314 = .ok (.lshl, 1) := by decide +kernel
theorem dW_315 : decode code 315 = .ok (.aload_n 0, 1) := by decide +kernel
theorem dW_316 : decode code 316 = .ok (.iload 4, 2) := by decide +kernel
theorem dW_318 : decode code 318 = .ok (.iconst 2, 1) := by decide +kernel
theorem dW_319 : decode code 319 = .ok (.iadd, 1) := by decide +kernel
theorem dW_320 : decode code 320 = .ok (.iaload, 1) := by decide +kernel
theorem dW_321 : decode code 321 = .ok (.i2l, 1) := by decide +kernel
theorem dW_322 : decode code 322 = .ok (.ldc2_w 75, 3) := by decide +kernel
theorem dW_325 : decode code 325 = .ok (.land, 1) := by decide +kernel
theorem dW_326 : decode code 326 = .ok (.lor, 1) := by decide +kernel
theorem dW_327 : decode code 327 = .ok (.aload_n 3, 1) := by decide +kernel
theorem dW_328 : decode code 328 = .ok (.invokestatic 89, 3) := by decide +kernel
theorem dW_331 : decode code 331 = .ok (.istore 5, 2) := by decide +kernel
theorem dW_333 : decode code 333 = .ok (.aload_n 2, 1) := by decide +kernel
theorem dW_334 : decode code 334 = .ok (.aload_n 0, 1) := by decide +kernel
theorem dW_335 : decode code 335 = .ok (.iload 4, 2) := by decide +kernel
theorem dW_337 : decode code 337 = .ok (.iconst 1, 1) := by decide +kernel
theorem dW_338 : decode code 338 = .ok (.iadd, 1) := by decide +kernel
theorem dW_339 : decode code 339 = .ok (.iaload, 1) := by decide +kernel
theorem dW_340 : decode code 340 = .ok (.i2l, 1) := by decide +kernel
theorem dW_341 : decode code 341 = .ok (.bipush 32, 2) := by decide +kernel
theorem dW_343 : decode code 343 = .ok (.lshl, 1) := by decide +kernel
theorem dW_344 : decode code 344 = .ok (.aload_n 0, 1) := by decide +kernel
theorem dW_345 : decode code 345 = .ok (.iload 4, 2) := by decide +kernel
theorem dW_347 : decode code 347 = .ok (.iconst 2, 1) := by decide +kernel
theorem dW_348 : decode code 348 = .ok (.iadd, 1) := by decide +kernel
theorem dW_349 : decode code 349 = .ok (.iaload, 1) := by decide +kernel
theorem dW_350 : decode code 350 = .ok (.i2l, 1) := by decide +kernel
theorem dW_351 : decode code 351 = .ok (.ldc2_w 75, 3) := by decide +kernel
theorem dW_354 : decode code 354 = .ok (.land, 1) := by decide +kernel
theorem dW_355 : decode code 355 = .ok (.lor, 1) := by decide +kernel
theorem dW_356 : decode code 356 = .ok (.invokevirtual 91, 3) := by decide +kernel
theorem dW_359 : decode code 359 = .ok (.lstore 6, 2) := by decide +kernel
theorem dW_361 : decode code 361 = .ok (.aload_n 2, 1) := by decide +kernel
theorem dW_362 : decode code 362 = .ok (.invokevirtual 83, 3) := by decide +kernel
theorem dW_365 : decode code 365 = .ok (.iload 5, 2) := by decide +kernel
theorem dW_367 : decode code 367 = .ok (.if_icmp .eq 5, 3) := by decide +kernel
theorem dW_370 : decode code 370 = .ok (.iconst 0, 1) := by decide +kernel
theorem dW_371 : decode code 371 = .ok (.ireturn, 1) := by decide +kernel
theorem dW_372 : decode code 372 = .ok (.iload 5, 2) := by decide +kernel
theorem dW_374 : decode code 374 = .ok (.ifCond .ne 14, 3) := by decide +kernel
theorem dW_377 : decode code 377 = .ok (.aload_n 3, 1) := by decide +kernel
theorem dW_378 : decode code 378 = .ok (.iconst 0, 1) := by decide +kernel
theorem dW_379 : decode code 379 = .ok (.laload, 1) := by decide +kernel
theorem dW_380 : decode code 380 = .ok (.lload 6, 2) := by decide +kernel
theorem dW_382 : decode code 382 = .ok (.lcmp, 1) := by decide +kernel
theorem dW_383 : decode code 383 = .ok (.ifCond .eq 5, 3) := by decide +kernel
theorem dW_386 : decode code 386 = .ok (.iconst 0, 1) := by decide +kernel
theorem dW_387 : decode code 387 = .ok (.ireturn, 1) := by decide +kernel
theorem dW_388 : decode code 388 = .ok (.goto 816, 3) := by decide +kernel
theorem dW_391 : decode code 391 = .ok (.aload_n 1, 1) := by decide +kernel
theorem dW_392 : decode code 392 = .ok (.aload_n 0, 1) := by decide +kernel
theorem dW_393 : decode code 393 = .ok (.iload 4, 2) := by decide +kernel
theorem dW_395 : decode code 395 = .ok (.iconst 1, 1) := by decide +kernel
theorem dW_396 : decode code 396 = .ok (.iadd, 1) := by decide +kernel
theorem dW_397 : decode code 397 = .ok (.iaload, 1) := by decide +kernel
theorem dW_398 : decode code 398 = .ok (.aload_n 3, 1) := by decide +kernel
theorem dW_399 : decode code 399 = .ok (.invokestatic 92, 3) := by decide +kernel
theorem dW_402 : decode code 402 = .ok (.istore 5, 2) := by decide +kernel
theorem dW_404 : decode code 404 = .ok (.aload_n 2, 1) := by decide +kernel
theorem dW_405 : decode code 405 = .ok (.aload_n 0, 1) := by decide +kernel
theorem dW_406 : decode code 406 = .ok (.iload 4, 2) := by decide +kernel
theorem dW_408 : decode code 408 = .ok (.iconst 1, 1) := by decide +kernel
theorem dW_409 : decode code 409 = .ok (.iadd, 1) := by decide +kernel
theorem dW_410 : decode code 410 = .ok (.iaload, 1) := by decide +kernel
theorem dW_411 : decode code 411 = .ok (.invokevirtual 95, 3) := by decide +kernel
theorem dW_414 : decode code 414 = .ok (.istore 6, 2) := by decide +kernel
theorem dW_416 : decode code 416 = .ok (.aload_n 2, 1) := by decide +kernel
theorem dW_417 : decode code 417 = .ok (.invokevirtual 83, 3) := by decide +kernel
theorem dW_420 : decode code 420 = .ok (.iload 5, 2) := by decide +kernel
theorem dW_422 : decode code 422 = .ok (.if_icmp .eq 5, 3) := by decide +kernel
theorem dW_425 : decode code 425 = .ok (.iconst 0, 1) := by decide +kernel
theorem dW_426 : decode code 426 = .ok (.ireturn, 1) := by decide +kernel
theorem dW_427 : decode code 427 = .ok (.iload 5, 2) := by decide +kernel
theorem dW_429 : decode code 429 = .ok (.ifCond .ne 15, 3) := by decide +kernel
theorem dW_432 : decode code 432 = .ok (.aload_n 3, 1) := by decide +kernel
theorem dW_433 : decode code 433 = .ok (.iconst 0, 1) := by decide +kernel
theorem dW_434 : decode code 434 = .ok (.laload, 1) := by decide +kernel
theorem dW_435 : decode code 435 = .ok (.iload 6, 2) := by decide +kernel
theorem dW_437 : decode code 437 = .ok (.i2l, 1) := by decide +kernel
theorem dW_438 : decode code 438 = .ok (.lcmp, 1) := by decide +kernel
theorem dW_439 : decode code 439 = .ok (.ifCond .eq 5, 3) := by decide +kernel
theorem dW_442 : decode code 442 = .ok (.iconst 0, 1) := by decide +kernel
theorem dW_443 : decode code 443 = .ok (.ireturn, 1) := by decide +kernel
theorem dW_444 : decode code 444 = .ok (.goto 760, 3) := by decide +kernel
theorem dW_447 : decode code 447 = .ok (.aload_n 1, 1) := by decide +kernel
theorem dW_448 : decode code 448 = .ok (.aload_n 0, 1) := by decide +kernel
theorem dW_449 : decode code 449 = .ok (.iload 4, 2) := by decide +kernel
theorem dW_451 : decode code 451 = .ok (.iconst 1, 1) := by decide +kernel
