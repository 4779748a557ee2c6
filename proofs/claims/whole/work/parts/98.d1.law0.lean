theorem dL_law_0 : decode cL_law 0 = .ok (.new 8, 3) := dc_new (by decide +kernel) (a := 0) (b := 8) (by decide +kernel) (by decide +kernel) rfl
theorem dL_law_3 : decode cL_law 3 = .ok (.dup, 1) := dc_dup (by decide +kernel)
theorem dL_law_4 : decode cL_law 4 = .ok (.invokespecial 173, 3) := dc_invokespecial (by decide +kernel) (a := 0) (b := 173) (by decide +kernel) (by decide +kernel) rfl
theorem dL_law_7 : decode cL_law 7 = .ok (.astore_n 1, 1) := dc_astore_n_1 (by decide +kernel)
theorem dL_law_8 : decode cL_law 8 = .ok (.new 174, 3) := dc_new (by decide +kernel) (a := 0) (b := 174) (by decide +kernel) (by decide +kernel) rfl
theorem dL_law_11 : decode cL_law 11 = .ok (.dup, 1) := dc_dup (by decide +kernel)
theorem dL_law_12 : decode cL_law 12 = .ok (.invokespecial 176, 3) := dc_invokespecial (by decide +kernel) (a := 0) (b := 176) (by decide +kernel) (by decide +kernel) rfl
theorem dL_law_15 : decode cL_law 15 = .ok (.astore_n 2, 1) := dc_astore_n_2 (by decide +kernel)
theorem dL_law_16 : decode cL_law 16 = .ok (.iconst 1, 1) := dc_iconst_1 (by decide +kernel)
theorem dL_law_17 : decode cL_law 17 = .ok (.newarray .long, 2) := by decide +kernel
theorem dL_law_19 : decode cL_law 19 = .ok (.astore_n 3, 1) := dc_astore_n_3 (by decide +kernel)
theorem dL_law_20 : decode cL_law 20 = .ok (.iconst 0, 1) := dc_iconst_0 (by decide +kernel)
theorem dL_law_21 : decode cL_law 21 = .ok (.istore 4, 2) := dc_istore (by decide +kernel) (a := 4) (by decide +kernel) rfl
theorem dL_law_23 : decode cL_law 23 = .ok (.iload 4, 2) := dc_iload (by decide +kernel) (a := 4) (by decide +kernel) rfl
theorem dL_law_25 : decode cL_law 25 = .ok (.aload_n 0, 1) := dc_aload_n_0 (by decide +kernel)
theorem dL_law_26 : decode cL_law 26 = .ok (.arraylength, 1) := dc_arraylength (by decide +kernel)
theorem dL_law_27 : decode cL_law 27 = .ok (.bipush 7, 2) := dc_bipush (by decide +kernel) (a := 7) (by decide +kernel) (by decide)
theorem dL_law_29 : decode cL_law 29 = .ok (.isub, 1) := dc_isub (by decide +kernel)
theorem dL_law_30 : decode cL_law 30 = .ok (.if_icmp .gt 4527, 3) := dc_if_icmp_gt (by decide +kernel) (a := 17) (b := 175) (by decide +kernel) (by decide +kernel) (by decide)
theorem dL_law_33 : decode cL_law 33 = .ok (.aload_n 0, 1) := dc_aload_n_0 (by decide +kernel)
theorem dL_law_34 : decode cL_law 34 = .ok (.iload 4, 2) := dc_iload (by decide +kernel) (a := 4) (by decide +kernel) rfl
theorem dL_law_36 : decode cL_law 36 = .ok (.iaload, 1) := dc_iaload (by decide +kernel)
theorem dL_law_37 : decode cL_law 37 = .ok (.bipush 63, 2) := dc_bipush (by decide +kernel) (a := 63) (by decide +kernel) (by decide)
theorem dL_law_39 : decode cL_law 39 = .ok (.iand, 1) := dc_iand (by decide +kernel)
theorem dL_law_40 : decode cL_law 40 = .ok (.tableswitch 4511 0 51 #[224, 280, 360, 373, 429, 497, 577, 657, 753, 844, 904, 979, 1047, 1127, 1211, 1247, 1295, 1419, 1571, 1667, 1751, 1847, 1955, 2071, 2199, 2327, 2481, 2565, 2606, 2674, 2782, 2862, 2942, 3022, 3097, 3138, 3229, 3317, 3401, 3541, 3665, 3785, 3858, 3914, 3939, 4014, 4063, 4119, 4179, 4290, 4358, 4486], 224) := by decide +kernel
theorem dL_law_264 : decode cL_law 264 = .ok (.aload_n 1, 1) := dc_aload_n_1 (by decide +kernel)
theorem dL_law_265 : decode cL_law 265 = .ok (.aload_n 0, 1) := dc_aload_n_0 (by decide +kernel)
theorem dL_law_266 : decode cL_law 266 = .ok (.iload 4, 2) := dc_iload (by decide +kernel) (a := 4) (by decide +kernel) rfl
theorem dL_law_268 : decode cL_law 268 = .ok (.iconst 1, 1) := dc_iconst_1 (by decide +kernel)
theorem dL_law_269 : decode cL_law 269 = .ok (.iadd, 1) := dc_iadd (by decide +kernel)
theorem dL_law_270 : decode cL_law 270 = .ok (.iaload, 1) := dc_iaload (by decide +kernel)
theorem dL_law_271 : decode cL_law 271 = .ok (.aload_n 3, 1) := dc_aload_n_3 (by decide +kernel)
theorem dL_law_272 : decode cL_law 272 = .ok (.invokestatic 177, 3) := dc_invokestatic (by decide +kernel) (a := 0) (b := 177) (by decide +kernel) (by decide +kernel) rfl
theorem dL_law_275 : decode cL_law 275 = .ok (.istore 5, 2) := dc_istore (by decide +kernel) (a := 5) (by decide +kernel) rfl
theorem dL_law_277 : decode cL_law 277 = .ok (.aload_n 2, 1) := dc_aload_n_2 (by decide +kernel)
theorem dL_law_278 : decode cL_law 278 = .ok (.aload_n 0, 1) := dc_aload_n_0 (by decide +kernel)
theorem dL_law_279 : decode cL_law 279 = .ok (.iload 4, 2) := dc_iload (by decide +kernel) (a := 4) (by decide +kernel) rfl
theorem dL_law_281 : decode cL_law 281 = .ok (.iconst 1, 1) := dc_iconst_1 (by decide +kernel)
theorem dL_law_282 : decode cL_law 282 = .ok (.iadd, 1) := dc_iadd (by decide +kernel)
theorem dL_law_283 : decode cL_law 283 = .ok (.iaload, 1) := dc_iaload (by decide +kernel)
theorem dL_law_284 : decode cL_law 284 = .ok (.invokevirtual 182, 3) := dc_invokevirtual (by decide +kernel) (a := 0) (b := 182) (by decide +kernel) (by decide +kernel) rfl
theorem dL_law_287 : decode cL_law 287 = .ok (.istore 6, 2) := dc_istore (by decide +kernel) (a := 6) (by decide +kernel) rfl
theorem dL_law_289 : decode cL_law 289 = .ok (.aload_n 2, 1) := dc_aload_n_2 (by decide +kernel)
theorem dL_law_290 : decode cL_law 290 = .ok (.invokevirtual 183, 3) := dc_invokevirtual (by decide +kernel) (a := 0) (b := 183) (by decide +kernel) (by decide +kernel) rfl
theorem dL_law_293 : decode cL_law 293 = .ok (.iload 5, 2) := dc_iload (by decide +kernel) (a := 5) (by decide +kernel) rfl
theorem dL_law_295 : decode cL_law 295 = .ok (.if_icmp .eq 5, 3) := dc_if_icmp_eq (by decide +kernel) (a := 0) (b := 5) (by decide +kernel) (by decide +kernel) (by decide)
theorem dL_law_298 : decode cL_law 298 = .ok (.iconst 0, 1) := dc_iconst_0 (by decide +kernel)
theorem dL_law_299 : decode cL_law 299 = .ok (.ireturn, 1) := dc_ireturn (by decide +kernel)
theorem dL_law_300 : decode cL_law 300 = .ok (.iload 5, 2) := dc_iload (by decide +kernel) (a := 5) (by decide +kernel) rfl
theorem dL_law_302 : decode cL_law 302 = .ok (.ifCond .ne 15, 3) := dc_ifCond_ne (by decide +kernel) (a := 0) (b := 15) (by decide +kernel) (by decide +kernel) (by decide)
theorem dL_law_305 : decode cL_law 305 = .ok (.aload_n 3, 1) := dc_aload_n_3 (by decide +kernel)
theorem dL_law_306 : decode cL_law 306 = .ok (.iconst 0, 1) := dc_iconst_0 (by decide +kernel)
theorem dL_law_307 : decode cL_law 307 = .ok (.laload, 1) := dc_laload (by decide +kernel)
theorem dL_law_308 : decode cL_law 308 = .ok (.iload 6, 2) := dc_iload (by decide +kernel) (a := 6) (by decide +kernel) rfl
theorem dL_law_310 : decode cL_law 310 = .ok (.i2l, 1) := dc_i2l (by decide +kernel)
theorem dL_law_311 : decode cL_law 311 = .ok (.lcmp, 1) := dc_lcmp (by decide +kernel)
theorem dL_law_312 : decode cL_law 312 = .ok (.ifCond .eq 5, 3) := dc_ifCond_eq (by decide +kernel) (a := 0) (b := 5) (by decide +kernel) (by decide +kernel) (by decide)
theorem dL_law_315 : decode cL_law 315 = .ok (.iconst 0, 1) := dc_iconst_0 (by decide +kernel)
theorem dL_law_316 : decode cL_law 316 = .ok (.ireturn, 1) := dc_ireturn (by decide +kernel)
theorem dL_law_317 : decode cL_law 317 = .ok (.goto 4234, 3) := dc_goto (by decide +kernel) (a := 16) (b := 138) (by decide +kernel) (by decide +kernel) (by decide)
theorem dL_law_320 : decode cL_law 320 = .ok (.aload_n 1, 1) := dc_aload_n_1 (by decide +kernel)
theorem dL_law_321 : decode cL_law 321 = .ok (.aload_n 0, 1) := dc_aload_n_0 (by decide +kernel)
theorem dL_law_322 : decode cL_law 322 = .ok (.iload 4, 2) := dc_iload (by decide +kernel) (a := 4) (by decide +kernel) rfl
theorem dL_law_324 : decode cL_law 324 = .ok (.iconst 1, 1) := dc_iconst_1 (by decide +kernel)
theorem dL_law_325 : decode cL_law 325 = .ok (.iadd, 1) := dc_iadd (by decide +kernel)
theorem dL_law_326 : decode cL_law 326 = .ok (.iaload, 1) := dc_iaload (by decide +kernel)
theorem dL_law_327 : decode cL_law 327 = .ok (.aload_n 0, 1) := dc_aload_n_0 (by decide +kernel)
theorem dL_law_328 : decode cL_law 328 = .ok (.iload 4, 2) := dc_iload (by decide +kernel) (a := 4) (by decide +kernel) rfl
theorem dL_law_330 : decode cL_law 330 = .ok (.iconst 2, 1) := dc_iconst_2 (by decide +kernel)
theorem dL_law_331 : decode cL_law 331 = .ok (.iadd, 1) := dc_iadd (by decide +kernel)
theorem dL_law_332 : decode cL_law 332 = .ok (.iaload, 1) := dc_iaload (by decide +kernel)
theorem dL_law_333 : decode cL_law 333 = .ok (.aload_n 0, 1) := dc_aload_n_0 (by decide +kernel)
theorem dL_law_334 : decode cL_law 334 = .ok (.iload 4, 2) := dc_iload (by decide +kernel) (a := 4) (by decide +kernel) rfl
theorem dL_law_336 : decode cL_law 336 = .ok (.iconst 3, 1) := dc_iconst_3 (by decide +kernel)
theorem dL_law_337 : decode cL_law 337 = .ok (.iadd, 1) := dc_iadd (by decide +kernel)
theorem dL_law_338 : decode cL_law 338 = .ok (.iaload, 1) := dc_iaload (by decide +kernel)
theorem dL_law_339 : decode cL_law 339 = .ok (.aload_n 3, 1) := dc_aload_n_3 (by decide +kernel)
theorem dL_law_340 : decode cL_law 340 = .ok (.invokestatic 187, 3) := dc_invokestatic (by decide +kernel) (a := 0) (b := 187) (by decide +kernel) (by decide +kernel) rfl
theorem dL_law_343 : decode cL_law 343 = .ok (.istore 5, 2) := dc_istore (by decide +kernel) (a := 5) (by decide +kernel) rfl
theorem dL_law_345 : decode cL_law 345 = .ok (.aload_n 2, 1) := dc_aload_n_2 (by decide +kernel)
theorem dL_law_346 : decode cL_law 346 = .ok (.aload_n 0, 1) := dc_aload_n_0 (by decide +kernel)
theorem dL_law_347 : decode cL_law 347 = .ok (.iload 4, 2) := dc_iload (by decide +kernel) (a := 4) (by decide +kernel) rfl
theorem dL_law_349 : decode cL_law 349 = .ok (.iconst 1, 1) := dc_iconst_1 (by decide +kernel)
theorem dL_law_350 : decode cL_law 350 = .ok (.iadd, 1) := dc_iadd (by decide +kernel)
theorem dL_law_351 : decode cL_law 351 = .ok (.iaload, 1) := dc_iaload (by decide +kernel)
theorem dL_law_352 : decode cL_law 352 = .ok (.aload_n 0, 1) := dc_aload_n_0 (by decide +kernel)
theorem dL_law_353 : decode cL_law 353 = .ok (.iload 4, 2) := dc_iload (by decide +kernel) (a := 4) (by decide +kernel) rfl
theorem dL_law_355 : decode cL_law 355 = .ok (.iconst 2, 1) := dc_iconst_2 (by decide +kernel)
theorem dL_law_356 : decode cL_law 356 = .ok (.iadd, 1) := dc_iadd (by decide +kernel)
theorem dL_law_357 : decode cL_law 357 = .ok (.iaload, 1) := dc_iaload (by decide +kernel)
theorem dL_law_358 : decode cL_law 358 = .ok (.aload_n 0, 1) := dc_aload_n_0 (by decide +kernel)
theorem dL_law_359 : decode cL_law 359 = .ok (.iload 4, 2) := dc_iload (by decide +kernel) (a := 4) (by decide +kernel) rfl
theorem dL_law_361 : decode cL_law 361 = .ok (.iconst 3, 1) := dc_iconst_3 (by decide +kernel)
theorem dL_law_362 : decode cL_law 362 = .ok (.iadd, 1) := dc_iadd (by decide +kernel)
theorem dL_law_363 : decode cL_law 363 = .ok (.iaload, 1) := dc_iaload (by decide +kernel)
theorem dL_law_364 : decode cL_law 364 = .ok (.invokevirtual 190, 3) := dc_invokevirtual (by decide +kernel) (a := 0) (b := 190) (by decide +kernel) (by decide +kernel) rfl
theorem dL_law_367 : decode cL_law 367 = .ok (.istore 6, 2) := dc_istore (by decide +kernel) (a := 6) (by decide +kernel) rfl
theorem dL_law_369 : decode cL_law 369 = .ok (.aload_n 2, 1) := dc_aload_n_2 (by decide +kernel)
theorem dL_law_370 : decode cL_law 370 = .ok (.invokevirtual 183, 3) := dc_invokevirtual (by decide +kernel) (a := 0) (b := 183) (by decide +kernel) (by decide +kernel) rfl
theorem dL_law_373 : decode cL_law 373 = .ok (.iload 5, 2) := dc_iload (by decide +kernel) (a := 5) (by decide +kernel) rfl
theorem dL_law_375 : decode cL_law 375 = .ok (.if_icmp .eq 5, 3) := dc_if_icmp_eq (by decide +kernel) (a := 0) (b := 5) (by decide +kernel) (by decide +kernel) (by decide)
theorem dL_law_378 : decode cL_law 378 = .ok (.iconst 0, 1) := dc_iconst_0 (by decide +kernel)
theorem dL_law_379 : decode cL_law 379 = .ok (.ireturn, 1) := dc_ireturn (by decide +kernel)
theorem dL_law_380 : decode cL_law 380 = .ok (.iload 5, 2) := dc_iload (by decide +kernel) (a := 5) (by decide +kernel) rfl
theorem dL_law_382 : decode cL_law 382 = .ok (.ifCond .ne 15, 3) := dc_ifCond_ne (by decide +kernel) (a := 0) (b := 15) (by decide +kernel) (by decide +kernel) (by decide)
theorem dL_law_385 : decode cL_law 385 = .ok (.aload_n 3, 1) := dc_aload_n_3 (by decide +kernel)
theorem dL_law_386 : decode cL_law 386 = .ok (.iconst 0, 1) := dc_iconst_0 (by decide +kernel)
theorem dL_law_387 : decode cL_law 387 = .ok (.laload, 1) := dc_laload (by decide +kernel)
theorem dL_law_388 : decode cL_law 388 = .ok (.iload 6, 2) := dc_iload (by decide +kernel) (a := 6) (by decide +kernel) rfl
theorem dL_law_390 : decode cL_law 390 = .ok (.i2l, 1) := dc_i2l (by decide +kernel)
theorem dL_law_391 : decode cL_law 391 = .ok (.lcmp, 1) := dc_lcmp (by decide +kernel)
theorem dL_law_392 : decode cL_law 392 = .ok (.ifCond .eq 5, 3) := dc_ifCond_eq (by decide +kernel) (a := 0) (b := 5) (by decide +kernel) (by decide +kernel) (by decide)
theorem dL_law_395 : decode cL_law 395 = .ok (.iconst 0, 1) := dc_iconst_0 (by decide +kernel)
theorem dL_law_396 : decode cL_law 396 = .ok (.ireturn, 1) := dc_ireturn (by decide +kernel)
theorem dL_law_397 : decode cL_law 397 = .ok (.goto 4154, 3) := dc_goto (by decide +kernel) (a := 16) (b := 58) (by decide +kernel) (by decide +kernel) (by decide)
theorem dL_law_400 : decode cL_law 400 = .ok (.aload_n 1, 1) := dc_aload_n_1 (by decide +kernel)
theorem dL_law_401 : decode cL_law 401 = .ok (.invokevirtual 191, 3) := dc_invokevirtual (by decide +kernel) (a := 0) (b := 191) (by decide +kernel) (by decide +kernel) rfl
theorem dL_law_404 : decode cL_law 404 = .ok (.aload_n 2, 1) := dc_aload_n_2 (by decide +kernel)
theorem dL_law_405 : decode cL_law 405 = .ok (.invokevirtual 194, 3) := dc_invokevirtual (by decide +kernel) (a := 0) (b := 194) (by decide +kernel) (by decide +kernel) rfl
theorem dL_law_408 : decode cL_law 408 = .ok (.if_icmp .eq 4143, 3) := dc_if_icmp_eq (by decide +kernel) (a := 16) (b := 47) (by decide +kernel) (by decide +kernel) (by decide)
theorem dL_law_411 : decode cL_law 411 = .ok (.iconst 0, 1) := dc_iconst_0 (by decide +kernel)
theorem dL_law_412 : decode cL_law 412 = .ok (.ireturn, 1) := dc_ireturn (by decide +kernel)
theorem dL_law_413 : decode cL_law 413 = .ok (.aload_n 1, 1) := dc_aload_n_1 (by decide +kernel)
theorem dL_law_414 : decode cL_law 414 = .ok (.aload_n 0, 1) := dc_aload_n_0 (by decide +kernel)
theorem dL_law_415 : decode cL_law 415 = .ok (.iload 4, 2) := dc_iload (by decide +kernel) (a := 4) (by decide +kernel) rfl
theorem dL_law_417 : decode cL_law 417 = .ok (.iconst 1, 1) := dc_iconst_1 (by decide +kernel)
theorem dL_law_418 : decode cL_law 418 = .ok (.iadd, 1) := dc_iadd (by decide +kernel)
theorem dL_law_419 : decode cL_law 419 = .ok (.iaload, 1) := dc_iaload (by decide +kernel)
theorem dL_law_420 : decode cL_law 420 = .ok (.aload_n 3, 1) := dc_aload_n_3 (by decide +kernel)
theorem dL_law_421 : decode cL_law 421 = .ok (.invokestatic 195, 3) := dc_invokestatic (by decide +kernel) (a := 0) (b := 195) (by decide +kernel) (by decide +kernel) rfl
theorem dL_law_424 : decode cL_law 424 = .ok (.istore 5, 2) := dc_istore (by decide +kernel) (a := 5) (by decide +kernel) rfl
theorem dL_law_426 : decode cL_law 426 = .ok (.aload_n 2, 1) := dc_aload_n_2 (by decide +kernel)
theorem dL_law_427 : decode cL_law 427 = .ok (.aload_n 0, 1) := dc_aload_n_0 (by decide +kernel)
theorem dL_law_428 : decode cL_law 428 = .ok (.iload 4, 2) := dc_iload (by decide +kernel) (a := 4) (by decide +kernel) rfl
theorem dL_law_430 : decode cL_law 430 = .ok (.iconst 1, 1) := dc_iconst_1 (by decide +kernel)
theorem dL_law_431 : decode cL_law 431 = .ok (.iadd, 1) := dc_iadd (by decide +kernel)
theorem dL_law_432 : decode cL_law 432 = .ok (.iaload, 1) := dc_iaload (by decide +kernel)
theorem dL_law_433 : decode cL_law 433 = .ok (.invokevirtual 197, 3) := dc_invokevirtual (by decide +kernel) (a := 0) (b := 197) (by decide +kernel) (by decide +kernel) rfl
theorem dL_law_436 : decode cL_law 436 = .ok (.istore 6, 2) := dc_istore (by decide +kernel) (a := 6) (by decide +kernel) rfl
theorem dL_law_438 : decode cL_law 438 = .ok (.aload_n 2, 1) := dc_aload_n_2 (by decide +kernel)
theorem dL_law_439 : decode cL_law 439 = .ok (.invokevirtual 183, 3) := dc_invokevirtual (by decide +kernel) (a := 0) (b := 183) (by decide +kernel) (by decide +kernel) rfl
theorem dL_law_442 : decode cL_law 442 = .ok (.iload 5, 2) := dc_iload (by decide +kernel) (a := 5) (by decide +kernel) rfl
theorem dL_law_444 : decode cL_law 444 = .ok (.if_icmp .eq 5, 3) := dc_if_icmp_eq (by decide +kernel) (a := 0) (b := 5) (by decide +kernel) (by decide +kernel) (by decide)
theorem dL_law_447 : decode cL_law 447 = .ok (.iconst 0, 1) := dc_iconst_0 (by decide +kernel)
theorem dL_law_448 : decode cL_law 448 = .ok (.ireturn, 1) := dc_ireturn (by decide +kernel)
theorem dL_law_449 : decode cL_law 449 = .ok (.iload 5, 2) := dc_iload (by decide +kernel) (a := 5) (by decide +kernel) rfl
theorem dL_law_451 : decode cL_law 451 = .ok (.ifCond .ne 15, 3) := dc_ifCond_ne (by decide +kernel) (a := 0) (b := 15) (by decide +kernel) (by decide +kernel) (by decide)
theorem dL_law_454 : decode cL_law 454 = .ok (.aload_n 3, 1) := dc_aload_n_3 (by decide +kernel)
theorem dL_law_455 : decode cL_law 455 = .ok (.iconst 0, 1) := dc_iconst_0 (by decide +kernel)
theorem dL_law_456 : decode cL_law 456 = .ok (.laload, 1) := dc_laload (by decide +kernel)
theorem dL_law_457 : decode cL_law 457 = .ok (.iload 6, 2) := dc_iload (by decide +kernel) (a := 6) (by decide +kernel) rfl
theorem dL_law_459 : decode cL_law 459 = .ok (.i2l, 1) := dc_i2l (by decide +kernel)
theorem dL_law_460 : decode cL_law 460 = .ok (.lcmp, 1) := dc_lcmp (by decide +kernel)
theorem dL_law_461 : decode cL_law 461 = .ok (.ifCond .eq 5, 3) := dc_ifCond_eq (by decide +kernel) (a := 0) (b := 5) (by decide +kernel) (by decide +kernel) (by decide)
theorem dL_law_464 : decode cL_law 464 = .ok (.iconst 0, 1) := dc_iconst_0 (by decide +kernel)
theorem dL_law_465 : decode cL_law 465 = .ok (.ireturn, 1) := dc_ireturn (by decide +kernel)
theorem dL_law_466 : decode cL_law 466 = .ok (.goto 4085, 3) := dc_goto (by decide +kernel) (a := 15) (b := 245) (by decide +kernel) (by decide +kernel) (by decide)
theorem dL_law_469 : decode cL_law 469 = .ok (.aload_n 1, 1) := dc_aload_n_1 (by decide +kernel)
theorem dL_law_470 : decode cL_law 470 = .ok (.aload_n 0, 1) := dc_aload_n_0 (by decide +kernel)
theorem dL_law_471 : decode cL_law 471 = .ok (.iload 4, 2) := dc_iload (by decide +kernel) (a := 4) (by decide +kernel) rfl
theorem dL_law_473 : decode cL_law 473 = .ok (.iconst 1, 1) := dc_iconst_1 (by decide +kernel)
theorem dL_law_474 : decode cL_law 474 = .ok (.iadd, 1) := dc_iadd (by decide +kernel)
theorem dL_law_475 : decode cL_law 475 = .ok (.iaload, 1) := dc_iaload (by decide +kernel)
theorem dL_law_476 : decode cL_law 476 = .ok (.aload_n 0, 1) := dc_aload_n_0 (by decide +kernel)
theorem dL_law_477 : decode cL_law 477 = .ok (.iload 4, 2) := dc_iload (by decide +kernel) (a := 4) (by decide +kernel) rfl
theorem dL_law_479 : decode cL_law 479 = .ok (.iconst 2, 1) := dc_iconst_2 (by decide +kernel)
theorem dL_law_480 : decode cL_law 480 = .ok (.iadd, 1) := dc_iadd (by decide +kernel)
theorem dL_law_481 : decode cL_law 481 = .ok (.iaload, 1) := dc_iaload (by decide +kernel)
theorem dL_law_482 : decode cL_law 482 = .ok (.aload_n 3, 1) := dc_aload_n_3 (by decide +kernel)
theorem dL_law_483 : decode cL_law 483 = .ok (.invokestatic 198, 3) := dc_invokestatic (by decide +kernel) (a := 0) (b := 198) (by decide +kernel) (by decide +kernel) rfl
theorem dL_law_486 : decode cL_law 486 = .ok (.istore 5, 2) := dc_istore (by decide +kernel) (a := 5) (by decide +kernel) rfl
theorem dL_law_488 : decode cL_law 488 = .ok (.aload_n 2, 1) := dc_aload_n_2 (by decide +kernel)
theorem dL_law_489 : decode cL_law 489 = .ok (.aload_n 0, 1) := dc_aload_n_0 (by decide +kernel)
theorem dL_law_490 : decode cL_law 490 = .ok (.iload 4, 2) := dc_iload (by decide +kernel) (a := 4) (by decide +kernel) rfl
theorem dL_law_492 : decode cL_law 492 = .ok (.iconst 1, 1) := dc_iconst_1 (by decide +kernel)
theorem dL_law_493 : decode cL_law 493 = .ok (.iadd, 1) := dc_iadd (by decide +kernel)
theorem dL_law_494 : decode cL_law 494 = .ok (.iaload, 1) := dc_iaload (by decide +kernel)
theorem dL_law_495 : decode cL_law 495 = .ok (.aload_n 0, 1) := dc_aload_n_0 (by decide +kernel)
theorem dL_law_496 : decode cL_law 496 = .ok (.iload 4, 2) := dc_iload (by decide +kernel) (a := 4) (by decide +kernel) rfl
theorem dL_law_498 : decode cL_law 498 = .ok (.iconst 2, 1) := dc_iconst_2 (by decide +kernel)
theorem dL_law_499 : decode cL_law 499 = .ok (.iadd, 1) := dc_iadd (by decide +kernel)
theorem dL_law_500 : decode cL_law 500 = .ok (.iaload, 1) := dc_iaload (by decide +kernel)
theorem dL_law_501 : decode cL_law 501 = .ok (.invokevirtual 201, 3) := dc_invokevirtual (by decide +kernel) (a := 0) (b := 201) (by decide +kernel) (by decide +kernel) rfl
theorem dL_law_504 : decode cL_law 504 = .ok (.istore 6, 2) := dc_istore (by decide +kernel) (a := 6) (by decide +kernel) rfl
theorem dL_law_506 : decode cL_law 506 = .ok (.aload_n 2, 1) := dc_aload_n_2 (by decide +kernel)
theorem dL_law_507 : decode cL_law 507 = .ok (.invokevirtual 183, 3) := dc_invokevirtual (by decide +kernel) (a := 0) (b := 183) (by decide +kernel) (by decide +kernel) rfl
theorem dL_law_510 : decode cL_law 510 = .ok (.iload 5, 2) := dc_iload (by decide +kernel) (a := 5) (by decide +kernel) rfl
theorem dL_law_512 : decode cL_law 512 = .ok (.if_icmp .eq 5, 3) := dc_if_icmp_eq (by decide +kernel) (a := 0) (b := 5) (by decide +kernel) (by decide +kernel) (by decide)
theorem dL_law_515 : decode cL_law 515 = .ok (.iconst 0, 1) := dc_iconst_0 (by decide +kernel)
theorem dL_law_516 : decode cL_law 516 = .ok (.ireturn, 1) := dc_ireturn (by decide +kernel)
theorem dL_law_517 : decode cL_law 517 = .ok (.iload 5, 2) := dc_iload (by decide +kernel) (a := 5) (by decide +kernel) rfl
theorem dL_law_519 : decode cL_law 519 = .ok (.ifCond .ne 15, 3) := dc_ifCond_ne (by decide +kernel) (a := 0) (b := 15) (by decide +kernel) (by decide +kernel) (by decide)
theorem dL_law_522 : decode cL_law 522 = .ok (.aload_n 3, 1) := dc_aload_n_3 (by decide +kernel)
theorem dL_law_523 : decode cL_law 523 = .ok (.iconst 0, 1) := dc_iconst_0 (by decide +kernel)
theorem dL_law_524 : decode cL_law 524 = .ok (.laload, 1) := dc_laload (by decide +kernel)
theorem dL_law_525 : decode cL_law 525 = .ok (.iload 6, 2) := dc_iload (by decide +kernel) (a := 6) (by decide +kernel) rfl
theorem dL_law_527 : decode cL_law 527 = .ok (.i2l, 1) := dc_i2l (by decide +kernel)
theorem dL_law_528 : decode cL_law 528 = .ok (.lcmp, 1) := dc_lcmp (by decide +kernel)
theorem dL_law_529 : decode cL_law 529 = .ok (.ifCond .eq 5, 3) := dc_ifCond_eq (by decide +kernel) (a := 0) (b := 5) (by decide +kernel) (by decide +kernel) (by decide)
theorem dL_law_532 : decode cL_law 532 = .ok (.iconst 0, 1) := dc_iconst_0 (by decide +kernel)
theorem dL_law_533 : decode cL_law 533 = .ok (.ireturn, 1) := dc_ireturn (by decide +kernel)
theorem dL_law_534 : decode cL_law 534 = .ok (.goto 4017, 3) := dc_goto (by decide +kernel) (a := 15) (b := 177) (by decide +kernel) (by decide +kernel) (by decide)
theorem dL_law_537 : decode cL_law 537 = .ok (.aload_n 1, 1) := dc_aload_n_1 (by decide +kernel)
theorem dL_law_538 : decode cL_law 538 = .ok (.aload_n 0, 1) := dc_aload_n_0 (by decide +kernel)
theorem dL_law_539 : decode cL_law 539 = .ok (.iload 4, 2) := dc_iload (by decide +kernel) (a := 4) (by decide +kernel) rfl
theorem dL_law_541 : decode cL_law 541 = .ok (.iconst 1, 1) := dc_iconst_1 (by decide +kernel)
theorem dL_law_542 : decode cL_law 542 = .ok (.iadd, 1) := dc_iadd (by decide +kernel)
theorem dL_law_543 : decode cL_law 543 = .ok (.iaload, 1) := dc_iaload (by decide +kernel)
theorem dL_law_544 : decode cL_law 544 = .ok (.aload_n 0, 1) := dc_aload_n_0 (by decide +kernel)
theorem dL_law_545 : decode cL_law 545 = .ok (.iload 4, 2) := dc_iload (by decide +kernel) (a := 4) (by decide +kernel) rfl
theorem dL_law_547 : decode cL_law 547 = .ok (.iconst 2, 1) := dc_iconst_2 (by decide +kernel)
theorem dL_law_548 : decode cL_law 548 = .ok (.iadd, 1) := dc_iadd (by decide +kernel)
theorem dL_law_549 : decode cL_law 549 = .ok (.iaload, 1) := dc_iaload (by decide +kernel)
theorem dL_law_550 : decode cL_law 550 = .ok (.aload_n 0, 1) := dc_aload_n_0 (by decide +kernel)
theorem dL_law_551 : decode cL_law 551 = .ok (.iload 4, 2) := dc_iload (by decide +kernel) (a := 4) (by decide +kernel) rfl
theorem dL_law_553 : decode cL_law 553 = .ok (.iconst 3, 1) := dc_iconst_3 (by decide +kernel)
theorem dL_law_554 : decode cL_law 554 = .ok (.iadd, 1) := dc_iadd (by decide +kernel)
theorem dL_law_555 : decode cL_law 555 = .ok (.iaload, 1) := dc_iaload (by decide +kernel)
theorem dL_law_556 : decode cL_law 556 = .ok (.aload_n 3, 1) := dc_aload_n_3 (by decide +kernel)
theorem dL_law_557 : decode cL_law 557 = .ok (.invokestatic 202, 3) := dc_invokestatic (by decide +kernel) (a := 0) (b := 202) (by decide +kernel) (by decide +kernel) rfl
theorem dL_law_560 : decode cL_law 560 = .ok (.istore 5, 2) := dc_istore (by decide +kernel) (a := 5) (by decide +kernel) rfl
theorem dL_law_562 : decode cL_law 562 = .ok (.aload_n 2, 1) := dc_aload_n_2 (by decide +kernel)
theorem dL_law_563 : decode cL_law 563 = .ok (.aload_n 0, 1) := dc_aload_n_0 (by decide +kernel)
theorem dL_law_564 : decode cL_law 564 = .ok (.iload 4, 2) := dc_iload (by decide +kernel) (a := 4) (by decide +kernel) rfl
theorem dL_law_566 : decode cL_law 566 = .ok (.iconst 1, 1) := dc_iconst_1 (by decide +kernel)
theorem dL_law_567 : decode cL_law 567 = .ok (.iadd, 1) := dc_iadd (by decide +kernel)
theorem dL_law_568 : decode cL_law 568 = .ok (.iaload, 1) := dc_iaload (by decide +kernel)
theorem dL_law_569 : decode cL_law 569 = .ok (.aload_n 0, 1) := dc_aload_n_0 (by decide +kernel)
theorem dL_law_570 : decode cL_law 570 = .ok (.iload 4, 2) := dc_iload (by decide +kernel) (a := 4) (by decide +kernel) rfl
theorem dL_law_572 : decode cL_law 572 = .ok (.iconst 2, 1) := dc_iconst_2 (by decide +kernel)
theorem dL_law_573 : decode cL_law 573 = .ok (.iadd, 1) := dc_iadd (by decide +kernel)
theorem dL_law_574 : decode cL_law 574 = .ok (.iaload, 1) := dc_iaload (by decide +kernel)
theorem dL_law_575 : decode cL_law 575 = .ok (.aload_n 0, 1) := dc_aload_n_0 (by decide +kernel)
theorem dL_law_576 : decode cL_law 576 = .ok (.iload 4, 2) := dc_iload (by decide +kernel) (a := 4) (by decide +kernel) rfl
theorem dL_law_578 : decode cL_law 578 = .ok (.iconst 3, 1) := dc_iconst_3 (by decide +kernel)
theorem dL_law_579 : decode cL_law 579 = .ok (.iadd, 1) := dc_iadd (by decide +kernel)
theorem dL_law_580 : decode cL_law 580 = .ok (.iaload, 1) := dc_iaload (by decide +kernel)
theorem dL_law_581 : decode cL_law 581 = .ok (.invokevirtual 204, 3) := dc_invokevirtual (by decide +kernel) (a := 0) (b := 204) (by decide +kernel) (by decide +kernel) rfl
theorem dL_law_584 : decode cL_law 584 = .ok (.istore 6, 2) := dc_istore (by decide +kernel) (a := 6) (by decide +kernel) rfl
theorem dL_law_586 : decode cL_law 586 = .ok (.aload_n 2, 1) := dc_aload_n_2 (by decide +kernel)
theorem dL_law_587 : decode cL_law 587 = .ok (.invokevirtual 183, 3) := dc_invokevirtual (by decide +kernel) (a := 0) (b := 183) (by decide +kernel) (by decide +kernel) rfl
theorem dL_law_590 : decode cL_law 590 = .ok (.iload 5, 2) := dc_iload (by decide +kernel) (a := 5) (by decide +kernel) rfl
theorem dL_law_592 : decode cL_law 592 = .ok (.if_icmp .eq 5, 3) := dc_if_icmp_eq (by decide +kernel) (a := 0) (b := 5) (by decide +kernel) (by decide +kernel) (by decide)
theorem dL_law_595 : decode cL_law 595 = .ok (.iconst 0, 1) := dc_iconst_0 (by decide +kernel)
theorem dL_law_596 : decode cL_law 596 = .ok (.ireturn, 1) := dc_ireturn (by decide +kernel)
theorem dL_law_597 : decode cL_law 597 = .ok (.iload 5, 2) := dc_iload (by decide +kernel) (a := 5) (by decide +kernel) rfl
theorem dL_law_599 : decode cL_law 599 = .ok (.ifCond .ne 15, 3) := dc_ifCond_ne (by decide +kernel) (a := 0) (b := 15) (by decide +kernel) (by decide +kernel) (by decide)
theorem dL_law_602 : decode cL_law 602 = .ok (.aload_n 3, 1) := dc_aload_n_3 (by decide +kernel)
theorem dL_law_603 : decode cL_law 603 = .ok (.iconst 0, 1) := dc_iconst_0 (by decide +kernel)
theorem dL_law_604 : decode cL_law 604 = .ok (.laload, 1) := dc_laload (by decide +kernel)
theorem dL_law_605 : decode cL_law 605 = .ok (.iload 6, 2) := dc_iload (by decide +kernel) (a := 6) (by decide +kernel) rfl
theorem dL_law_607 : decode cL_law 607 = .ok (.i2l, 1) := dc_i2l (by decide +kernel)
theorem dL_law_608 : decode cL_law 608 = .ok (.lcmp, 1) := dc_lcmp (by decide +kernel)
theorem dL_law_609 : decode cL_law 609 = .ok (.ifCond .eq 5, 3) := dc_ifCond_eq (by decide +kernel) (a := 0) (b := 5) (by decide +kernel) (by decide +kernel) (by decide)
theorem dL_law_612 : decode cL_law 612 = .ok (.iconst 0, 1) := dc_iconst_0 (by decide +kernel)
theorem dL_law_613 : decode cL_law 613 = .ok (.ireturn, 1) := dc_ireturn (by decide +kernel)
theorem dL_law_614 : decode cL_law 614 = .ok (.goto 3937, 3) := dc_goto (by decide +kernel) (a := 15) (b := 97) (by decide +kernel) (by decide +kernel) (by decide)
theorem dL_law_617 : decode cL_law 617 = .ok (.aload_n 1, 1) := dc_aload_n_1 (by decide +kernel)
theorem dL_law_618 : decode cL_law 618 = .ok (.aload_n 0, 1) := dc_aload_n_0 (by decide +kernel)
theorem dL_law_619 : decode cL_law 619 = .ok (.iload 4, 2) := dc_iload (by decide +kernel) (a := 4) (by decide +kernel) rfl
theorem dL_law_621 : decode cL_law 621 = .ok (.iconst 1, 1) := dc_iconst_1 (by decide +kernel)
theorem dL_law_622 : decode cL_law 622 = .ok (.iadd, 1) := dc_iadd (by decide +kernel)
theorem dL_law_623 : decode cL_law 623 = .ok (.iaload, 1) := dc_iaload (by decide +kernel)
theorem dL_law_624 : decode cL_law 624 = .ok (.aload_n 0, 1) := dc_aload_n_0 (by decide +kernel)
theorem dL_law_625 : decode cL_law 625 = .ok (.iload 4, 2) := dc_iload (by decide +kernel) (a := 4) (by decide +kernel) rfl
theorem dL_law_627 : decode cL_law 627 = .ok (.iconst 2, 1) := dc_iconst_2 (by decide +kernel)
theorem dL_law_628 : decode cL_law 628 = .ok (.iadd, 1) := dc_iadd (by decide +kernel)
theorem dL_law_629 : decode cL_law 629 = .ok (.iaload, 1) := dc_iaload (by decide +kernel)
theorem dL_law_630 : decode cL_law 630 = .ok (.aload_n 0, 1) := dc_aload_n_0 (by decide +kernel)
theorem dL_law_631 : decode cL_law 631 = .ok (.iload 4, 2) := dc_iload (by decide +kernel) (a := 4) (by decide +kernel) rfl
theorem dL_law_633 : decode cL_law 633 = .ok (.iconst 3, 1) := dc_iconst_3 (by decide +kernel)
theorem dL_law_634 : decode cL_law 634 = .ok (.iadd, 1) := dc_iadd (by decide +kernel)
theorem dL_law_635 : decode cL_law 635 = .ok (.iaload, 1) := dc_iaload (by decide +kernel)
theorem dL_law_636 : decode cL_law 636 = .ok (.aload_n 3, 1) := dc_aload_n_3 (by decide +kernel)
theorem dL_law_637 : decode cL_law 637 = .ok (.invokestatic 205, 3) := dc_invokestatic (by decide +kernel) (a := 0) (b := 205) (by decide +kernel) (by decide +kernel) rfl
theorem dL_law_640 : decode cL_law 640 = .ok (.istore 5, 2) := dc_istore (by decide +kernel) (a := 5) (by decide +kernel) rfl
theorem dL_law_642 : decode cL_law 642 = .ok (.aload_n 2, 1) := dc_aload_n_2 (by decide +kernel)
theorem dL_law_643 : decode cL_law 643 = .ok (.aload_n 0, 1) := dc_aload_n_0 (by decide +kernel)
theorem dL_law_644 : decode cL_law 644 = .ok (.iload 4, 2) := dc_iload (by decide +kernel) (a := 4) (by decide +kernel) rfl
theorem dL_law_646 : decode cL_law 646 = .ok (.iconst 1, 1) := dc_iconst_1 (by decide +kernel)
theorem dL_law_647 : decode cL_law 647 = .ok (.iadd, 1) := dc_iadd (by decide +kernel)
theorem dL_law_648 : decode cL_law 648 = .ok (.iaload, 1) := dc_iaload (by decide +kernel)
theorem dL_law_649 : decode cL_law 649 = .ok (.aload_n 0, 1) := dc_aload_n_0 (by decide +kernel)
theorem dL_law_650 : decode cL_law 650 = .ok (.iload 4, 2) := dc_iload (by decide +kernel) (a := 4) (by decide +kernel) rfl
theorem dL_law_652 : decode cL_law 652 = .ok (.iconst 2, 1) := dc_iconst_2 (by decide +kernel)
theorem dL_law_653 : decode cL_law 653 = .ok (.iadd, 1) := dc_iadd (by decide +kernel)
theorem dL_law_654 : decode cL_law 654 = .ok (.iaload, 1) := dc_iaload (by decide +kernel)
theorem dL_law_655 : decode cL_law 655 = .ok (.aload_n 0, 1) := dc_aload_n_0 (by decide +kernel)
theorem dL_law_656 : decode cL_law 656 = .ok (.iload 4, 2) := dc_iload (by decide +kernel) (a := 4) (by decide +kernel) rfl
theorem dL_law_658 : decode cL_law 658 = .ok (.iconst 3, 1) := dc_iconst_3 (by decide +kernel)
theorem dL_law_659 : decode cL_law 659 = .ok (.iadd, 1) := dc_iadd (by decide +kernel)
theorem dL_law_660 : decode cL_law 660 = .ok (.iaload, 1) := dc_iaload (by decide +kernel)
theorem dL_law_661 : decode cL_law 661 = .ok (.invokevirtual 207, 3) := dc_invokevirtual (by decide +kernel) (a := 0) (b := 207) (by decide +kernel) (by decide +kernel) rfl
theorem dL_law_664 : decode cL_law 664 = .ok (.istore 6, 2) := dc_istore (by decide +kernel) (a := 6) (by decide +kernel) rfl
theorem dL_law_666 : decode cL_law 666 = .ok (.aload_n 2, 1) := dc_aload_n_2 (by decide +kernel)
theorem dL_law_667 : decode cL_law 667 = .ok (.invokevirtual 183, 3) := dc_invokevirtual (by decide +kernel) (a := 0) (b := 183) (by decide +kernel) (by decide +kernel) rfl
theorem dL_law_670 : decode cL_law 670 = .ok (.iload 5, 2) := dc_iload (by decide +kernel) (a := 5) (by decide +kernel) rfl
theorem dL_law_672 : decode cL_law 672 = .ok (.if_icmp .eq 5, 3) := dc_if_icmp_eq (by decide +kernel) (a := 0) (b := 5) (by decide +kernel) (by decide +kernel) (by decide)
theorem dL_law_675 : decode cL_law 675 = .ok (.iconst 0, 1) := dc_iconst_0 (by decide +kernel)
theorem dL_law_676 : decode cL_law 676 = .ok (.ireturn, 1) := dc_ireturn (by decide +kernel)
theorem dL_law_677 : decode cL_law 677 = .ok (.iload 5, 2) := dc_iload (by decide +kernel) (a := 5) (by decide +kernel) rfl
theorem dL_law_679 : decode cL_law 679 = .ok (.ifCond .ne 15, 3) := dc_ifCond_ne (by decide +kernel) (a := 0) (b := 15) (by decide +kernel) (by decide +kernel) (by decide)
theorem dL_law_682 : decode cL_law 682 = .ok (.aload_n 3, 1) := dc_aload_n_3 (by decide +kernel)
theorem dL_law_683 : decode cL_law 683 = .ok (.iconst 0, 1) := dc_iconst_0 (by decide +kernel)
theorem dL_law_684 : decode cL_law 684 = .ok (.laload, 1) := dc_laload (by decide +kernel)
theorem dL_law_685 : decode cL_law 685 = .ok (.iload 6, 2) := dc_iload (by decide +kernel) (a := 6) (by decide +kernel) rfl
theorem dL_law_687 : decode cL_law 687 = .ok (.i2l, 1) := dc_i2l (by decide +kernel)
theorem dL_law_688 : decode cL_law 688 = .ok (.lcmp, 1) := dc_lcmp (by decide +kernel)
theorem dL_law_689 : decode cL_law 689 = .ok (.ifCond .eq 5, 3) := dc_ifCond_eq (by decide +kernel) (a := 0) (b := 5) (by decide +kernel) (by decide +kernel) (by decide)
theorem dL_law_692 : decode cL_law 692 = .ok (.iconst 0, 1) := dc_iconst_0 (by decide +kernel)
theorem dL_law_693 : decode cL_law 693 = .ok (.ireturn, 1) := dc_ireturn (by decide +kernel)
theorem dL_law_694 : decode cL_law 694 = .ok (.goto 3857, 3) := dc_goto (by decide +kernel) (a := 15) (b := 17) (by decide +kernel) (by decide +kernel) (by decide)
theorem dL_law_697 : decode cL_law 697 = .ok (.aload_n 1, 1) := dc_aload_n_1 (by decide +kernel)
theorem dL_law_698 : decode cL_law 698 = .ok (.aload_n 0, 1) := dc_aload_n_0 (by decide +kernel)
theorem dL_law_699 : decode cL_law 699 = .ok (.iload 4, 2) := dc_iload (by decide +kernel) (a := 4) (by decide +kernel) rfl
theorem dL_law_701 : decode cL_law 701 = .ok (.iconst 1, 1) := dc_iconst_1 (by decide +kernel)
theorem dL_law_702 : decode cL_law 702 = .ok (.iadd, 1) := dc_iadd (by decide +kernel)
theorem dL_law_703 : decode cL_law 703 = .ok (.iaload, 1) := dc_iaload (by decide +kernel)
theorem dL_law_704 : decode cL_law 704 = .ok (.aload_n 0, 1) := dc_aload_n_0 (by decide +kernel)
theorem dL_law_705 : decode cL_law 705 = .ok (.iload 4, 2) := dc_iload (by decide +kernel) (a := 4) (by decide +kernel) rfl
theorem dL_law_707 : decode cL_law 707 = .ok (.iconst 2, 1) := dc_iconst_2 (by decide +kernel)
theorem dL_law_708 : decode cL_law 708 = .ok (.iadd, 1) := dc_iadd (by decide +kernel)
theorem dL_law_709 : decode cL_law 709 = .ok (.iaload, 1) := dc_iaload (by decide +kernel)
theorem dL_law_710 : decode cL_law 710 = .ok (.aload_n 0, 1) := dc_aload_n_0 (by decide +kernel)
theorem dL_law_711 : decode cL_law 711 = .ok (.iload 4, 2) := dc_iload (by decide +kernel) (a := 4) (by decide +kernel) rfl
theorem dL_law_713 : decode cL_law 713 = .ok (.iconst 3, 1) := dc_iconst_3 (by decide +kernel)
theorem dL_law_714 : decode cL_law 714 = .ok (.iadd, 1) := dc_iadd (by decide +kernel)
theorem dL_law_715 : decode cL_law 715 = .ok (.iaload, 1) := dc_iaload (by decide +kernel)
theorem dL_law_716 : decode cL_law 716 = .ok (.ifCond .eq 7, 3) := dc_ifCond_eq (by decide +kernel) (a := 0) (b := 7) (by decide +kernel) (by decide +kernel) (by decide)
theorem dL_law_719 : decode cL_law 719 = .ok (.iconst 1, 1) := dc_iconst_1 (by decide +kernel)
theorem dL_law_720 : decode cL_law 720 = .ok (.goto 4, 3) := dc_goto (by decide +kernel) (a := 0) (b := 4) (by decide +kernel) (by decide +kernel) (by decide)
theorem dL_law_723 : decode cL_law 723 = .ok (.iconst 0, 1) := dc_iconst_0 (by decide +kernel)
theorem dL_law_724 : decode cL_law 724 = .ok (.aload_n 3, 1) := dc_aload_n_3 (by decide +kernel)
theorem dL_law_725 : decode cL_law 725 = .ok (.invokestatic 208, 3) := dc_invokestatic (by decide +kernel) (a := 0) (b := 208) (by decide +kernel) (by decide +kernel) rfl
theorem dL_law_728 : decode cL_law 728 = .ok (.istore 5, 2) := dc_istore (by decide +kernel) (a := 5) (by decide +kernel) rfl
theorem dL_law_730 : decode cL_law 730 = .ok (.aload_n 2, 1) := dc_aload_n_2 (by decide +kernel)
theorem dL_law_731 : decode cL_law 731 = .ok (.aload_n 0, 1) := dc_aload_n_0 (by decide +kernel)
theorem dL_law_732 : decode cL_law 732 = .ok (.iload 4, 2) := dc_iload (by decide +kernel) (a := 4) (by decide +kernel) rfl
theorem dL_law_734 : decode cL_law 734 = .ok (.iconst 1, 1) := dc_iconst_1 (by decide +kernel)
theorem dL_law_735 : decode cL_law 735 = .ok (.iadd, 1) := dc_iadd (by decide +kernel)
theorem dL_law_736 : decode cL_law 736 = .ok (.iaload, 1) := dc_iaload (by decide +kernel)
theorem dL_law_737 : decode cL_law 737 = .ok (.aload_n 0, 1) := dc_aload_n_0 (by decide +kernel)
theorem dL_law_738 : decode cL_law 738 = .ok (.iload 4, 2) := dc_iload (by decide +kernel) (a := 4) (by decide +kernel) rfl
theorem dL_law_740 : decode cL_law 740 = .ok (.iconst 2, 1) := dc_iconst_2 (by decide +kernel)
theorem dL_law_741 : decode cL_law 741 = .ok (.iadd, 1) := dc_iadd (by decide +kernel)
theorem dL_law_742 : decode cL_law 742 = .ok (.iaload, 1) := dc_iaload (by decide +kernel)
theorem dL_law_743 : decode cL_law 743 = .ok (.aload_n 0, 1) := dc_aload_n_0 (by decide +kernel)
theorem dL_law_744 : decode cL_law 744 = .ok (.iload 4, 2) := dc_iload (by decide +kernel) (a := 4) (by decide +kernel) rfl
theorem dL_law_746 : decode cL_law 746 = .ok (.iconst 3, 1) := dc_iconst_3 (by decide +kernel)
theorem dL_law_747 : decode cL_law 747 = .ok (.iadd, 1) := dc_iadd (by decide +kernel)
theorem dL_law_748 : decode cL_law 748 = .ok (.iaload, 1) := dc_iaload (by decide +kernel)
theorem dL_law_749 : decode cL_law 749 = .ok (.ifCond .eq 7, 3) := dc_ifCond_eq (by decide +kernel) (a := 0) (b := 7) (by decide +kernel) (by decide +kernel) (by decide)
theorem dL_law_752 : decode cL_law 752 = .ok (.iconst 1, 1) := dc_iconst_1 (by decide +kernel)
theorem dL_law_753 : decode cL_law 753 = .ok (.goto 4, 3) := dc_goto (by decide +kernel) (a := 0) (b := 4) (by decide +kernel) (by decide +kernel) (by decide)
theorem dL_law_756 : decode cL_law 756 = .ok (.iconst 0, 1) := dc_iconst_0 (by decide +kernel)
theorem dL_law_757 : decode cL_law 757 = .ok (.invokevirtual 211, 3) := dc_invokevirtual (by decide +kernel) (a := 0) (b := 211) (by decide +kernel) (by decide +kernel) rfl
theorem dL_law_760 : decode cL_law 760 = .ok (.istore 6, 2) := dc_istore (by decide +kernel) (a := 6) (by decide +kernel) rfl
theorem dL_law_762 : decode cL_law 762 = .ok (.aload_n 2, 1) := dc_aload_n_2 (by decide +kernel)
theorem dL_law_763 : decode cL_law 763 = .ok (.invokevirtual 183, 3) := dc_invokevirtual (by decide +kernel) (a := 0) (b := 183) (by decide +kernel) (by decide +kernel) rfl
theorem dL_law_766 : decode cL_law 766 = .ok (.iload 5, 2) := dc_iload (by decide +kernel) (a := 5) (by decide +kernel) rfl
theorem dL_law_768 : decode cL_law 768 = .ok (.if_icmp .eq 5, 3) := dc_if_icmp_eq (by decide +kernel) (a := 0) (b := 5) (by decide +kernel) (by decide +kernel) (by decide)
theorem dL_law_771 : decode cL_law 771 = .ok (.iconst 0, 1) := dc_iconst_0 (by decide +kernel)
theorem dL_law_772 : decode cL_law 772 = .ok (.ireturn, 1) := dc_ireturn (by decide +kernel)
theorem dL_law_773 : decode cL_law 773 = .ok (.iload 5, 2) := dc_iload (by decide +kernel) (a := 5) (by decide +kernel) rfl
theorem dL_law_775 : decode cL_law 775 = .ok (.ifCond .ne 15, 3) := dc_ifCond_ne (by decide +kernel) (a := 0) (b := 15) (by decide +kernel) (by decide +kernel) (by decide)
theorem dL_law_778 : decode cL_law 778 = .ok (.aload_n 3, 1) := dc_aload_n_3 (by decide +kernel)
theorem dL_law_779 : decode cL_law 779 = .ok (.iconst 0, 1) := dc_iconst_0 (by decide +kernel)
theorem dL_law_780 : decode cL_law 780 = .ok (.laload, 1) := dc_laload (by decide +kernel)
theorem dL_law_781 : decode cL_law 781 = .ok (.iload 6, 2) := dc_iload (by decide +kernel) (a := 6) (by decide +kernel) rfl
theorem dL_law_783 : decode cL_law 783 = .ok (.i2l, 1) := dc_i2l (by decide +kernel)
theorem dL_law_784 : decode cL_law 784 = .ok (.lcmp, 1) := dc_lcmp (by decide +kernel)
theorem dL_law_785 : decode cL_law 785 = .ok (.ifCond .eq 5, 3) := dc_ifCond_eq (by decide +kernel) (a := 0) (b := 5) (by decide +kernel) (by decide +kernel) (by decide)
theorem dL_law_788 : decode cL_law 788 = .ok (.iconst 0, 1) := dc_iconst_0 (by decide +kernel)
theorem dL_law_789 : decode cL_law 789 = .ok (.ireturn, 1) := dc_ireturn (by decide +kernel)
theorem dL_law_790 : decode cL_law 790 = .ok (.goto 3761, 3) := dc_goto (by decide +kernel) (a := 14) (b := 177) (by decide +kernel) (by decide +kernel) (by decide)
theorem dL_law_793 : decode cL_law 793 = .ok (.aload_n 1, 1) := dc_aload_n_1 (by decide +kernel)
theorem dL_law_794 : decode cL_law 794 = .ok (.aload_n 0, 1) := dc_aload_n_0 (by decide +kernel)
theorem dL_law_795 : decode cL_law 795 = .ok (.iload 4, 2) := dc_iload (by decide +kernel) (a := 4) (by decide +kernel) rfl
theorem dL_law_797 : decode cL_law 797 = .ok (.iconst 1, 1) := dc_iconst_1 (by decide +kernel)
theorem dL_law_798 : decode cL_law 798 = .ok (.iadd, 1) := dc_iadd (by decide +kernel)
theorem dL_law_799 : decode cL_law 799 = .ok (.iaload, 1) := dc_iaload (by decide +kernel)
theorem dL_law_800 : decode cL_law 800 = .ok (.aload_n 0, 1) := dc_aload_n_0 (by decide +kernel)
theorem dL_law_801 : decode cL_law 801 = .ok (.iload 4, 2) := dc_iload (by decide +kernel) (a := 4) (by decide +kernel) rfl
theorem dL_law_803 : decode cL_law 803 = .ok (.iconst 2, 1) := dc_iconst_2 (by decide +kernel)
theorem dL_law_804 : decode cL_law 804 = .ok (.iadd, 1) := dc_iadd (by decide +kernel)
theorem dL_law_805 : decode cL_law 805 = .ok (.iaload, 1) := dc_iaload (by decide +kernel)
theorem dL_law_806 : decode cL_law 806 = .ok (.ifCond .eq 7, 3) := dc_ifCond_eq (by decide +kernel) (a := 0) (b := 7) (by decide +kernel) (by decide +kernel) (by decide)
theorem dL_law_809 : decode cL_law 809 = .ok (.iconst 1, 1) := dc_iconst_1 (by decide +kernel)
theorem dL_law_810 : decode cL_law 810 = .ok (.goto 4, 3) := dc_goto (by decide +kernel) (a := 0) (b := 4) (by decide +kernel) (by decide +kernel) (by decide)
theorem dL_law_813 : decode cL_law 813 = .ok (.iconst 0, 1) := dc_iconst_0 (by decide +kernel)
theorem dL_law_814 : decode cL_law 814 = .ok (.aload_n 3, 1) := dc_aload_n_3 (by decide +kernel)
theorem dL_law_815 : decode cL_law 815 = .ok (.invokestatic 212, 3) := dc_invokestatic (by decide +kernel) (a := 0) (b := 212) (by decide +kernel) (by decide +kernel) rfl
theorem dL_law_818 : decode cL_law 818 = .ok (.istore 5, 2) := dc_istore (by decide +kernel) (a := 5) (by decide +kernel) rfl
theorem dL_law_820 : decode cL_law 820 = .ok (.aload_n 2, 1) := dc_aload_n_2 (by decide +kernel)
theorem dL_law_821 : decode cL_law 821 = .ok (.aload_n 0, 1) := dc_aload_n_0 (by decide +kernel)
theorem dL_law_822 : decode cL_law 822 = .ok (.iload 4, 2) := dc_iload (by decide +kernel) (a := 4) (by decide +kernel) rfl
theorem dL_law_824 : decode cL_law 824 = .ok (.iconst 1, 1) := dc_iconst_1 (by decide +kernel)
theorem dL_law_825 : decode cL_law 825 = .ok (.iadd, 1) := dc_iadd (by decide +kernel)
theorem dL_law_826 : decode cL_law 826 = .ok (.iaload, 1) := dc_iaload (by decide +kernel)
theorem dL_law_827 : decode cL_law 827 = .ok (.aload_n 0, 1) := dc_aload_n_0 (by decide +kernel)
theorem dL_law_828 : decode cL_law 828 = .ok (.iload 4, 2) := dc_iload (by decide +kernel) (a := 4) (by decide +kernel) rfl
theorem dL_law_830 : decode cL_law 830 = .ok (.iconst 2, 1) := dc_iconst_2 (by decide +kernel)
theorem dL_law_831 : decode cL_law 831 = .ok (.iadd, 1) := dc_iadd (by decide +kernel)
theorem dL_law_832 : decode cL_law 832 = .ok (.iaload, 1) := dc_iaload (by decide +kernel)
theorem dL_law_833 : decode cL_law 833 = .ok (.ifCond .eq 7, 3) := dc_ifCond_eq (by decide +kernel) (a := 0) (b := 7) (by decide +kernel) (by decide +kernel) (by decide)
theorem dL_law_836 : decode cL_law 836 = .ok (.iconst 1, 1) := dc_iconst_1 (by decide +kernel)
theorem dL_law_837 : decode cL_law 837 = .ok (.goto 4, 3) := dc_goto (by decide +kernel) (a := 0) (b := 4) (by decide +kernel) (by decide +kernel) (by decide)
theorem dL_law_840 : decode cL_law 840 = .ok (.iconst 0, 1) := dc_iconst_0 (by decide +kernel)
theorem dL_law_841 : decode cL_law 841 = .ok (.invokevirtual 215, 3) := dc_invokevirtual (by decide +kernel) (a := 0) (b := 215) (by decide +kernel) (by decide +kernel) rfl
theorem dL_law_844 : decode cL_law 844 = .ok (.istore 6, 2) := dc_istore (by decide +kernel) (a := 6) (by decide +kernel) rfl
theorem dL_law_846 : decode cL_law 846 = .ok (.aload_n 2, 1) := dc_aload_n_2 (by decide +kernel)
theorem dL_law_847 : decode cL_law 847 = .ok (.invokevirtual 183, 3) := dc_invokevirtual (by decide +kernel) (a := 0) (b := 183) (by decide +kernel) (by decide +kernel) rfl
theorem dL_law_850 : decode cL_law 850 = .ok (.iload 5, 2) := dc_iload (by decide +kernel) (a := 5) (by decide +kernel) rfl
theorem dL_law_852 : decode cL_law 852 = .ok (.if_icmp .eq 5, 3) := dc_if_icmp_eq (by decide +kernel) (a := 0) (b := 5) (by decide +kernel) (by decide +kernel) (by decide)
theorem dL_law_855 : decode cL_law 855 = .ok (.iconst 0, 1) := dc_iconst_0 (by decide +kernel)
theorem dL_law_856 : decode cL_law 856 = .ok (.ireturn, 1) := dc_ireturn (by decide +kernel)
theorem dL_law_857 : decode cL_law 857 = .ok (.iload 5, 2) := dc_iload (by decide +kernel) (a := 5) (by decide +kernel) rfl
theorem dL_law_859 : decode cL_law 859 = .ok (.ifCond .ne 22, 3) := dc_ifCond_ne (by decide +kernel) (a := 0) (b := 22) (by decide +kernel) (by decide +kernel) (by decide)
theorem dL_law_862 : decode cL_law 862 = .ok (.aload_n 3, 1) := dc_aload_n_3 (by decide +kernel)
theorem dL_law_863 : decode cL_law 863 = .ok (.iconst 0, 1) := dc_iconst_0 (by decide +kernel)
theorem dL_law_864 : decode cL_law 864 = .ok (.laload, 1) := dc_laload (by decide +kernel)
theorem dL_law_865 : decode cL_law 865 = .ok (.iload 6, 2) := dc_iload (by decide +kernel) (a := 6) (by decide +kernel) rfl
theorem dL_law_867 : decode cL_law 867 = .ok (.ifCond .eq 7, 3) := dc_ifCond_eq (by decide +kernel) (a := 0) (b := 7) (by decide +kernel) (by decide +kernel) (by decide)
theorem dL_law_870 : decode cL_law 870 = .ok (.lconst 1, 1) := dc_lconst_1 (by decide +kernel)
theorem dL_law_871 : decode cL_law 871 = .ok (.goto 4, 3) := dc_goto (by decide +kernel) (a := 0) (b := 4) (by decide +kernel) (by decide +kernel) (by decide)
theorem dL_law_874 : decode cL_law 874 = .ok (.lconst 0, 1) := dc_lconst_0 (by decide +kernel)
theorem dL_law_875 : decode cL_law 875 = .ok (.lcmp, 1) := dc_lcmp (by decide +kernel)
theorem dL_law_876 : decode cL_law 876 = .ok (.ifCond .eq 5, 3) := dc_ifCond_eq (by decide +kernel) (a := 0) (b := 5) (by decide +kernel) (by decide +kernel) (by decide)
theorem dL_law_879 : decode cL_law 879 = .ok (.iconst 0, 1) := dc_iconst_0 (by decide +kernel)
theorem dL_law_880 : decode cL_law 880 = .ok (.ireturn, 1) := dc_ireturn (by decide +kernel)
theorem dL_law_881 : decode cL_law 881 = .ok (.goto 3670, 3) := dc_goto (by decide +kernel) (a := 14) (b := 86) (by decide +kernel) (by decide +kernel) (by decide)
theorem dL_law_884 : decode cL_law 884 = .ok (.aload_n 1, 1) := dc_aload_n_1 (by decide +kernel)
theorem dL_law_885 : decode cL_law 885 = .ok (.aload_n 0, 1) := dc_aload_n_0 (by decide +kernel)
theorem dL_law_886 : decode cL_law 886 = .ok (.iload 4, 2) := dc_iload (by decide +kernel) (a := 4) (by decide +kernel) rfl
theorem dL_law_888 : decode cL_law 888 = .ok (.iconst 1, 1) := dc_iconst_1 (by decide +kernel)
theorem dL_law_889 : decode cL_law 889 = .ok (.iadd, 1) := dc_iadd (by decide +kernel)
theorem dL_law_890 : decode cL_law 890 = .ok (.iaload, 1) := dc_iaload (by decide +kernel)
theorem dL_law_891 : decode cL_law 891 = .ok (.aload_n 0, 1) := dc_aload_n_0 (by decide +kernel)
theorem dL_law_892 : decode cL_law 892 = .ok (.iload 4, 2) := dc_iload (by decide +kernel) (a := 4) (by decide +kernel) rfl
theorem dL_law_894 : decode cL_law 894 = .ok (.iconst 2, 1) := dc_iconst_2 (by decide +kernel)
theorem dL_law_895 : decode cL_law 895 = .ok (.iadd, 1) := dc_iadd (by decide +kernel)
theorem dL_law_896 : decode cL_law 896 = .ok (.iaload, 1) := dc_iaload (by decide +kernel)
theorem dL_law_897 : decode cL_law 897 = .ok (.aload_n 0, 1) := dc_aload_n_0 (by decide +kernel)
theorem dL_law_898 : decode cL_law 898 = .ok (.iload 4, 2) := dc_iload (by decide +kernel) (a := 4) (by decide +kernel) rfl
theorem dL_law_900 : decode cL_law 900 = .ok (.iconst 3, 1) := dc_iconst_3 (by decide +kernel)
theorem dL_law_901 : decode cL_law 901 = .ok (.iadd, 1) := dc_iadd (by decide +kernel)
theorem dL_law_902 : decode cL_law 902 = .ok (.iaload, 1) := dc_iaload (by decide +kernel)
theorem dL_law_903 : decode cL_law 903 = .ok (.invokestatic 216, 3) := dc_invokestatic (by decide +kernel) (a := 0) (b := 216) (by decide +kernel) (by decide +kernel) rfl
theorem dL_law_906 : decode cL_law 906 = .ok (.istore 5, 2) := dc_istore (by decide +kernel) (a := 5) (by decide +kernel) rfl
theorem dL_law_908 : decode cL_law 908 = .ok (.aload_n 2, 1) := dc_aload_n_2 (by decide +kernel)
theorem dL_law_909 : decode cL_law 909 = .ok (.aload_n 0, 1) := dc_aload_n_0 (by decide +kernel)
theorem dL_law_910 : decode cL_law 910 = .ok (.iload 4, 2) := dc_iload (by decide +kernel) (a := 4) (by decide +kernel) rfl
theorem dL_law_912 : decode cL_law 912 = .ok (.iconst 1, 1) := dc_iconst_1 (by decide +kernel)
theorem dL_law_913 : decode cL_law 913 = .ok (.iadd, 1) := dc_iadd (by decide +kernel)
theorem dL_law_914 : decode cL_law 914 = .ok (.iaload, 1) := dc_iaload (by decide +kernel)
theorem dL_law_915 : decode cL_law 915 = .ok (.aload_n 0, 1) := dc_aload_n_0 (by decide +kernel)
theorem dL_law_916 : decode cL_law 916 = .ok (.iload 4, 2) := dc_iload (by decide +kernel) (a := 4) (by decide +kernel) rfl
theorem dL_law_918 : decode cL_law 918 = .ok (.iconst 2, 1) := dc_iconst_2 (by decide +kernel)
theorem dL_law_919 : decode cL_law 919 = .ok (.iadd, 1) := dc_iadd (by decide +kernel)
theorem dL_law_920 : decode cL_law 920 = .ok (.iaload, 1) := dc_iaload (by decide +kernel)
theorem dL_law_921 : decode cL_law 921 = .ok (.aload_n 0, 1) := dc_aload_n_0 (by decide +kernel)
theorem dL_law_922 : decode cL_law 922 = .ok (.iload 4, 2) := dc_iload (by decide +kernel) (a := 4) (by decide +kernel) rfl
theorem dL_law_924 : decode cL_law 924 = .ok (.iconst 3, 1) := dc_iconst_3 (by decide +kernel)
theorem dL_law_925 : decode cL_law 925 = .ok (.iadd, 1) := dc_iadd (by decide +kernel)
theorem dL_law_926 : decode cL_law 926 = .ok (.iaload, 1) := dc_iaload (by decide +kernel)
theorem dL_law_927 : decode cL_law 927 = .ok (.invokevirtual 219, 3) := dc_invokevirtual (by decide +kernel) (a := 0) (b := 219) (by decide +kernel) (by decide +kernel) rfl
theorem dL_law_930 : decode cL_law 930 = .ok (.aload_n 2, 1) := dc_aload_n_2 (by decide +kernel)
theorem dL_law_931 : decode cL_law 931 = .ok (.invokevirtual 183, 3) := dc_invokevirtual (by decide +kernel) (a := 0) (b := 183) (by decide +kernel) (by decide +kernel) rfl
theorem dL_law_934 : decode cL_law 934 = .ok (.iload 5, 2) := dc_iload (by decide +kernel) (a := 5) (by decide +kernel) rfl
theorem dL_law_936 : decode cL_law 936 = .ok (.if_icmp .eq 5, 3) := dc_if_icmp_eq (by decide +kernel) (a := 0) (b := 5) (by decide +kernel) (by decide +kernel) (by decide)
theorem dL_law_939 : decode cL_law 939 = .ok (.iconst 0, 1) := dc_iconst_0 (by decide +kernel)
theorem dL_law_940 : decode cL_law 940 = .ok (.ireturn, 1) := dc_ireturn (by decide +kernel)
theorem dL_law_941 : decode cL_law 941 = .ok (.goto 3610, 3) := dc_goto (by decide +kernel) (a := 14) (b := 26) (by decide +kernel) (by decide +kernel) (by decide)
theorem dL_law_944 : decode cL_law 944 = .ok (.aload_n 1, 1) := dc_aload_n_1 (by decide +kernel)
theorem dL_law_945 : decode cL_law 945 = .ok (.aload_n 0, 1) := dc_aload_n_0 (by decide +kernel)
theorem dL_law_946 : decode cL_law 946 = .ok (.iload 4, 2) := dc_iload (by decide +kernel) (a := 4) (by decide +kernel) rfl
theorem dL_law_948 : decode cL_law 948 = .ok (.iconst 1, 1) := dc_iconst_1 (by decide +kernel)
theorem dL_law_949 : decode cL_law 949 = .ok (.iadd, 1) := dc_iadd (by decide +kernel)
theorem dL_law_950 : decode cL_law 950 = .ok (.iaload, 1) := dc_iaload (by decide +kernel)
theorem dL_law_951 : decode cL_law 951 = .ok (.aload_n 0, 1) := dc_aload_n_0 (by decide +kernel)
theorem dL_law_952 : decode cL_law 952 = .ok (.iload 4, 2) := dc_iload (by decide +kernel) (a := 4) (by decide +kernel) rfl
theorem dL_law_954 : decode cL_law 954 = .ok (.iconst 2, 1) := dc_iconst_2 (by decide +kernel)
theorem dL_law_955 : decode cL_law 955 = .ok (.iadd, 1) := dc_iadd (by decide +kernel)
theorem dL_law_956 : decode cL_law 956 = .ok (.iaload, 1) := dc_iaload (by decide +kernel)
theorem dL_law_957 : decode cL_law 957 = .ok (.aload_n 3, 1) := dc_aload_n_3 (by decide +kernel)
theorem dL_law_958 : decode cL_law 958 = .ok (.invokestatic 220, 3) := dc_invokestatic (by decide +kernel) (a := 0) (b := 220) (by decide +kernel) (by decide +kernel) rfl
theorem dL_law_961 : decode cL_law 961 = .ok (.istore 5, 2) := dc_istore (by decide +kernel) (a := 5) (by decide +kernel) rfl
theorem dL_law_963 : decode cL_law 963 = .ok (.aload_n 2, 1) := dc_aload_n_2 (by decide +kernel)
theorem dL_law_964 : decode cL_law 964 = .ok (.aload_n 0, 1) := dc_aload_n_0 (by decide +kernel)
theorem dL_law_965 : decode cL_law 965 = .ok (.iload 4, 2) := dc_iload (by decide +kernel) (a := 4) (by decide +kernel) rfl
theorem dL_law_967 : decode cL_law 967 = .ok (.iconst 1, 1) := dc_iconst_1 (by decide +kernel)
theorem dL_law_968 : decode cL_law 968 = .ok (.iadd, 1) := dc_iadd (by decide +kernel)
theorem dL_law_969 : decode cL_law 969 = .ok (.iaload, 1) := dc_iaload (by decide +kernel)
theorem dL_law_970 : decode cL_law 970 = .ok (.aload_n 0, 1) := dc_aload_n_0 (by decide +kernel)
theorem dL_law_971 : decode cL_law 971 = .ok (.iload 4, 2) := dc_iload (by decide +kernel) (a := 4) (by decide +kernel) rfl
theorem dL_law_973 : decode cL_law 973 = .ok (.iconst 2, 1) := dc_iconst_2 (by decide +kernel)
theorem dL_law_974 : decode cL_law 974 = .ok (.iadd, 1) := dc_iadd (by decide +kernel)
theorem dL_law_975 : decode cL_law 975 = .ok (.iaload, 1) := dc_iaload (by decide +kernel)
theorem dL_law_976 : decode cL_law 976 = .ok (.invokevirtual 222, 3) := dc_invokevirtual (by decide +kernel) (a := 0) (b := 222) (by decide +kernel) (by decide +kernel) rfl
theorem dL_law_979 : decode cL_law 979 = .ok (.istore 6, 2) := dc_istore (by decide +kernel) (a := 6) (by decide +kernel) rfl
theorem dL_law_981 : decode cL_law 981 = .ok (.aload_n 2, 1) := dc_aload_n_2 (by decide +kernel)
theorem dL_law_982 : decode cL_law 982 = .ok (.invokevirtual 183, 3) := dc_invokevirtual (by decide +kernel) (a := 0) (b := 183) (by decide +kernel) (by decide +kernel) rfl
theorem dL_law_985 : decode cL_law 985 = .ok (.iload 5, 2) := dc_iload (by decide +kernel) (a := 5) (by decide +kernel) rfl
theorem dL_law_987 : decode cL_law 987 = .ok (.if_icmp .eq 5, 3) := dc_if_icmp_eq (by decide +kernel) (a := 0) (b := 5) (by decide +kernel) (by decide +kernel) (by decide)
theorem dL_law_990 : decode cL_law 990 = .ok (.iconst 0, 1) := dc_iconst_0 (by decide +kernel)
theorem dL_law_991 : decode cL_law 991 = .ok (.ireturn, 1) := dc_ireturn (by decide +kernel)
theorem dL_law_992 : decode cL_law 992 = .ok (.iload 5, 2) := dc_iload (by decide +kernel) (a := 5) (by decide +kernel) rfl
theorem dL_law_994 : decode cL_law 994 = .ok (.ifCond .ne 22, 3) := dc_ifCond_ne (by decide +kernel) (a := 0) (b := 22) (by decide +kernel) (by decide +kernel) (by decide)
theorem dL_law_997 : decode cL_law 997 = .ok (.aload_n 3, 1) := dc_aload_n_3 (by decide +kernel)
theorem dL_law_998 : decode cL_law 998 = .ok (.iconst 0, 1) := dc_iconst_0 (by decide +kernel)
theorem dL_law_999 : decode cL_law 999 = .ok (.laload, 1) := dc_laload (by decide +kernel)
theorem dL_law_1000 : decode cL_law 1000 = .ok (.iload 6, 2) := dc_iload (by decide +kernel) (a := 6) (by decide +kernel) rfl
theorem dL_law_1002 : decode cL_law 1002 = .ok (.ifCond .eq 7, 3) := dc_ifCond_eq (by decide +kernel) (a := 0) (b := 7) (by decide +kernel) (by decide +kernel) (by decide)
theorem dL_law_1005 : decode cL_law 1005 = .ok (.lconst 1, 1) := dc_lconst_1 (by decide +kernel)
theorem dL_law_1006 : decode cL_law 1006 = .ok (.goto 4, 3) := dc_goto (by decide +kernel) (a := 0) (b := 4) (by decide +kernel) (by decide +kernel) (by decide)
theorem dL_law_1009 : decode cL_law 1009 = .ok (.lconst 0, 1) := dc_lconst_0 (by decide +kernel)
theorem dL_law_1010 : decode cL_law 1010 = .ok (.lcmp, 1) := dc_lcmp (by decide +kernel)
theorem dL_law_1011 : decode cL_law 1011 = .ok (.ifCond .eq 5, 3) := dc_ifCond_eq (by decide +kernel) (a := 0) (b := 5) (by decide +kernel) (by decide +kernel) (by decide)
theorem dL_law_1014 : decode cL_law 1014 = .ok (.iconst 0, 1) := dc_iconst_0 (by decide +kernel)
theorem dL_law_1015 : decode cL_law 1015 = .ok (.ireturn, 1) := dc_ireturn (by decide +kernel)
theorem dL_law_1016 : decode cL_law 1016 = .ok (.goto 3535, 3) := dc_goto (by decide +kernel) (a := 13) (b := 207) (by decide +kernel) (by decide +kernel) (by decide)
theorem dL_law_1019 : decode cL_law 1019 = .ok (.aload_n 1, 1) := dc_aload_n_1 (by decide +kernel)
theorem dL_law_1020 : decode cL_law 1020 = .ok (.aload_n 0, 1) := dc_aload_n_0 (by decide +kernel)
theorem dL_law_1021 : decode cL_law 1021 = .ok (.iload 4, 2) := dc_iload (by decide +kernel) (a := 4) (by decide +kernel) rfl
theorem dL_law_1023 : decode cL_law 1023 = .ok (.iconst 1, 1) := dc_iconst_1 (by decide +kernel)
theorem dL_law_1024 : decode cL_law 1024 = .ok (.iadd, 1) := dc_iadd (by decide +kernel)
theorem dL_law_1025 : decode cL_law 1025 = .ok (.iaload, 1) := dc_iaload (by decide +kernel)
theorem dL_law_1026 : decode cL_law 1026 = .ok (.aload_n 0, 1) := dc_aload_n_0 (by decide +kernel)
theorem dL_law_1027 : decode cL_law 1027 = .ok (.iload 4, 2) := dc_iload (by decide +kernel) (a := 4) (by decide +kernel) rfl
theorem dL_law_1029 : decode cL_law 1029 = .ok (.iconst 2, 1) := dc_iconst_2 (by decide +kernel)
theorem dL_law_1030 : decode cL_law 1030 = .ok (.iadd, 1) := dc_iadd (by decide +kernel)
theorem dL_law_1031 : decode cL_law 1031 = .ok (.iaload, 1) := dc_iaload (by decide +kernel)
theorem dL_law_1032 : decode cL_law 1032 = .ok (.aload_n 3, 1) := dc_aload_n_3 (by decide +kernel)
theorem dL_law_1033 : decode cL_law 1033 = .ok (.invokestatic 223, 3) := dc_invokestatic (by decide +kernel) (a := 0) (b := 223) (by decide +kernel) (by decide +kernel) rfl
theorem dL_law_1036 : decode cL_law 1036 = .ok (.istore 5, 2) := dc_istore (by decide +kernel) (a := 5) (by decide +kernel) rfl
theorem dL_law_1038 : decode cL_law 1038 = .ok (.aload_n 2, 1) := dc_aload_n_2 (by decide +kernel)
theorem dL_law_1039 : decode cL_law 1039 = .ok (.aload_n 0, 1) := dc_aload_n_0 (by decide +kernel)
theorem dL_law_1040 : decode cL_law 1040 = .ok (.iload 4, 2) := dc_iload (by decide +kernel) (a := 4) (by decide +kernel) rfl
theorem dL_law_1042 : decode cL_law 1042 = .ok (.iconst 1, 1) := dc_iconst_1 (by decide +kernel)
theorem dL_law_1043 : decode cL_law 1043 = .ok (.iadd, 1) := dc_iadd (by decide +kernel)
theorem dL_law_1044 : decode cL_law 1044 = .ok (.iaload, 1) := dc_iaload (by decide +kernel)
theorem dL_law_1045 : decode cL_law 1045 = .ok (.aload_n 0, 1) := dc_aload_n_0 (by decide +kernel)
theorem dL_law_1046 : decode cL_law 1046 = .ok (.iload 4, 2) := dc_iload (by decide +kernel) (a := 4) (by decide +kernel) rfl
theorem dL_law_1048 : decode cL_law 1048 = .ok (.iconst 2, 1) := dc_iconst_2 (by decide +kernel)
theorem dL_law_1049 : decode cL_law 1049 = .ok (.iadd, 1) := dc_iadd (by decide +kernel)
theorem dL_law_1050 : decode cL_law 1050 = .ok (.iaload, 1) := dc_iaload (by decide +kernel)
theorem dL_law_1051 : decode cL_law 1051 = .ok (.invokevirtual 225, 3) := dc_invokevirtual (by decide +kernel) (a := 0) (b := 225) (by decide +kernel) (by decide +kernel) rfl
theorem dL_law_1054 : decode cL_law 1054 = .ok (.istore 6, 2) := dc_istore (by decide +kernel) (a := 6) (by decide +kernel) rfl
theorem dL_law_1056 : decode cL_law 1056 = .ok (.aload_n 2, 1) := dc_aload_n_2 (by decide +kernel)
theorem dL_law_1057 : decode cL_law 1057 = .ok (.invokevirtual 183, 3) := dc_invokevirtual (by decide +kernel) (a := 0) (b := 183) (by decide +kernel) (by decide +kernel) rfl
theorem dL_law_1060 : decode cL_law 1060 = .ok (.iload 5, 2) := dc_iload (by decide +kernel) (a := 5) (by decide +kernel) rfl
theorem dL_law_1062 : decode cL_law 1062 = .ok (.if_icmp .eq 5, 3) := dc_if_icmp_eq (by decide +kernel) (a := 0) (b := 5) (by decide +kernel) (by decide +kernel) (by decide)
theorem dL_law_1065 : decode cL_law 1065 = .ok (.iconst 0, 1) := dc_iconst_0 (by decide +kernel)
theorem dL_law_1066 : decode cL_law 1066 = .ok (.ireturn, 1) := dc_ireturn (by decide +kernel)
theorem dL_law_1067 : decode cL_law 1067 = .ok (.iload 5, 2) := dc_iload (by decide +kernel) (a := 5) (by decide +kernel) rfl
theorem dL_law_1069 : decode cL_law 1069 = .ok (.ifCond .ne 15, 3) := dc_ifCond_ne (by decide +kernel) (a := 0) (b := 15) (by decide +kernel) (by decide +kernel) (by decide)
theorem dL_law_1072 : decode cL_law 1072 = .ok (.aload_n 3, 1) := dc_aload_n_3 (by decide +kernel)
theorem dL_law_1073 : decode cL_law 1073 = .ok (.iconst 0, 1) := dc_iconst_0 (by decide +kernel)
theorem dL_law_1074 : decode cL_law 1074 = .ok (.laload, 1) := dc_laload (by decide +kernel)
theorem dL_law_1075 : decode cL_law 1075 = .ok (.iload 6, 2) := dc_iload (by decide +kernel) (a := 6) (by decide +kernel) rfl
theorem dL_law_1077 : decode cL_law 1077 = .ok (.i2l, 1) := dc_i2l (by decide +kernel)
theorem dL_law_1078 : decode cL_law 1078 = .ok (.lcmp, 1) := dc_lcmp (by decide +kernel)
theorem dL_law_1079 : decode cL_law 1079 = .ok (.ifCond .eq 5, 3) := dc_ifCond_eq (by decide +kernel) (a := 0) (b := 5) (by decide +kernel) (by decide +kernel) (by decide)
theorem dL_law_1082 : decode cL_law 1082 = .ok (.iconst 0, 1) := dc_iconst_0 (by decide +kernel)
theorem dL_law_1083 : decode cL_law 1083 = .ok (.ireturn, 1) := dc_ireturn (by decide +kernel)
theorem dL_law_1084 : decode cL_law 1084 = .ok (.goto 3467, 3) := dc_goto (by decide +kernel) (a := 13) (b := 139) (by decide +kernel) (by decide +kernel) (by decide)
theorem dL_law_1087 : decode cL_law 1087 = .ok (.aload_n 1, 1) := dc_aload_n_1 (by decide +kernel)
theorem dL_law_1088 : decode cL_law 1088 = .ok (.aload_n 0, 1) := dc_aload_n_0 (by decide +kernel)
theorem dL_law_1089 : decode cL_law 1089 = .ok (.iload 4, 2) := dc_iload (by decide +kernel) (a := 4) (by decide +kernel) rfl
theorem dL_law_1091 : decode cL_law 1091 = .ok (.iconst 1, 1) := dc_iconst_1 (by decide +kernel)
theorem dL_law_1092 : decode cL_law 1092 = .ok (.iadd, 1) := dc_iadd (by decide +kernel)
theorem dL_law_1093 : decode cL_law 1093 = .ok (.iaload, 1) := dc_iaload (by decide +kernel)
theorem dL_law_1094 : decode cL_law 1094 = .ok (.aload_n 0, 1) := dc_aload_n_0 (by decide +kernel)
theorem dL_law_1095 : decode cL_law 1095 = .ok (.iload 4, 2) := dc_iload (by decide +kernel) (a := 4) (by decide +kernel) rfl
theorem dL_law_1097 : decode cL_law 1097 = .ok (.iconst 2, 1) := dc_iconst_2 (by decide +kernel)
theorem dL_law_1098 : decode cL_law 1098 = .ok (.iadd, 1) := dc_iadd (by decide +kernel)
theorem dL_law_1099 : decode cL_law 1099 = .ok (.iaload, 1) := dc_iaload (by decide +kernel)
theorem dL_law_1100 : decode cL_law 1100 = .ok (.aload_n 0, 1) := dc_aload_n_0 (by decide +kernel)
theorem dL_law_1101 : decode cL_law 1101 = .ok (.iload 4, 2) := dc_iload (by decide +kernel) (a := 4) (by decide +kernel) rfl
theorem dL_law_1103 : decode cL_law 1103 = .ok (.iconst 3, 1) := dc_iconst_3 (by decide +kernel)
theorem dL_law_1104 : decode cL_law 1104 = .ok (.iadd, 1) := dc_iadd (by decide +kernel)
theorem dL_law_1105 : decode cL_law 1105 = .ok (.iaload, 1) := dc_iaload (by decide +kernel)
theorem dL_law_1106 : decode cL_law 1106 = .ok (.aload_n 3, 1) := dc_aload_n_3 (by decide +kernel)
theorem dL_law_1107 : decode cL_law 1107 = .ok (.invokestatic 226, 3) := dc_invokestatic (by decide +kernel) (a := 0) (b := 226) (by decide +kernel) (by decide +kernel) rfl
theorem dL_law_1110 : decode cL_law 1110 = .ok (.istore 5, 2) := dc_istore (by decide +kernel) (a := 5) (by decide +kernel) rfl
theorem dL_law_1112 : decode cL_law 1112 = .ok (.aload_n 2, 1) := dc_aload_n_2 (by decide +kernel)
theorem dL_law_1113 : decode cL_law 1113 = .ok (.aload_n 0, 1) := dc_aload_n_0 (by decide +kernel)
theorem dL_law_1114 : decode cL_law 1114 = .ok (.iload 4, 2) := dc_iload (by decide +kernel) (a := 4) (by decide +kernel) rfl
theorem dL_law_1116 : decode cL_law 1116 = .ok (.iconst 1, 1) := dc_iconst_1 (by decide +kernel)
theorem dL_law_1117 : decode cL_law 1117 = .ok (.iadd, 1) := dc_iadd (by decide +kernel)
theorem dL_law_1118 : decode cL_law 1118 = .ok (.iaload, 1) := dc_iaload (by decide +kernel)
theorem dL_law_1119 : decode cL_law 1119 = .ok (.aload_n 0, 1) := dc_aload_n_0 (by decide +kernel)
theorem dL_law_1120 : decode cL_law 1120 = .ok (.iload 4, 2) := dc_iload (by decide +kernel) (a := 4) (by decide +kernel) rfl
theorem dL_law_1122 : decode cL_law 1122 = .ok (.iconst 2, 1) := dc_iconst_2 (by decide +kernel)
theorem dL_law_1123 : decode cL_law 1123 = .ok (.iadd, 1) := dc_iadd (by decide +kernel)
theorem dL_law_1124 : decode cL_law 1124 = .ok (.iaload, 1) := dc_iaload (by decide +kernel)
theorem dL_law_1125 : decode cL_law 1125 = .ok (.aload_n 0, 1) := dc_aload_n_0 (by decide +kernel)
theorem dL_law_1126 : decode cL_law 1126 = .ok (.iload 4, 2) := dc_iload (by decide +kernel) (a := 4) (by decide +kernel) rfl
theorem dL_law_1128 : decode cL_law 1128 = .ok (.iconst 3, 1) := dc_iconst_3 (by decide +kernel)
theorem dL_law_1129 : decode cL_law 1129 = .ok (.iadd, 1) := dc_iadd (by decide +kernel)
theorem dL_law_1130 : decode cL_law 1130 = .ok (.iaload, 1) := dc_iaload (by decide +kernel)
theorem dL_law_1131 : decode cL_law 1131 = .ok (.invokevirtual 228, 3) := dc_invokevirtual (by decide +kernel) (a := 0) (b := 228) (by decide +kernel) (by decide +kernel) rfl
theorem dL_law_1134 : decode cL_law 1134 = .ok (.istore 6, 2) := dc_istore (by decide +kernel) (a := 6) (by decide +kernel) rfl
theorem dL_law_1136 : decode cL_law 1136 = .ok (.aload_n 2, 1) := dc_aload_n_2 (by decide +kernel)
theorem dL_law_1137 : decode cL_law 1137 = .ok (.invokevirtual 183, 3) := dc_invokevirtual (by decide +kernel) (a := 0) (b := 183) (by decide +kernel) (by decide +kernel) rfl
theorem dL_law_1140 : decode cL_law 1140 = .ok (.iload 5, 2) := dc_iload (by decide +kernel) (a := 5) (by decide +kernel) rfl
theorem dL_law_1142 : decode cL_law 1142 = .ok (.if_icmp .eq 5, 3) := dc_if_icmp_eq (by decide +kernel) (a := 0) (b := 5) (by decide +kernel) (by decide +kernel) (by decide)
theorem dL_law_1145 : decode cL_law 1145 = .ok (.iconst 0, 1) := dc_iconst_0 (by decide +kernel)
theorem dL_law_1146 : decode cL_law 1146 = .ok (.ireturn, 1) := dc_ireturn (by decide +kernel)
theorem dL_law_1147 : decode cL_law 1147 = .ok (.iload 5, 2) := dc_iload (by decide +kernel) (a := 5) (by decide +kernel) rfl
theorem dL_law_1149 : decode cL_law 1149 = .ok (.ifCond .ne 15, 3) := dc_ifCond_ne (by decide +kernel) (a := 0) (b := 15) (by decide +kernel) (by decide +kernel) (by decide)
theorem dL_law_1152 : decode cL_law 1152 = .ok (.aload_n 3, 1) := dc_aload_n_3 (by decide +kernel)
theorem dL_law_1153 : decode cL_law 1153 = .ok (.iconst 0, 1) := dc_iconst_0 (by decide +kernel)
theorem dL_law_1154 : decode cL_law 1154 = .ok (.laload, 1) := dc_laload (by decide +kernel)
theorem dL_law_1155 : decode cL_law 1155 = .ok (.iload 6, 2) := dc_iload (by decide +kernel) (a := 6) (by decide +kernel) rfl
theorem dL_law_1157 : decode cL_law 1157 = .ok (.i2l, 1) := dc_i2l (by decide +kernel)
theorem dL_law_1158 : decode cL_law 1158 = .ok (.lcmp, 1) := dc_lcmp (by decide +kernel)
theorem dL_law_1159 : decode cL_law 1159 = .ok (.ifCond .eq 5, 3) := dc_ifCond_eq (by decide +kernel) (a := 0) (b := 5) (by decide +kernel) (by decide +kernel) (by decide)
theorem dL_law_1162 : decode cL_law 1162 = .ok (.iconst 0, 1) := dc_iconst_0 (by decide +kernel)
theorem dL_law_1163 : decode cL_law 1163 = .ok (.ireturn, 1) := dc_ireturn (by decide +kernel)
theorem dL_law_1164 : decode cL_law 1164 = .ok (.goto 3387, 3) := dc_goto (by decide +kernel) (a := 13) (b := 59) (by decide +kernel) (by decide +kernel) (by decide)
theorem dL_law_1167 : decode cL_law 1167 = .ok (.aload_n 1, 1) := dc_aload_n_1 (by decide +kernel)
theorem dL_law_1168 : decode cL_law 1168 = .ok (.aload_n 0, 1) := dc_aload_n_0 (by decide +kernel)
theorem dL_law_1169 : decode cL_law 1169 = .ok (.iload 4, 2) := dc_iload (by decide +kernel) (a := 4) (by decide +kernel) rfl
theorem dL_law_1171 : decode cL_law 1171 = .ok (.iconst 1, 1) := dc_iconst_1 (by decide +kernel)
theorem dL_law_1172 : decode cL_law 1172 = .ok (.iadd, 1) := dc_iadd (by decide +kernel)
theorem dL_law_1173 : decode cL_law 1173 = .ok (.iaload, 1) := dc_iaload (by decide +kernel)
theorem dL_law_1174 : decode cL_law 1174 = .ok (.aload_n 0, 1) := dc_aload_n_0 (by decide +kernel)
theorem dL_law_1175 : decode cL_law 1175 = .ok (.iload 4, 2) := dc_iload (by decide +kernel) (a := 4) (by decide +kernel) rfl
theorem dL_law_1177 : decode cL_law 1177 = .ok (.iconst 2, 1) := dc_iconst_2 (by decide +kernel)
theorem dL_law_1178 : decode cL_law 1178 = .ok (.iadd, 1) := dc_iadd (by decide +kernel)
theorem dL_law_1179 : decode cL_law 1179 = .ok (.iaload, 1) := dc_iaload (by decide +kernel)
theorem dL_law_1180 : decode cL_law 1180 = .ok (.ifCond .eq 7, 3) := dc_ifCond_eq (by decide +kernel) (a := 0) (b := 7) (by decide +kernel) (by decide +kernel) (by decide)
theorem dL_law_1183 : decode cL_law 1183 = .ok (.iconst 1, 1) := dc_iconst_1 (by decide +kernel)
theorem dL_law_1184 : decode cL_law 1184 = .ok (.goto 4, 3) := dc_goto (by decide +kernel) (a := 0) (b := 4) (by decide +kernel) (by decide +kernel) (by decide)
theorem dL_law_1187 : decode cL_law 1187 = .ok (.iconst 0, 1) := dc_iconst_0 (by decide +kernel)
theorem dL_law_1188 : decode cL_law 1188 = .ok (.aload_n 3, 1) := dc_aload_n_3 (by decide +kernel)
theorem dL_law_1189 : decode cL_law 1189 = .ok (.invokestatic 229, 3) := dc_invokestatic (by decide +kernel) (a := 0) (b := 229) (by decide +kernel) (by decide +kernel) rfl
theorem dL_law_1192 : decode cL_law 1192 = .ok (.istore 5, 2) := dc_istore (by decide +kernel) (a := 5) (by decide +kernel) rfl
theorem dL_law_1194 : decode cL_law 1194 = .ok (.aload_n 2, 1) := dc_aload_n_2 (by decide +kernel)
theorem dL_law_1195 : decode cL_law 1195 = .ok (.aload_n 0, 1) := dc_aload_n_0 (by decide +kernel)
theorem dL_law_1196 : decode cL_law 1196 = .ok (.iload 4, 2) := dc_iload (by decide +kernel) (a := 4) (by decide +kernel) rfl
theorem dL_law_1198 : decode cL_law 1198 = .ok (.iconst 1, 1) := dc_iconst_1 (by decide +kernel)
theorem dL_law_1199 : decode cL_law 1199 = .ok (.iadd, 1) := dc_iadd (by decide +kernel)
theorem dL_law_1200 : decode cL_law 1200 = .ok (.iaload, 1) := dc_iaload (by decide +kernel)
theorem dL_law_1201 : decode cL_law 1201 = .ok (.aload_n 0, 1) := dc_aload_n_0 (by decide +kernel)
theorem dL_law_1202 : decode cL_law 1202 = .ok (.iload 4, 2) := dc_iload (by decide +kernel) (a := 4) (by decide +kernel) rfl
theorem dL_law_1204 : decode cL_law 1204 = .ok (.iconst 2, 1) := dc_iconst_2 (by decide +kernel)
theorem dL_law_1205 : decode cL_law 1205 = .ok (.iadd, 1) := dc_iadd (by decide +kernel)
theorem dL_law_1206 : decode cL_law 1206 = .ok (.iaload, 1) := dc_iaload (by decide +kernel)
theorem dL_law_1207 : decode cL_law 1207 = .ok (.ifCond .eq 7, 3) := dc_ifCond_eq (by decide +kernel) (a := 0) (b := 7) (by decide +kernel) (by decide +kernel) (by decide)
theorem dL_law_1210 : decode cL_law 1210 = .ok (.iconst 1, 1) := dc_iconst_1 (by decide +kernel)
theorem dL_law_1211 : decode cL_law 1211 = .ok (.goto 4, 3) := dc_goto (by decide +kernel) (a := 0) (b := 4) (by decide +kernel) (by decide +kernel) (by decide)
theorem dL_law_1214 : decode cL_law 1214 = .ok (.iconst 0, 1) := dc_iconst_0 (by decide +kernel)
theorem dL_law_1215 : decode cL_law 1215 = .ok (.invokevirtual 231, 3) := dc_invokevirtual (by decide +kernel) (a := 0) (b := 231) (by decide +kernel) (by decide +kernel) rfl
theorem dL_law_1218 : decode cL_law 1218 = .ok (.istore 6, 2) := dc_istore (by decide +kernel) (a := 6) (by decide +kernel) rfl
theorem dL_law_1220 : decode cL_law 1220 = .ok (.aload_n 2, 1) := dc_aload_n_2 (by decide +kernel)
theorem dL_law_1221 : decode cL_law 1221 = .ok (.invokevirtual 183, 3) := dc_invokevirtual (by decide +kernel) (a := 0) (b := 183) (by decide +kernel) (by decide +kernel) rfl
theorem dL_law_1224 : decode cL_law 1224 = .ok (.iload 5, 2) := dc_iload (by decide +kernel) (a := 5) (by decide +kernel) rfl
theorem dL_law_1226 : decode cL_law 1226 = .ok (.if_icmp .eq 5, 3) := dc_if_icmp_eq (by decide +kernel) (a := 0) (b := 5) (by decide +kernel) (by decide +kernel) (by decide)
theorem dL_law_1229 : decode cL_law 1229 = .ok (.iconst 0, 1) := dc_iconst_0 (by decide +kernel)
theorem dL_law_1230 : decode cL_law 1230 = .ok (.ireturn, 1) := dc_ireturn (by decide +kernel)
theorem dL_law_1231 : decode cL_law 1231 = .ok (.iload 5, 2) := dc_iload (by decide +kernel) (a := 5) (by decide +kernel) rfl
theorem dL_law_1233 : decode cL_law 1233 = .ok (.ifCond .ne 15, 3) := dc_ifCond_ne (by decide +kernel) (a := 0) (b := 15) (by decide +kernel) (by decide +kernel) (by decide)
theorem dL_law_1236 : decode cL_law 1236 = .ok (.aload_n 3, 1) := dc_aload_n_3 (by decide +kernel)
theorem dL_law_1237 : decode cL_law 1237 = .ok (.iconst 0, 1) := dc_iconst_0 (by decide +kernel)
theorem dL_law_1238 : decode cL_law 1238 = .ok (.laload, 1) := dc_laload (by decide +kernel)
theorem dL_law_1239 : decode cL_law 1239 = .ok (.iload 6, 2) := dc_iload (by decide +kernel) (a := 6) (by decide +kernel) rfl
theorem dL_law_1241 : decode cL_law 1241 = .ok (.i2l, 1) := dc_i2l (by decide +kernel)
theorem dL_law_1242 : decode cL_law 1242 = .ok (.lcmp, 1) := dc_lcmp (by decide +kernel)
theorem dL_law_1243 : decode cL_law 1243 = .ok (.ifCond .eq 5, 3) := dc_ifCond_eq (by decide +kernel) (a := 0) (b := 5) (by decide +kernel) (by decide +kernel) (by decide)
theorem dL_law_1246 : decode cL_law 1246 = .ok (.iconst 0, 1) := dc_iconst_0 (by decide +kernel)
theorem dL_law_1247 : decode cL_law 1247 = .ok (.ireturn, 1) := dc_ireturn (by decide +kernel)
theorem dL_law_1248 : decode cL_law 1248 = .ok (.goto 3303, 3) := dc_goto (by decide +kernel) (a := 12) (b := 231) (by decide +kernel) (by decide +kernel) (by decide)
theorem dL_law_1251 : decode cL_law 1251 = .ok (.aload_n 1, 1) := dc_aload_n_1 (by decide +kernel)
theorem dL_law_1252 : decode cL_law 1252 = .ok (.aload_n 0, 1) := dc_aload_n_0 (by decide +kernel)
theorem dL_law_1253 : decode cL_law 1253 = .ok (.iload 4, 2) := dc_iload (by decide +kernel) (a := 4) (by decide +kernel) rfl
theorem dL_law_1255 : decode cL_law 1255 = .ok (.iconst 1, 1) := dc_iconst_1 (by decide +kernel)
theorem dL_law_1256 : decode cL_law 1256 = .ok (.iadd, 1) := dc_iadd (by decide +kernel)
theorem dL_law_1257 : decode cL_law 1257 = .ok (.iaload, 1) := dc_iaload (by decide +kernel)
theorem dL_law_1258 : decode cL_law 1258 = .ok (.invokestatic 232, 3) := dc_invokestatic (by decide +kernel) (a := 0) (b := 232) (by decide +kernel) (by decide +kernel) rfl
theorem dL_law_1261 : decode cL_law 1261 = .ok (.istore 5, 2) := dc_istore (by decide +kernel) (a := 5) (by decide +kernel) rfl
theorem dL_law_1263 : decode cL_law 1263 = .ok (.aload_n 2, 1) := dc_aload_n_2 (by decide +kernel)
theorem dL_law_1264 : decode cL_law 1264 = .ok (.aload_n 0, 1) := dc_aload_n_0 (by decide +kernel)
theorem dL_law_1265 : decode cL_law 1265 = .ok (.iload 4, 2) := dc_iload (by decide +kernel) (a := 4) (by decide +kernel) rfl
theorem dL_law_1267 : decode cL_law 1267 = .ok (.iconst 1, 1) := dc_iconst_1 (by decide +kernel)
theorem dL_law_1268 : decode cL_law 1268 = .ok (.iadd, 1) := dc_iadd (by decide +kernel)
theorem dL_law_1269 : decode cL_law 1269 = .ok (.iaload, 1) := dc_iaload (by decide +kernel)
theorem dL_law_1270 : decode cL_law 1270 = .ok (.invokevirtual 235, 3) := dc_invokevirtual (by decide +kernel) (a := 0) (b := 235) (by decide +kernel) (by decide +kernel) rfl
theorem dL_law_1273 : decode cL_law 1273 = .ok (.aload_n 2, 1) := dc_aload_n_2 (by decide +kernel)
theorem dL_law_1274 : decode cL_law 1274 = .ok (.invokevirtual 183, 3) := dc_invokevirtual (by decide +kernel) (a := 0) (b := 183) (by decide +kernel) (by decide +kernel) rfl
theorem dL_law_1277 : decode cL_law 1277 = .ok (.iload 5, 2) := dc_iload (by decide +kernel) (a := 5) (by decide +kernel) rfl
theorem dL_law_1279 : decode cL_law 1279 = .ok (.if_icmp .eq 5, 3) := dc_if_icmp_eq (by decide +kernel) (a := 0) (b := 5) (by decide +kernel) (by decide +kernel) (by decide)
theorem dL_law_1282 : decode cL_law 1282 = .ok (.iconst 0, 1) := dc_iconst_0 (by decide +kernel)
theorem dL_law_1283 : decode cL_law 1283 = .ok (.ireturn, 1) := dc_ireturn (by decide +kernel)
theorem dL_law_1284 : decode cL_law 1284 = .ok (.goto 3267, 3) := dc_goto (by decide +kernel) (a := 12) (b := 195) (by decide +kernel) (by decide +kernel) (by decide)
theorem dL_law_1287 : decode cL_law 1287 = .ok (.aload_n 1, 1) := dc_aload_n_1 (by decide +kernel)
theorem dL_law_1288 : decode cL_law 1288 = .ok (.aload_n 0, 1) := dc_aload_n_0 (by decide +kernel)
theorem dL_law_1289 : decode cL_law 1289 = .ok (.iload 4, 2) := dc_iload (by decide +kernel) (a := 4) (by decide +kernel) rfl
theorem dL_law_1291 : decode cL_law 1291 = .ok (.iconst 1, 1) := dc_iconst_1 (by decide +kernel)
theorem dL_law_1292 : decode cL_law 1292 = .ok (.iadd, 1) := dc_iadd (by decide +kernel)
theorem dL_law_1293 : decode cL_law 1293 = .ok (.iaload, 1) := dc_iaload (by decide +kernel)
theorem dL_law_1294 : decode cL_law 1294 = .ok (.aload_n 0, 1) := dc_aload_n_0 (by decide +kernel)
theorem dL_law_1295 : decode cL_law 1295 = .ok (.iload 4, 2) := dc_iload (by decide +kernel) (a := 4) (by decide +kernel) rfl
theorem dL_law_1297 : decode cL_law 1297 = .ok (.iconst 2, 1) := dc_iconst_2 (by decide +kernel)
theorem dL_law_1298 : decode cL_law 1298 = .ok (.iadd, 1) := dc_iadd (by decide +kernel)
theorem dL_law_1299 : decode cL_law 1299 = .ok (.iaload, 1) := dc_iaload (by decide +kernel)
theorem dL_law_1300 : decode cL_law 1300 = .ok (.invokestatic 236, 3) := dc_invokestatic (by decide +kernel) (a := 0) (b := 236) (by decide +kernel) (by decide +kernel) rfl
theorem dL_law_1303 : decode cL_law 1303 = .ok (.istore 5, 2) := dc_istore (by decide +kernel) (a := 5) (by decide +kernel) rfl
theorem dL_law_1305 : decode cL_law 1305 = .ok (.aload_n 2, 1) := dc_aload_n_2 (by decide +kernel)
theorem dL_law_1306 : decode cL_law 1306 = .ok (.aload_n 0, 1) := dc_aload_n_0 (by decide +kernel)
theorem dL_law_1307 : decode cL_law 1307 = .ok (.iload 4, 2) := dc_iload (by decide +kernel) (a := 4) (by decide +kernel) rfl
theorem dL_law_1309 : decode cL_law 1309 = .ok (.iconst 1, 1) := dc_iconst_1 (by decide +kernel)
theorem dL_law_1310 : decode cL_law 1310 = .ok (.iadd, 1) := dc_iadd (by decide +kernel)
theorem dL_law_1311 : decode cL_law 1311 = .ok (.iaload, 1) := dc_iaload (by decide +kernel)
theorem dL_law_1312 : decode cL_law 1312 = .ok (.aload_n 0, 1) := dc_aload_n_0 (by decide +kernel)
theorem dL_law_1313 : decode cL_law 1313 = .ok (.iload 4, 2) := dc_iload (by decide +kernel) (a := 4) (by decide +kernel) rfl
theorem dL_law_1315 : decode cL_law 1315 = .ok (.iconst 2, 1) := dc_iconst_2 (by decide +kernel)
theorem dL_law_1316 : decode cL_law 1316 = .ok (.iadd, 1) := dc_iadd (by decide +kernel)
theorem dL_law_1317 : decode cL_law 1317 = .ok (.iaload, 1) := dc_iaload (by decide +kernel)
theorem dL_law_1318 : decode cL_law 1318 = .ok (.invokevirtual 239, 3) := dc_invokevirtual (by decide +kernel) (a := 0) (b := 239) (by decide +kernel) (by decide +kernel) rfl
theorem dL_law_1321 : decode cL_law 1321 = .ok (.aload_n 2, 1) := dc_aload_n_2 (by decide +kernel)
theorem dL_law_1322 : decode cL_law 1322 = .ok (.invokevirtual 183, 3) := dc_invokevirtual (by decide +kernel) (a := 0) (b := 183) (by decide +kernel) (by decide +kernel) rfl
theorem dL_law_1325 : decode cL_law 1325 = .ok (.iload 5, 2) := dc_iload (by decide +kernel) (a := 5) (by decide +kernel) rfl
theorem dL_law_1327 : decode cL_law 1327 = .ok (.if_icmp .eq 5, 3) := dc_if_icmp_eq (by decide +kernel) (a := 0) (b := 5) (by decide +kernel) (by decide +kernel) (by decide)
theorem dL_law_1330 : decode cL_law 1330 = .ok (.iconst 0, 1) := dc_iconst_0 (by decide +kernel)
theorem dL_law_1331 : decode cL_law 1331 = .ok (.ireturn, 1) := dc_ireturn (by decide +kernel)
theorem dL_law_1332 : decode cL_law 1332 = .ok (.goto 3219, 3) := dc_goto (by decide +kernel) (a := 12) (b := 147) (by decide +kernel) (by decide +kernel) (by decide)
theorem dL_law_1335 : decode cL_law 1335 = .ok (.aload_n 1, 1) := dc_aload_n_1 (by decide +kernel)
theorem dL_law_1336 : decode cL_law 1336 = .ok (.aload_n 0, 1) := dc_aload_n_0 (by decide +kernel)
theorem dL_law_1337 : decode cL_law 1337 = .ok (.iload 4, 2) := dc_iload (by decide +kernel) (a := 4) (by decide +kernel) rfl
theorem dL_law_1339 : decode cL_law 1339 = .ok (.iconst 1, 1) := dc_iconst_1 (by decide +kernel)
theorem dL_law_1340 : decode cL_law 1340 = .ok (.iadd, 1) := dc_iadd (by decide +kernel)
theorem dL_law_1341 : decode cL_law 1341 = .ok (.iaload, 1) := dc_iaload (by decide +kernel)
theorem dL_law_1342 : decode cL_law 1342 = .ok (.aload_n 0, 1) := dc_aload_n_0 (by decide +kernel)
theorem dL_law_1343 : decode cL_law 1343 = .ok (.iload 4, 2) := dc_iload (by decide +kernel) (a := 4) (by decide +kernel) rfl
theorem dL_law_1345 : decode cL_law 1345 = .ok (.iconst 2, 1) := dc_iconst_2 (by decide +kernel)
theorem dL_law_1346 : decode cL_law 1346 = .ok (.iadd, 1) := dc_iadd (by decide +kernel)
theorem dL_law_1347 : decode cL_law 1347 = .ok (.iaload, 1) := dc_iaload (by decide +kernel)
theorem dL_law_1348 : decode cL_law 1348 = .ok (.ifCond .eq 7, 3) := dc_ifCond_eq (by decide +kernel) (a := 0) (b := 7) (by decide +kernel) (by decide +kernel) (by decide)
theorem dL_law_1351 : decode cL_law 1351 = .ok (.iconst 1, 1) := dc_iconst_1 (by decide +kernel)
theorem dL_law_1352 : decode cL_law 1352 = .ok (.goto 4, 3) := dc_goto (by decide +kernel) (a := 0) (b := 4) (by decide +kernel) (by decide +kernel) (by decide)
theorem dL_law_1355 : decode cL_law 1355 = .ok (.iconst 0, 1) := dc_iconst_0 (by decide +kernel)
theorem dL_law_1356 : decode cL_law 1356 = .ok (.aload_n 0, 1) := dc_aload_n_0 (by decide +kernel)
theorem dL_law_1357 : decode cL_law 1357 = .ok (.iload 4, 2) := dc_iload (by decide +kernel) (a := 4) (by decide +kernel) rfl
theorem dL_law_1359 : decode cL_law 1359 = .ok (.iconst 3, 1) := dc_iconst_3 (by decide +kernel)
theorem dL_law_1360 : decode cL_law 1360 = .ok (.iadd, 1) := dc_iadd (by decide +kernel)
theorem dL_law_1361 : decode cL_law 1361 = .ok (.iaload, 1) := dc_iaload (by decide +kernel)
theorem dL_law_1362 : decode cL_law 1362 = .ok (.aload_n 0, 1) := dc_aload_n_0 (by decide +kernel)
theorem dL_law_1363 : decode cL_law 1363 = .ok (.iload 4, 2) := dc_iload (by decide +kernel) (a := 4) (by decide +kernel) rfl
theorem dL_law_1365 : decode cL_law 1365 = .ok (.iconst 4, 1) := dc_iconst_4 (by decide +kernel)
theorem dL_law_1366 : decode cL_law 1366 = .ok (.iadd, 1) := dc_iadd (by decide +kernel)
theorem dL_law_1367 : decode cL_law 1367 = .ok (.iaload, 1) := dc_iaload (by decide +kernel)
theorem dL_law_1368 : decode cL_law 1368 = .ok (.ifCond .eq 7, 3) := dc_ifCond_eq (by decide +kernel) (a := 0) (b := 7) (by decide +kernel) (by decide +kernel) (by decide)
theorem dL_law_1371 : decode cL_law 1371 = .ok (.iconst 1, 1) := dc_iconst_1 (by decide +kernel)
theorem dL_law_1372 : decode cL_law 1372 = .ok (.goto 4, 3) := dc_goto (by decide +kernel) (a := 0) (b := 4) (by decide +kernel) (by decide +kernel) (by decide)
theorem dL_law_1375 : decode cL_law 1375 = .ok (.iconst 0, 1) := dc_iconst_0 (by decide +kernel)
theorem dL_law_1376 : decode cL_law 1376 = .ok (.aload_n 3, 1) := dc_aload_n_3 (by decide +kernel)
theorem dL_law_1377 : decode cL_law 1377 = .ok (.invokestatic 240, 3) := dc_invokestatic (by decide +kernel) (a := 0) (b := 240) (by decide +kernel) (by decide +kernel) rfl
theorem dL_law_1380 : decode cL_law 1380 = .ok (.istore 5, 2) := dc_istore (by decide +kernel) (a := 5) (by decide +kernel) rfl
theorem dL_law_1382 : decode cL_law 1382 = .ok (.aload_n 2, 1) := dc_aload_n_2 (by decide +kernel)
theorem dL_law_1383 : decode cL_law 1383 = .ok (.aload_n 0, 1) := dc_aload_n_0 (by decide +kernel)
theorem dL_law_1384 : decode cL_law 1384 = .ok (.iload 4, 2) := dc_iload (by decide +kernel) (a := 4) (by decide +kernel) rfl
theorem dL_law_1386 : decode cL_law 1386 = .ok (.iconst 1, 1) := dc_iconst_1 (by decide +kernel)
theorem dL_law_1387 : decode cL_law 1387 = .ok (.iadd, 1) := dc_iadd (by decide +kernel)
theorem dL_law_1388 : decode cL_law 1388 = .ok (.iaload, 1) := dc_iaload (by decide +kernel)
theorem dL_law_1389 : decode cL_law 1389 = .ok (.aload_n 0, 1) := dc_aload_n_0 (by decide +kernel)
theorem dL_law_1390 : decode cL_law 1390 = .ok (.iload 4, 2) := dc_iload (by decide +kernel) (a := 4) (by decide +kernel) rfl
theorem dL_law_1392 : decode cL_law 1392 = .ok (.iconst 2, 1) := dc_iconst_2 (by decide +kernel)
theorem dL_law_1393 : decode cL_law 1393 = .ok (.iadd, 1) := dc_iadd (by decide +kernel)
theorem dL_law_1394 : decode cL_law 1394 = .ok (.iaload, 1) := dc_iaload (by decide +kernel)
theorem dL_law_1395 : decode cL_law 1395 = .ok (.ifCond .eq 7, 3) := dc_ifCond_eq (by decide +kernel) (a := 0) (b := 7) (by decide +kernel) (by decide +kernel) (by decide)
theorem dL_law_1398 : decode cL_law 1398 = .ok (.iconst 1, 1) := dc_iconst_1 (by decide +kernel)
theorem dL_law_1399 : decode cL_law 1399 = .ok (.goto 4, 3) := dc_goto (by decide +kernel) (a := 0) (b := 4) (by decide +kernel) (by decide +kernel) (by decide)
theorem dL_law_1402 : decode cL_law 1402 = .ok (.iconst 0, 1) := dc_iconst_0 (by decide +kernel)
theorem dL_law_1403 : decode cL_law 1403 = .ok (.aload_n 0, 1) := dc_aload_n_0 (by decide +kernel)
theorem dL_law_1404 : decode cL_law 1404 = .ok (.iload 4, 2) := dc_iload (by decide +kernel) (a := 4) (by decide +kernel) rfl
theorem dL_law_1406 : decode cL_law 1406 = .ok (.iconst 3, 1) := dc_iconst_3 (by decide +kernel)
theorem dL_law_1407 : decode cL_law 1407 = .ok (.iadd, 1) := dc_iadd (by decide +kernel)
theorem dL_law_1408 : decode cL_law 1408 = .ok (.iaload, 1) := dc_iaload (by decide +kernel)
theorem dL_law_1409 : decode cL_law 1409 = .ok (.aload_n 0, 1) := dc_aload_n_0 (by decide +kernel)
theorem dL_law_1410 : decode cL_law 1410 = .ok (.iload 4, 2) := dc_iload (by decide +kernel) (a := 4) (by decide +kernel) rfl
theorem dL_law_1412 : decode cL_law 1412 = .ok (.iconst 4, 1) := dc_iconst_4 (by decide +kernel)
theorem dL_law_1413 : decode cL_law 1413 = .ok (.iadd, 1) := dc_iadd (by decide +kernel)
theorem dL_law_1414 : decode cL_law 1414 = .ok (.iaload, 1) := dc_iaload (by decide +kernel)
theorem dL_law_1415 : decode cL_law 1415 = .ok (.ifCond .eq 7, 3) := dc_ifCond_eq (by decide +kernel) (a := 0) (b := 7) (by decide +kernel) (by decide +kernel) (by decide)
theorem dL_law_1418 : decode cL_law 1418 = .ok (.iconst 1, 1) := dc_iconst_1 (by decide +kernel)
theorem dL_law_1419 : decode cL_law 1419 = .ok (.goto 4, 3) := dc_goto (by decide +kernel) (a := 0) (b := 4) (by decide +kernel) (by decide +kernel) (by decide)
theorem dL_law_1422 : decode cL_law 1422 = .ok (.iconst 0, 1) := dc_iconst_0 (by decide +kernel)
theorem dL_law_1423 : decode cL_law 1423 = .ok (.invokevirtual 243, 3) := dc_invokevirtual (by decide +kernel) (a := 0) (b := 243) (by decide +kernel) (by decide +kernel) rfl
theorem dL_law_1426 : decode cL_law 1426 = .ok (.istore 6, 2) := dc_istore (by decide +kernel) (a := 6) (by decide +kernel) rfl
theorem dL_law_1428 : decode cL_law 1428 = .ok (.aload_n 2, 1) := dc_aload_n_2 (by decide +kernel)
theorem dL_law_1429 : decode cL_law 1429 = .ok (.invokevirtual 183, 3) := dc_invokevirtual (by decide +kernel) (a := 0) (b := 183) (by decide +kernel) (by decide +kernel) rfl
theorem dL_law_1432 : decode cL_law 1432 = .ok (.iload 5, 2) := dc_iload (by decide +kernel) (a := 5) (by decide +kernel) rfl
theorem dL_law_1434 : decode cL_law 1434 = .ok (.if_icmp .eq 5, 3) := dc_if_icmp_eq (by decide +kernel) (a := 0) (b := 5) (by decide +kernel) (by decide +kernel) (by decide)
theorem dL_law_1437 : decode cL_law 1437 = .ok (.iconst 0, 1) := dc_iconst_0 (by decide +kernel)
theorem dL_law_1438 : decode cL_law 1438 = .ok (.ireturn, 1) := dc_ireturn (by decide +kernel)
theorem dL_law_1439 : decode cL_law 1439 = .ok (.iload 5, 2) := dc_iload (by decide +kernel) (a := 5) (by decide +kernel) rfl
theorem dL_law_1441 : decode cL_law 1441 = .ok (.ifCond .ne 15, 3) := dc_ifCond_ne (by decide +kernel) (a := 0) (b := 15) (by decide +kernel) (by decide +kernel) (by decide)
theorem dL_law_1444 : decode cL_law 1444 = .ok (.aload_n 3, 1) := dc_aload_n_3 (by decide +kernel)
theorem dL_law_1445 : decode cL_law 1445 = .ok (.iconst 0, 1) := dc_iconst_0 (by decide +kernel)
theorem dL_law_1446 : decode cL_law 1446 = .ok (.laload, 1) := dc_laload (by decide +kernel)
theorem dL_law_1447 : decode cL_law 1447 = .ok (.iload 6, 2) := dc_iload (by decide +kernel) (a := 6) (by decide +kernel) rfl
theorem dL_law_1449 : decode cL_law 1449 = .ok (.i2l, 1) := dc_i2l (by decide +kernel)
theorem dL_law_1450 : decode cL_law 1450 = .ok (.lcmp, 1) := dc_lcmp (by decide +kernel)
theorem dL_law_1451 : decode cL_law 1451 = .ok (.ifCond .eq 5, 3) := dc_ifCond_eq (by decide +kernel) (a := 0) (b := 5) (by decide +kernel) (by decide +kernel) (by decide)
theorem dL_law_1454 : decode cL_law 1454 = .ok (.iconst 0, 1) := dc_iconst_0 (by decide +kernel)
theorem dL_law_1455 : decode cL_law 1455 = .ok (.ireturn, 1) := dc_ireturn (by decide +kernel)
theorem dL_law_1456 : decode cL_law 1456 = .ok (.goto 3095, 3) := dc_goto (by decide +kernel) (a := 12) (b := 23) (by decide +kernel) (by decide +kernel) (by decide)
theorem dL_law_1459 : decode cL_law 1459 = .ok (.aload_n 1, 1) := dc_aload_n_1 (by decide +kernel)
theorem dL_law_1460 : decode cL_law 1460 = .ok (.aload_n 0, 1) := dc_aload_n_0 (by decide +kernel)
theorem dL_law_1461 : decode cL_law 1461 = .ok (.iload 4, 2) := dc_iload (by decide +kernel) (a := 4) (by decide +kernel) rfl
theorem dL_law_1463 : decode cL_law 1463 = .ok (.iconst 1, 1) := dc_iconst_1 (by decide +kernel)
theorem dL_law_1464 : decode cL_law 1464 = .ok (.iadd, 1) := dc_iadd (by decide +kernel)
theorem dL_law_1465 : decode cL_law 1465 = .ok (.iaload, 1) := dc_iaload (by decide +kernel)
theorem dL_law_1466 : decode cL_law 1466 = .ok (.aload_n 0, 1) := dc_aload_n_0 (by decide +kernel)
theorem dL_law_1467 : decode cL_law 1467 = .ok (.iload 4, 2) := dc_iload (by decide +kernel) (a := 4) (by decide +kernel) rfl
theorem dL_law_1469 : decode cL_law 1469 = .ok (.iconst 2, 1) := dc_iconst_2 (by decide +kernel)
theorem dL_law_1470 : decode cL_law 1470 = .ok (.iadd, 1) := dc_iadd (by decide +kernel)
theorem dL_law_1471 : decode cL_law 1471 = .ok (.iaload, 1) := dc_iaload (by decide +kernel)
theorem dL_law_1472 : decode cL_law 1472 = .ok (.ifCond .eq 7, 3) := dc_ifCond_eq (by decide +kernel) (a := 0) (b := 7) (by decide +kernel) (by decide +kernel) (by decide)
theorem dL_law_1475 : decode cL_law 1475 = .ok (.iconst 1, 1) := dc_iconst_1 (by decide +kernel)
theorem dL_law_1476 : decode cL_law 1476 = .ok (.goto 4, 3) := dc_goto (by decide +kernel) (a := 0) (b := 4) (by decide +kernel) (by decide +kernel) (by decide)
theorem dL_law_1479 : decode cL_law 1479 = .ok (.iconst 0, 1) := dc_iconst_0 (by decide +kernel)
theorem dL_law_1480 : decode cL_law 1480 = .ok (.aload_n 0, 1) := dc_aload_n_0 (by decide +kernel)
theorem dL_law_1481 : decode cL_law 1481 = .ok (.iload 4, 2) := dc_iload (by decide +kernel) (a := 4) (by decide +kernel) rfl
theorem dL_law_1483 : decode cL_law 1483 = .ok (.iconst 3, 1) := dc_iconst_3 (by decide +kernel)
theorem dL_law_1484 : decode cL_law 1484 = .ok (.iadd, 1) := dc_iadd (by decide +kernel)
theorem dL_law_1485 : decode cL_law 1485 = .ok (.iaload, 1) := dc_iaload (by decide +kernel)
theorem dL_law_1486 : decode cL_law 1486 = .ok (.aload_n 0, 1) := dc_aload_n_0 (by decide +kernel)
theorem dL_law_1487 : decode cL_law 1487 = .ok (.iload 4, 2) := dc_iload (by decide +kernel) (a := 4) (by decide +kernel) rfl
theorem dL_law_1489 : decode cL_law 1489 = .ok (.iconst 4, 1) := dc_iconst_4 (by decide +kernel)
theorem dL_law_1490 : decode cL_law 1490 = .ok (.iadd, 1) := dc_iadd (by decide +kernel)
theorem dL_law_1491 : decode cL_law 1491 = .ok (.iaload, 1) := dc_iaload (by decide +kernel)
theorem dL_law_1492 : decode cL_law 1492 = .ok (.ifCond .eq 7, 3) := dc_ifCond_eq (by decide +kernel) (a := 0) (b := 7) (by decide +kernel) (by decide +kernel) (by decide)
theorem dL_law_1495 : decode cL_law 1495 = .ok (.iconst 1, 1) := dc_iconst_1 (by decide +kernel)
theorem dL_law_1496 : decode cL_law 1496 = .ok (.goto 4, 3) := dc_goto (by decide +kernel) (a := 0) (b := 4) (by decide +kernel) (by decide +kernel) (by decide)
theorem dL_law_1499 : decode cL_law 1499 = .ok (.iconst 0, 1) := dc_iconst_0 (by decide +kernel)
theorem dL_law_1500 : decode cL_law 1500 = .ok (.aload_n 0, 1) := dc_aload_n_0 (by decide +kernel)
theorem dL_law_1501 : decode cL_law 1501 = .ok (.iload 4, 2) := dc_iload (by decide +kernel) (a := 4) (by decide +kernel) rfl
theorem dL_law_1503 : decode cL_law 1503 = .ok (.iconst 5, 1) := dc_iconst_5 (by decide +kernel)
theorem dL_law_1504 : decode cL_law 1504 = .ok (.iadd, 1) := dc_iadd (by decide +kernel)
theorem dL_law_1505 : decode cL_law 1505 = .ok (.iaload, 1) := dc_iaload (by decide +kernel)
theorem dL_law_1506 : decode cL_law 1506 = .ok (.ifCond .eq 7, 3) := dc_ifCond_eq (by decide +kernel) (a := 0) (b := 7) (by decide +kernel) (by decide +kernel) (by decide)
theorem dL_law_1509 : decode cL_law 1509 = .ok (.iconst 1, 1) := dc_iconst_1 (by decide +kernel)
theorem dL_law_1510 : decode cL_law 1510 = .ok (.goto 4, 3) := dc_goto (by decide +kernel) (a := 0) (b := 4) (by decide +kernel) (by decide +kernel) (by decide)
theorem dL_law_1513 : decode cL_law 1513 = .ok (.iconst 0, 1) := dc_iconst_0 (by decide +kernel)
theorem dL_law_1514 : decode cL_law 1514 = .ok (.aload_n 3, 1) := dc_aload_n_3 (by decide +kernel)
theorem dL_law_1515 : decode cL_law 1515 = .ok (.invokestatic 244, 3) := dc_invokestatic (by decide +kernel) (a := 0) (b := 244) (by decide +kernel) (by decide +kernel) rfl
theorem dL_law_1518 : decode cL_law 1518 = .ok (.istore 5, 2) := dc_istore (by decide +kernel) (a := 5) (by decide +kernel) rfl
theorem dL_law_1520 : decode cL_law 1520 = .ok (.aload_n 2, 1) := dc_aload_n_2 (by decide +kernel)
theorem dL_law_1521 : decode cL_law 1521 = .ok (.aload_n 0, 1) := dc_aload_n_0 (by decide +kernel)
theorem dL_law_1522 : decode cL_law 1522 = .ok (.iload 4, 2) := dc_iload (by decide +kernel) (a := 4) (by decide +kernel) rfl
theorem dL_law_1524 : decode cL_law 1524 = .ok (.iconst 1, 1) := dc_iconst_1 (by decide +kernel)
theorem dL_law_1525 : decode cL_law 1525 = .ok (.iadd, 1) := dc_iadd (by decide +kernel)
theorem dL_law_1526 : decode cL_law 1526 = .ok (.iaload, 1) := dc_iaload (by decide +kernel)
theorem dL_law_1527 : decode cL_law 1527 = .ok (.aload_n 0, 1) := dc_aload_n_0 (by decide +kernel)
theorem dL_law_1528 : decode cL_law 1528 = .ok (.iload 4, 2) := dc_iload (by decide +kernel) (a := 4) (by decide +kernel) rfl
theorem dL_law_1530 : decode cL_law 1530 = .ok (.iconst 2, 1) := dc_iconst_2 (by decide +kernel)
theorem dL_law_1531 : decode cL_law 1531 = .ok (.iadd, 1) := dc_iadd (by decide +kernel)
theorem dL_law_1532 : decode cL_law 1532 = .ok (.iaload, 1) := dc_iaload (by decide +kernel)
theorem dL_law_1533 : decode cL_law 1533 = .ok (.ifCond .eq 7, 3) := dc_ifCond_eq (by decide +kernel) (a := 0) (b := 7) (by decide +kernel) (by decide +kernel) (by decide)
theorem dL_law_1536 : decode cL_law 1536 = .ok (.iconst 1, 1) := dc_iconst_1 (by decide +kernel)
theorem dL_law_1537 : decode cL_law 1537 = .ok (.goto 4, 3) := dc_goto (by decide +kernel) (a := 0) (b := 4) (by decide +kernel) (by decide +kernel) (by decide)
theorem dL_law_1540 : decode cL_law 1540 = .ok (.iconst 0, 1) := dc_iconst_0 (by decide +kernel)
theorem dL_law_1541 : decode cL_law 1541 = .ok (.aload_n 0, 1) := dc_aload_n_0 (by decide +kernel)
theorem dL_law_1542 : decode cL_law 1542 = .ok (.iload 4, 2) := dc_iload (by decide +kernel) (a := 4) (by decide +kernel) rfl
theorem dL_law_1544 : decode cL_law 1544 = .ok (.iconst 3, 1) := dc_iconst_3 (by decide +kernel)
theorem dL_law_1545 : decode cL_law 1545 = .ok (.iadd, 1) := dc_iadd (by decide +kernel)
theorem dL_law_1546 : decode cL_law 1546 = .ok (.iaload, 1) := dc_iaload (by decide +kernel)
theorem dL_law_1547 : decode cL_law 1547 = .ok (.aload_n 0, 1) := dc_aload_n_0 (by decide +kernel)
theorem dL_law_1548 : decode cL_law 1548 = .ok (.iload 4, 2) := dc_iload (by decide +kernel) (a := 4) (by decide +kernel) rfl
theorem dL_law_1550 : decode cL_law 1550 = .ok (.iconst 4, 1) := dc_iconst_4 (by decide +kernel)
theorem dL_law_1551 : decode cL_law 1551 = .ok (.iadd, 1) := dc_iadd (by decide +kernel)
theorem dL_law_1552 : decode cL_law 1552 = .ok (.iaload, 1) := dc_iaload (by decide +kernel)
theorem dL_law_1553 : decode cL_law 1553 = .ok (.ifCond .eq 7, 3) := dc_ifCond_eq (by decide +kernel) (a := 0) (b := 7) (by decide +kernel) (by decide +kernel) (by decide)
theorem dL_law_1556 : decode cL_law 1556 = .ok (.iconst 1, 1) := dc_iconst_1 (by decide +kernel)
theorem dL_law_1557 : decode cL_law 1557 = .ok (.goto 4, 3) := dc_goto (by decide +kernel) (a := 0) (b := 4) (by decide +kernel) (by decide +kernel) (by decide)
theorem dL_law_1560 : decode cL_law 1560 = .ok (.iconst 0, 1) := dc_iconst_0 (by decide +kernel)
theorem dL_law_1561 : decode cL_law 1561 = .ok (.aload_n 0, 1) := dc_aload_n_0 (by decide +kernel)
theorem dL_law_1562 : decode cL_law 1562 = .ok (.iload 4, 2) := dc_iload (by decide +kernel) (a := 4) (by decide +kernel) rfl
theorem dL_law_1564 : decode cL_law 1564 = .ok (.iconst 5, 1) := dc_iconst_5 (by decide +kernel)
theorem dL_law_1565 : decode cL_law 1565 = .ok (.iadd, 1) := dc_iadd (by decide +kernel)
theorem dL_law_1566 : decode cL_law 1566 = .ok (.iaload, 1) := dc_iaload (by decide +kernel)
theorem dL_law_1567 : decode cL_law 1567 = .ok (.ifCond .eq 7, 3) := dc_ifCond_eq (by decide +kernel) (a := 0) (b := 7) (by decide +kernel) (by decide +kernel) (by decide)
theorem dL_law_1570 : decode cL_law 1570 = .ok (.iconst 1, 1) := dc_iconst_1 (by decide +kernel)
theorem dL_law_1571 : decode cL_law 1571 = .ok (.goto 4, 3) := dc_goto (by decide +kernel) (a := 0) (b := 4) (by decide +kernel) (by decide +kernel) (by decide)
theorem dL_law_1574 : decode cL_law 1574 = .ok (.iconst 0, 1) := dc_iconst_0 (by decide +kernel)
theorem dL_law_1575 : decode cL_law 1575 = .ok (.invokevirtual 247, 3) := dc_invokevirtual (by decide +kernel) (a := 0) (b := 247) (by decide +kernel) (by decide +kernel) rfl
theorem dL_law_1578 : decode cL_law 1578 = .ok (.istore 6, 2) := dc_istore (by decide +kernel) (a := 6) (by decide +kernel) rfl
theorem dL_law_1580 : decode cL_law 1580 = .ok (.aload_n 2, 1) := dc_aload_n_2 (by decide +kernel)
theorem dL_law_1581 : decode cL_law 1581 = .ok (.invokevirtual 183, 3) := dc_invokevirtual (by decide +kernel) (a := 0) (b := 183) (by decide +kernel) (by decide +kernel) rfl
theorem dL_law_1584 : decode cL_law 1584 = .ok (.iload 5, 2) := dc_iload (by decide +kernel) (a := 5) (by decide +kernel) rfl
theorem dL_law_1586 : decode cL_law 1586 = .ok (.if_icmp .eq 5, 3) := dc_if_icmp_eq (by decide +kernel) (a := 0) (b := 5) (by decide +kernel) (by decide +kernel) (by decide)
theorem dL_law_1589 : decode cL_law 1589 = .ok (.iconst 0, 1) := dc_iconst_0 (by decide +kernel)
theorem dL_law_1590 : decode cL_law 1590 = .ok (.ireturn, 1) := dc_ireturn (by decide +kernel)
theorem dL_law_1591 : decode cL_law 1591 = .ok (.iload 5, 2) := dc_iload (by decide +kernel) (a := 5) (by decide +kernel) rfl
theorem dL_law_1593 : decode cL_law 1593 = .ok (.ifCond .ne 15, 3) := dc_ifCond_ne (by decide +kernel) (a := 0) (b := 15) (by decide +kernel) (by decide +kernel) (by decide)
theorem dL_law_1596 : decode cL_law 1596 = .ok (.aload_n 3, 1) := dc_aload_n_3 (by decide +kernel)
theorem dL_law_1597 : decode cL_law 1597 = .ok (.iconst 0, 1) := dc_iconst_0 (by decide +kernel)
theorem dL_law_1598 : decode cL_law 1598 = .ok (.laload, 1) := dc_laload (by decide +kernel)
theorem dL_law_1599 : decode cL_law 1599 = .ok (.iload 6, 2) := dc_iload (by decide +kernel) (a := 6) (by decide +kernel) rfl
theorem dL_law_1601 : decode cL_law 1601 = .ok (.i2l, 1) := dc_i2l (by decide +kernel)
theorem dL_law_1602 : decode cL_law 1602 = .ok (.lcmp, 1) := dc_lcmp (by decide +kernel)
theorem dL_law_1603 : decode cL_law 1603 = .ok (.ifCond .eq 5, 3) := dc_ifCond_eq (by decide +kernel) (a := 0) (b := 5) (by decide +kernel) (by decide +kernel) (by decide)
theorem dL_law_1606 : decode cL_law 1606 = .ok (.iconst 0, 1) := dc_iconst_0 (by decide +kernel)
theorem dL_law_1607 : decode cL_law 1607 = .ok (.ireturn, 1) := dc_ireturn (by decide +kernel)
theorem dL_law_1608 : decode cL_law 1608 = .ok (.goto 2943, 3) := dc_goto (by decide +kernel) (a := 11) (b := 127) (by decide +kernel) (by decide +kernel) (by decide)
theorem dL_law_1611 : decode cL_law 1611 = .ok (.aload_n 1, 1) := dc_aload_n_1 (by decide +kernel)
theorem dL_law_1612 : decode cL_law 1612 = .ok (.aload_n 0, 1) := dc_aload_n_0 (by decide +kernel)
theorem dL_law_1613 : decode cL_law 1613 = .ok (.iload 4, 2) := dc_iload (by decide +kernel) (a := 4) (by decide +kernel) rfl
theorem dL_law_1615 : decode cL_law 1615 = .ok (.iconst 1, 1) := dc_iconst_1 (by decide +kernel)
theorem dL_law_1616 : decode cL_law 1616 = .ok (.iadd, 1) := dc_iadd (by decide +kernel)
theorem dL_law_1617 : decode cL_law 1617 = .ok (.iaload, 1) := dc_iaload (by decide +kernel)
theorem dL_law_1618 : decode cL_law 1618 = .ok (.aload_n 0, 1) := dc_aload_n_0 (by decide +kernel)
theorem dL_law_1619 : decode cL_law 1619 = .ok (.iload 4, 2) := dc_iload (by decide +kernel) (a := 4) (by decide +kernel) rfl
theorem dL_law_1621 : decode cL_law 1621 = .ok (.iconst 2, 1) := dc_iconst_2 (by decide +kernel)
theorem dL_law_1622 : decode cL_law 1622 = .ok (.iadd, 1) := dc_iadd (by decide +kernel)
theorem dL_law_1623 : decode cL_law 1623 = .ok (.iaload, 1) := dc_iaload (by decide +kernel)
theorem dL_law_1624 : decode cL_law 1624 = .ok (.aload_n 0, 1) := dc_aload_n_0 (by decide +kernel)
theorem dL_law_1625 : decode cL_law 1625 = .ok (.iload 4, 2) := dc_iload (by decide +kernel) (a := 4) (by decide +kernel) rfl
theorem dL_law_1627 : decode cL_law 1627 = .ok (.iconst 3, 1) := dc_iconst_3 (by decide +kernel)
theorem dL_law_1628 : decode cL_law 1628 = .ok (.iadd, 1) := dc_iadd (by decide +kernel)
theorem dL_law_1629 : decode cL_law 1629 = .ok (.iaload, 1) := dc_iaload (by decide +kernel)
theorem dL_law_1630 : decode cL_law 1630 = .ok (.ifCond .eq 7, 3) := dc_ifCond_eq (by decide +kernel) (a := 0) (b := 7) (by decide +kernel) (by decide +kernel) (by decide)
theorem dL_law_1633 : decode cL_law 1633 = .ok (.iconst 1, 1) := dc_iconst_1 (by decide +kernel)
theorem dL_law_1634 : decode cL_law 1634 = .ok (.goto 4, 3) := dc_goto (by decide +kernel) (a := 0) (b := 4) (by decide +kernel) (by decide +kernel) (by decide)
theorem dL_law_1637 : decode cL_law 1637 = .ok (.iconst 0, 1) := dc_iconst_0 (by decide +kernel)
theorem dL_law_1638 : decode cL_law 1638 = .ok (.aload_n 3, 1) := dc_aload_n_3 (by decide +kernel)
theorem dL_law_1639 : decode cL_law 1639 = .ok (.invokestatic 248, 3) := dc_invokestatic (by decide +kernel) (a := 0) (b := 248) (by decide +kernel) (by decide +kernel) rfl
theorem dL_law_1642 : decode cL_law 1642 = .ok (.istore 5, 2) := dc_istore (by decide +kernel) (a := 5) (by decide +kernel) rfl
theorem dL_law_1644 : decode cL_law 1644 = .ok (.aload_n 2, 1) := dc_aload_n_2 (by decide +kernel)
theorem dL_law_1645 : decode cL_law 1645 = .ok (.aload_n 0, 1) := dc_aload_n_0 (by decide +kernel)
theorem dL_law_1646 : decode cL_law 1646 = .ok (.iload 4, 2) := dc_iload (by decide +kernel) (a := 4) (by decide +kernel) rfl
theorem dL_law_1648 : decode cL_law 1648 = .ok (.iconst 1, 1) := dc_iconst_1 (by decide +kernel)
theorem dL_law_1649 : decode cL_law 1649 = .ok (.iadd, 1) := dc_iadd (by decide +kernel)
theorem dL_law_1650 : decode cL_law 1650 = .ok (.iaload, 1) := dc_iaload (by decide +kernel)
theorem dL_law_1651 : decode cL_law 1651 = .ok (.aload_n 0, 1) := dc_aload_n_0 (by decide +kernel)
theorem dL_law_1652 : decode cL_law 1652 = .ok (.iload 4, 2) := dc_iload (by decide +kernel) (a := 4) (by decide +kernel) rfl
theorem dL_law_1654 : decode cL_law 1654 = .ok (.iconst 2, 1) := dc_iconst_2 (by decide +kernel)
theorem dL_law_1655 : decode cL_law 1655 = .ok (.iadd, 1) := dc_iadd (by decide +kernel)
theorem dL_law_1656 : decode cL_law 1656 = .ok (.iaload, 1) := dc_iaload (by decide +kernel)
theorem dL_law_1657 : decode cL_law 1657 = .ok (.aload_n 0, 1) := dc_aload_n_0 (by decide +kernel)
theorem dL_law_1658 : decode cL_law 1658 = .ok (.iload 4, 2) := dc_iload (by decide +kernel) (a := 4) (by decide +kernel) rfl
theorem dL_law_1660 : decode cL_law 1660 = .ok (.iconst 3, 1) := dc_iconst_3 (by decide +kernel)
theorem dL_law_1661 : decode cL_law 1661 = .ok (.iadd, 1) := dc_iadd (by decide +kernel)
theorem dL_law_1662 : decode cL_law 1662 = .ok (.iaload, 1) := dc_iaload (by decide +kernel)
theorem dL_law_1663 : decode cL_law 1663 = .ok (.ifCond .eq 7, 3) := dc_ifCond_eq (by decide +kernel) (a := 0) (b := 7) (by decide +kernel) (by decide +kernel) (by decide)
theorem dL_law_1666 : decode cL_law 1666 = .ok (.iconst 1, 1) := dc_iconst_1 (by decide +kernel)
theorem dL_law_1667 : decode cL_law 1667 = .ok (.goto 4, 3) := dc_goto (by decide +kernel) (a := 0) (b := 4) (by decide +kernel) (by decide +kernel) (by decide)
theorem dL_law_1670 : decode cL_law 1670 = .ok (.iconst 0, 1) := dc_iconst_0 (by decide +kernel)
theorem dL_law_1671 : decode cL_law 1671 = .ok (.invokevirtual 250, 3) := dc_invokevirtual (by decide +kernel) (a := 0) (b := 250) (by decide +kernel) (by decide +kernel) rfl
theorem dL_law_1674 : decode cL_law 1674 = .ok (.istore 6, 2) := dc_istore (by decide +kernel) (a := 6) (by decide +kernel) rfl
theorem dL_law_1676 : decode cL_law 1676 = .ok (.aload_n 2, 1) := dc_aload_n_2 (by decide +kernel)
theorem dL_law_1677 : decode cL_law 1677 = .ok (.invokevirtual 183, 3) := dc_invokevirtual (by decide +kernel) (a := 0) (b := 183) (by decide +kernel) (by decide +kernel) rfl
theorem dL_law_1680 : decode cL_law 1680 = .ok (.iload 5, 2) := dc_iload (by decide +kernel) (a := 5) (by decide +kernel) rfl
theorem dL_law_1682 : decode cL_law 1682 = .ok (.if_icmp .eq 5, 3) := dc_if_icmp_eq (by decide +kernel) (a := 0) (b := 5) (by decide +kernel) (by decide +kernel) (by decide)
theorem dL_law_1685 : decode cL_law 1685 = .ok (.iconst 0, 1) := dc_iconst_0 (by decide +kernel)
theorem dL_law_1686 : decode cL_law 1686 = .ok (.ireturn, 1) := dc_ireturn (by decide +kernel)
theorem dL_law_1687 : decode cL_law 1687 = .ok (.iload 5, 2) := dc_iload (by decide +kernel) (a := 5) (by decide +kernel) rfl
theorem dL_law_1689 : decode cL_law 1689 = .ok (.ifCond .ne 15, 3) := dc_ifCond_ne (by decide +kernel) (a := 0) (b := 15) (by decide +kernel) (by decide +kernel) (by decide)
