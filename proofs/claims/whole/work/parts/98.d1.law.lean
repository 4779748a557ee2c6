theorem dL_law_0 : decode cL_law 0 = .ok (.new 8, 3) := dc_new (dby_of dby_0 (j := 0) rfl) (dby_of dby_0 (j := 1) rfl) (dby_of dby_0 (j := 2) rfl) rfl
theorem dL_law_3 : decode cL_law 3 = .ok (.dup, 1) := dc_dup (dby_of dby_0 (j := 3) rfl)
theorem dL_law_4 : decode cL_law 4 = .ok (.invokespecial 173, 3) := dc_invokespecial (dby_of dby_0 (j := 4) rfl) (dby_of dby_0 (j := 5) rfl) (dby_of dby_0 (j := 6) rfl) rfl
theorem dL_law_7 : decode cL_law 7 = .ok (.astore_n 1, 1) := dc_astore_n_1 (dby_of dby_0 (j := 7) rfl)
theorem dL_law_8 : decode cL_law 8 = .ok (.new 174, 3) := dc_new (dby_of dby_0 (j := 8) rfl) (dby_of dby_0 (j := 9) rfl) (dby_of dby_0 (j := 10) rfl) rfl
theorem dL_law_11 : decode cL_law 11 = .ok (.dup, 1) := dc_dup (dby_of dby_0 (j := 11) rfl)
theorem dL_law_12 : decode cL_law 12 = .ok (.invokespecial 176, 3) := dc_invokespecial (dby_of dby_0 (j := 12) rfl) (dby_of dby_0 (j := 13) rfl) (dby_of dby_0 (j := 14) rfl) rfl
theorem dL_law_15 : decode cL_law 15 = .ok (.astore_n 2, 1) := dc_astore_n_2 (dby_of dby_0 (j := 15) rfl)
theorem dL_law_16 : decode cL_law 16 = .ok (.iconst 1, 1) := dc_iconst_1 (dby_of dby_0 (j := 16) rfl)
theorem dL_law_17 : decode cL_law 17 = .ok (.newarray .long, 2) := by decide +kernel
theorem dL_law_19 : decode cL_law 19 = .ok (.astore_n 3, 1) := dc_astore_n_3 (dby_of dby_0 (j := 19) rfl)
theorem dL_law_20 : decode cL_law 20 = .ok (.iconst 0, 1) := dc_iconst_0 (dby_of dby_0 (j := 20) rfl)
theorem dL_law_21 : decode cL_law 21 = .ok (.istore 4, 2) := dc_istore (dby_of dby_0 (j := 21) rfl) (dby_of dby_0 (j := 22) rfl) rfl
theorem dL_law_23 : decode cL_law 23 = .ok (.iload 4, 2) := dc_iload (dby_of dby_0 (j := 23) rfl) (dby_of dby_0 (j := 24) rfl) rfl
theorem dL_law_25 : decode cL_law 25 = .ok (.aload_n 0, 1) := dc_aload_n_0 (dby_of dby_0 (j := 25) rfl)
theorem dL_law_26 : decode cL_law 26 = .ok (.arraylength, 1) := dc_arraylength (dby_of dby_0 (j := 26) rfl)
theorem dL_law_27 : decode cL_law 27 = .ok (.bipush 7, 2) := dc_bipush (dby_of dby_0 (j := 27) rfl) (dby_of dby_0 (j := 28) rfl) (by decide)
theorem dL_law_29 : decode cL_law 29 = .ok (.isub, 1) := dc_isub (dby_of dby_0 (j := 29) rfl)
theorem dL_law_30 : decode cL_law 30 = .ok (.if_icmp .gt 4527, 3) := dc_if_icmp_gt (dby_of dby_0 (j := 30) rfl) (dby_of dby_0 (j := 31) rfl) (dby_of dby_0 (j := 32) rfl) (by decide)
theorem dL_law_33 : decode cL_law 33 = .ok (.aload_n 0, 1) := dc_aload_n_0 (dby_of dby_0 (j := 33) rfl)
theorem dL_law_34 : decode cL_law 34 = .ok (.iload 4, 2) := dc_iload (dby_of dby_0 (j := 34) rfl) (dby_of dby_0 (j := 35) rfl) rfl
theorem dL_law_36 : decode cL_law 36 = .ok (.iaload, 1) := dc_iaload (dby_of dby_0 (j := 36) rfl)
theorem dL_law_37 : decode cL_law 37 = .ok (.bipush 63, 2) := dc_bipush (dby_of dby_0 (j := 37) rfl) (dby_of dby_0 (j := 38) rfl) (by decide)
theorem dL_law_39 : decode cL_law 39 = .ok (.iand, 1) := dc_iand (dby_of dby_0 (j := 39) rfl)
theorem dL_law_40 : decode cL_law 40 = .ok (.tableswitch 4511 0 51 #[224, 280, 360, 373, 429, 497, 577, 657, 753, 844, 904, 979, 1047, 1127, 1211, 1247, 1295, 1419, 1571, 1667, 1751, 1847, 1955, 2071, 2199, 2327, 2481, 2565, 2606, 2674, 2782, 2862, 2942, 3022, 3097, 3138, 3229, 3317, 3401, 3541, 3665, 3785, 3858, 3914, 3939, 4014, 4063, 4119, 4179, 4290, 4358, 4486], 224) := by decide +kernel
theorem dL_law_264 : decode cL_law 264 = .ok (.aload_n 1, 1) := dc_aload_n_1 (dby_of dby_4 (j := 8) rfl)
theorem dL_law_265 : decode cL_law 265 = .ok (.aload_n 0, 1) := dc_aload_n_0 (dby_of dby_4 (j := 9) rfl)
theorem dL_law_266 : decode cL_law 266 = .ok (.iload 4, 2) := dc_iload (dby_of dby_4 (j := 10) rfl) (dby_of dby_4 (j := 11) rfl) rfl
theorem dL_law_268 : decode cL_law 268 = .ok (.iconst 1, 1) := dc_iconst_1 (dby_of dby_4 (j := 12) rfl)
theorem dL_law_269 : decode cL_law 269 = .ok (.iadd, 1) := dc_iadd (dby_of dby_4 (j := 13) rfl)
theorem dL_law_270 : decode cL_law 270 = .ok (.iaload, 1) := dc_iaload (dby_of dby_4 (j := 14) rfl)
theorem dL_law_271 : decode cL_law 271 = .ok (.aload_n 3, 1) := dc_aload_n_3 (dby_of dby_4 (j := 15) rfl)
theorem dL_law_272 : decode cL_law 272 = .ok (.invokestatic 177, 3) := dc_invokestatic (dby_of dby_4 (j := 16) rfl) (dby_of dby_4 (j := 17) rfl) (dby_of dby_4 (j := 18) rfl) rfl
theorem dL_law_275 : decode cL_law 275 = .ok (.istore 5, 2) := dc_istore (dby_of dby_4 (j := 19) rfl) (dby_of dby_4 (j := 20) rfl) rfl
theorem dL_law_277 : decode cL_law 277 = .ok (.aload_n 2, 1) := dc_aload_n_2 (dby_of dby_4 (j := 21) rfl)
theorem dL_law_278 : decode cL_law 278 = .ok (.aload_n 0, 1) := dc_aload_n_0 (dby_of dby_4 (j := 22) rfl)
theorem dL_law_279 : decode cL_law 279 = .ok (.iload 4, 2) := dc_iload (dby_of dby_4 (j := 23) rfl) (dby_of dby_4 (j := 24) rfl) rfl
theorem dL_law_281 : decode cL_law 281 = .ok (.iconst 1, 1) := dc_iconst_1 (dby_of dby_4 (j := 25) rfl)
theorem dL_law_282 : decode cL_law 282 = .ok (.iadd, 1) := dc_iadd (dby_of dby_4 (j := 26) rfl)
theorem dL_law_283 : decode cL_law 283 = .ok (.iaload, 1) := dc_iaload (dby_of dby_4 (j := 27) rfl)
theorem dL_law_284 : decode cL_law 284 = .ok (.invokevirtual 182, 3) := dc_invokevirtual (dby_of dby_4 (j := 28) rfl) (dby_of dby_4 (j := 29) rfl) (dby_of dby_4 (j := 30) rfl) rfl
theorem dL_law_287 : decode cL_law 287 = .ok (.istore 6, 2) := dc_istore (dby_of dby_4 (j := 31) rfl) (dby_of dby_4 (j := 32) rfl) rfl
theorem dL_law_289 : decode cL_law 289 = .ok (.aload_n 2, 1) := dc_aload_n_2 (dby_of dby_4 (j := 33) rfl)
theorem dL_law_290 : decode cL_law 290 = .ok (.invokevirtual 183, 3) := dc_invokevirtual (dby_of dby_4 (j := 34) rfl) (dby_of dby_4 (j := 35) rfl) (dby_of dby_4 (j := 36) rfl) rfl
theorem dL_law_293 : decode cL_law 293 = .ok (.iload 5, 2) := dc_iload (dby_of dby_4 (j := 37) rfl) (dby_of dby_4 (j := 38) rfl) rfl
theorem dL_law_295 : decode cL_law 295 = .ok (.if_icmp .eq 5, 3) := dc_if_icmp_eq (dby_of dby_4 (j := 39) rfl) (dby_of dby_4 (j := 40) rfl) (dby_of dby_4 (j := 41) rfl) (by decide)
theorem dL_law_298 : decode cL_law 298 = .ok (.iconst 0, 1) := dc_iconst_0 (dby_of dby_4 (j := 42) rfl)
theorem dL_law_299 : decode cL_law 299 = .ok (.ireturn, 1) := dc_ireturn (dby_of dby_4 (j := 43) rfl)
theorem dL_law_300 : decode cL_law 300 = .ok (.iload 5, 2) := dc_iload (dby_of dby_4 (j := 44) rfl) (dby_of dby_4 (j := 45) rfl) rfl
theorem dL_law_302 : decode cL_law 302 = .ok (.ifCond .ne 15, 3) := dc_ifCond_ne (dby_of dby_4 (j := 46) rfl) (dby_of dby_4 (j := 47) rfl) (dby_of dby_4 (j := 48) rfl) (by decide)
theorem dL_law_305 : decode cL_law 305 = .ok (.aload_n 3, 1) := dc_aload_n_3 (dby_of dby_4 (j := 49) rfl)
theorem dL_law_306 : decode cL_law 306 = .ok (.iconst 0, 1) := dc_iconst_0 (dby_of dby_4 (j := 50) rfl)
theorem dL_law_307 : decode cL_law 307 = .ok (.laload, 1) := dc_laload (dby_of dby_4 (j := 51) rfl)
theorem dL_law_308 : decode cL_law 308 = .ok (.iload 6, 2) := dc_iload (dby_of dby_4 (j := 52) rfl) (dby_of dby_4 (j := 53) rfl) rfl
theorem dL_law_310 : decode cL_law 310 = .ok (.i2l, 1) := dc_i2l (dby_of dby_4 (j := 54) rfl)
theorem dL_law_311 : decode cL_law 311 = .ok (.lcmp, 1) := dc_lcmp (dby_of dby_4 (j := 55) rfl)
theorem dL_law_312 : decode cL_law 312 = .ok (.ifCond .eq 5, 3) := dc_ifCond_eq (dby_of dby_4 (j := 56) rfl) (dby_of dby_4 (j := 57) rfl) (dby_of dby_4 (j := 58) rfl) (by decide)
theorem dL_law_315 : decode cL_law 315 = .ok (.iconst 0, 1) := dc_iconst_0 (dby_of dby_4 (j := 59) rfl)
theorem dL_law_316 : decode cL_law 316 = .ok (.ireturn, 1) := dc_ireturn (dby_of dby_4 (j := 60) rfl)
theorem dL_law_317 : decode cL_law 317 = .ok (.goto 4234, 3) := dc_goto (dby_of dby_4 (j := 61) rfl) (dby_of dby_4 (j := 62) rfl) (dby_of dby_4 (j := 63) rfl) (by decide)
theorem dL_law_320 : decode cL_law 320 = .ok (.aload_n 1, 1) := dc_aload_n_1 (dby_of dby_5 (j := 0) rfl)
theorem dL_law_321 : decode cL_law 321 = .ok (.aload_n 0, 1) := dc_aload_n_0 (dby_of dby_5 (j := 1) rfl)
theorem dL_law_322 : decode cL_law 322 = .ok (.iload 4, 2) := dc_iload (dby_of dby_5 (j := 2) rfl) (dby_of dby_5 (j := 3) rfl) rfl
theorem dL_law_324 : decode cL_law 324 = .ok (.iconst 1, 1) := dc_iconst_1 (dby_of dby_5 (j := 4) rfl)
theorem dL_law_325 : decode cL_law 325 = .ok (.iadd, 1) := dc_iadd (dby_of dby_5 (j := 5) rfl)
theorem dL_law_326 : decode cL_law 326 = .ok (.iaload, 1) := dc_iaload (dby_of dby_5 (j := 6) rfl)
theorem dL_law_327 : decode cL_law 327 = .ok (.aload_n 0, 1) := dc_aload_n_0 (dby_of dby_5 (j := 7) rfl)
theorem dL_law_328 : decode cL_law 328 = .ok (.iload 4, 2) := dc_iload (dby_of dby_5 (j := 8) rfl) (dby_of dby_5 (j := 9) rfl) rfl
theorem dL_law_330 : decode cL_law 330 = .ok (.iconst 2, 1) := dc_iconst_2 (dby_of dby_5 (j := 10) rfl)
theorem dL_law_331 : decode cL_law 331 = .ok (.iadd, 1) := dc_iadd (dby_of dby_5 (j := 11) rfl)
theorem dL_law_332 : decode cL_law 332 = .ok (.iaload, 1) := dc_iaload (dby_of dby_5 (j := 12) rfl)
theorem dL_law_333 : decode cL_law 333 = .ok (.aload_n 0, 1) := dc_aload_n_0 (dby_of dby_5 (j := 13) rfl)
theorem dL_law_334 : decode cL_law 334 = .ok (.iload 4, 2) := dc_iload (dby_of dby_5 (j := 14) rfl) (dby_of dby_5 (j := 15) rfl) rfl
theorem dL_law_336 : decode cL_law 336 = .ok (.iconst 3, 1) := dc_iconst_3 (dby_of dby_5 (j := 16) rfl)
theorem dL_law_337 : decode cL_law 337 = .ok (.iadd, 1) := dc_iadd (dby_of dby_5 (j := 17) rfl)
theorem dL_law_338 : decode cL_law 338 = .ok (.iaload, 1) := dc_iaload (dby_of dby_5 (j := 18) rfl)
theorem dL_law_339 : decode cL_law 339 = .ok (.aload_n 3, 1) := dc_aload_n_3 (dby_of dby_5 (j := 19) rfl)
theorem dL_law_340 : decode cL_law 340 = .ok (.invokestatic 187, 3) := dc_invokestatic (dby_of dby_5 (j := 20) rfl) (dby_of dby_5 (j := 21) rfl) (dby_of dby_5 (j := 22) rfl) rfl
theorem dL_law_343 : decode cL_law 343 = .ok (.istore 5, 2) := dc_istore (dby_of dby_5 (j := 23) rfl) (dby_of dby_5 (j := 24) rfl) rfl
theorem dL_law_345 : decode cL_law 345 = .ok (.aload_n 2, 1) := dc_aload_n_2 (dby_of dby_5 (j := 25) rfl)
theorem dL_law_346 : decode cL_law 346 = .ok (.aload_n 0, 1) := dc_aload_n_0 (dby_of dby_5 (j := 26) rfl)
theorem dL_law_347 : decode cL_law 347 = .ok (.iload 4, 2) := dc_iload (dby_of dby_5 (j := 27) rfl) (dby_of dby_5 (j := 28) rfl) rfl
theorem dL_law_349 : decode cL_law 349 = .ok (.iconst 1, 1) := dc_iconst_1 (dby_of dby_5 (j := 29) rfl)
theorem dL_law_350 : decode cL_law 350 = .ok (.iadd, 1) := dc_iadd (dby_of dby_5 (j := 30) rfl)
theorem dL_law_351 : decode cL_law 351 = .ok (.iaload, 1) := dc_iaload (dby_of dby_5 (j := 31) rfl)
theorem dL_law_352 : decode cL_law 352 = .ok (.aload_n 0, 1) := dc_aload_n_0 (dby_of dby_5 (j := 32) rfl)
theorem dL_law_353 : decode cL_law 353 = .ok (.iload 4, 2) := dc_iload (dby_of dby_5 (j := 33) rfl) (dby_of dby_5 (j := 34) rfl) rfl
theorem dL_law_355 : decode cL_law 355 = .ok (.iconst 2, 1) := dc_iconst_2 (dby_of dby_5 (j := 35) rfl)
theorem dL_law_356 : decode cL_law 356 = .ok (.iadd, 1) := dc_iadd (dby_of dby_5 (j := 36) rfl)
theorem dL_law_357 : decode cL_law 357 = .ok (.iaload, 1) := dc_iaload (dby_of dby_5 (j := 37) rfl)
theorem dL_law_358 : decode cL_law 358 = .ok (.aload_n 0, 1) := dc_aload_n_0 (dby_of dby_5 (j := 38) rfl)
theorem dL_law_359 : decode cL_law 359 = .ok (.iload 4, 2) := dc_iload (dby_of dby_5 (j := 39) rfl) (dby_of dby_5 (j := 40) rfl) rfl
theorem dL_law_361 : decode cL_law 361 = .ok (.iconst 3, 1) := dc_iconst_3 (dby_of dby_5 (j := 41) rfl)
theorem dL_law_362 : decode cL_law 362 = .ok (.iadd, 1) := dc_iadd (dby_of dby_5 (j := 42) rfl)
theorem dL_law_363 : decode cL_law 363 = .ok (.iaload, 1) := dc_iaload (dby_of dby_5 (j := 43) rfl)
theorem dL_law_364 : decode cL_law 364 = .ok (.invokevirtual 190, 3) := dc_invokevirtual (dby_of dby_5 (j := 44) rfl) (dby_of dby_5 (j := 45) rfl) (dby_of dby_5 (j := 46) rfl) rfl
theorem dL_law_367 : decode cL_law 367 = .ok (.istore 6, 2) := dc_istore (dby_of dby_5 (j := 47) rfl) (dby_of dby_5 (j := 48) rfl) rfl
theorem dL_law_369 : decode cL_law 369 = .ok (.aload_n 2, 1) := dc_aload_n_2 (dby_of dby_5 (j := 49) rfl)
theorem dL_law_370 : decode cL_law 370 = .ok (.invokevirtual 183, 3) := dc_invokevirtual (dby_of dby_5 (j := 50) rfl) (dby_of dby_5 (j := 51) rfl) (dby_of dby_5 (j := 52) rfl) rfl
theorem dL_law_373 : decode cL_law 373 = .ok (.iload 5, 2) := dc_iload (dby_of dby_5 (j := 53) rfl) (dby_of dby_5 (j := 54) rfl) rfl
theorem dL_law_375 : decode cL_law 375 = .ok (.if_icmp .eq 5, 3) := dc_if_icmp_eq (dby_of dby_5 (j := 55) rfl) (dby_of dby_5 (j := 56) rfl) (dby_of dby_5 (j := 57) rfl) (by decide)
theorem dL_law_378 : decode cL_law 378 = .ok (.iconst 0, 1) := dc_iconst_0 (dby_of dby_5 (j := 58) rfl)
theorem dL_law_379 : decode cL_law 379 = .ok (.ireturn, 1) := dc_ireturn (dby_of dby_5 (j := 59) rfl)
theorem dL_law_380 : decode cL_law 380 = .ok (.iload 5, 2) := dc_iload (dby_of dby_5 (j := 60) rfl) (dby_of dby_5 (j := 61) rfl) rfl
theorem dL_law_382 : decode cL_law 382 = .ok (.ifCond .ne 15, 3) := dc_ifCond_ne (dby_of dby_5 (j := 62) rfl) (dby_of dby_5 (j := 63) rfl) (dby_of dby_6 (j := 0) rfl) (by decide)
theorem dL_law_385 : decode cL_law 385 = .ok (.aload_n 3, 1) := dc_aload_n_3 (dby_of dby_6 (j := 1) rfl)
theorem dL_law_386 : decode cL_law 386 = .ok (.iconst 0, 1) := dc_iconst_0 (dby_of dby_6 (j := 2) rfl)
theorem dL_law_387 : decode cL_law 387 = .ok (.laload, 1) := dc_laload (dby_of dby_6 (j := 3) rfl)
theorem dL_law_388 : decode cL_law 388 = .ok (.iload 6, 2) := dc_iload (dby_of dby_6 (j := 4) rfl) (dby_of dby_6 (j := 5) rfl) rfl
theorem dL_law_390 : decode cL_law 390 = .ok (.i2l, 1) := dc_i2l (dby_of dby_6 (j := 6) rfl)
theorem dL_law_391 : decode cL_law 391 = .ok (.lcmp, 1) := dc_lcmp (dby_of dby_6 (j := 7) rfl)
theorem dL_law_392 : decode cL_law 392 = .ok (.ifCond .eq 5, 3) := dc_ifCond_eq (dby_of dby_6 (j := 8) rfl) (dby_of dby_6 (j := 9) rfl) (dby_of dby_6 (j := 10) rfl) (by decide)
theorem dL_law_395 : decode cL_law 395 = .ok (.iconst 0, 1) := dc_iconst_0 (dby_of dby_6 (j := 11) rfl)
theorem dL_law_396 : decode cL_law 396 = .ok (.ireturn, 1) := dc_ireturn (dby_of dby_6 (j := 12) rfl)
theorem dL_law_397 : decode cL_law 397 = .ok (.goto 4154, 3) := dc_goto (dby_of dby_6 (j := 13) rfl) (dby_of dby_6 (j := 14) rfl) (dby_of dby_6 (j := 15) rfl) (by decide)
theorem dL_law_400 : decode cL_law 400 = .ok (.aload_n 1, 1) := dc_aload_n_1 (dby_of dby_6 (j := 16) rfl)
theorem dL_law_401 : decode cL_law 401 = .ok (.invokevirtual 191, 3) := dc_invokevirtual (dby_of dby_6 (j := 17) rfl) (dby_of dby_6 (j := 18) rfl) (dby_of dby_6 (j := 19) rfl) rfl
theorem dL_law_404 : decode cL_law 404 = .ok (.aload_n 2, 1) := dc_aload_n_2 (dby_of dby_6 (j := 20) rfl)
theorem dL_law_405 : decode cL_law 405 = .ok (.invokevirtual 194, 3) := dc_invokevirtual (dby_of dby_6 (j := 21) rfl) (dby_of dby_6 (j := 22) rfl) (dby_of dby_6 (j := 23) rfl) rfl
theorem dL_law_408 : decode cL_law 408 = .ok (.if_icmp .eq 4143, 3) := dc_if_icmp_eq (dby_of dby_6 (j := 24) rfl) (dby_of dby_6 (j := 25) rfl) (dby_of dby_6 (j := 26) rfl) (by decide)
theorem dL_law_411 : decode cL_law 411 = .ok (.iconst 0, 1) := dc_iconst_0 (dby_of dby_6 (j := 27) rfl)
theorem dL_law_412 : decode cL_law 412 = .ok (.ireturn, 1) := dc_ireturn (dby_of dby_6 (j := 28) rfl)
theorem dL_law_413 : decode cL_law 413 = .ok (.aload_n 1, 1) := dc_aload_n_1 (dby_of dby_6 (j := 29) rfl)
theorem dL_law_414 : decode cL_law 414 = .ok (.aload_n 0, 1) := dc_aload_n_0 (dby_of dby_6 (j := 30) rfl)
theorem dL_law_415 : decode cL_law 415 = .ok (.iload 4, 2) := dc_iload (dby_of dby_6 (j := 31) rfl) (dby_of dby_6 (j := 32) rfl) rfl
theorem dL_law_417 : decode cL_law 417 = .ok (.iconst 1, 1) := dc_iconst_1 (dby_of dby_6 (j := 33) rfl)
theorem dL_law_418 : decode cL_law 418 = .ok (.iadd, 1) := dc_iadd (dby_of dby_6 (j := 34) rfl)
theorem dL_law_419 : decode cL_law 419 = .ok (.iaload, 1) := dc_iaload (dby_of dby_6 (j := 35) rfl)
theorem dL_law_420 : decode cL_law 420 = .ok (.aload_n 3, 1) := dc_aload_n_3 (dby_of dby_6 (j := 36) rfl)
theorem dL_law_421 : decode cL_law 421 = .ok (.invokestatic 195, 3) := dc_invokestatic (dby_of dby_6 (j := 37) rfl) (dby_of dby_6 (j := 38) rfl) (dby_of dby_6 (j := 39) rfl) rfl
theorem dL_law_424 : decode cL_law 424 = .ok (.istore 5, 2) := dc_istore (dby_of dby_6 (j := 40) rfl) (dby_of dby_6 (j := 41) rfl) rfl
theorem dL_law_426 : decode cL_law 426 = .ok (.aload_n 2, 1) := dc_aload_n_2 (dby_of dby_6 (j := 42) rfl)
theorem dL_law_427 : decode cL_law 427 = .ok (.aload_n 0, 1) := dc_aload_n_0 (dby_of dby_6 (j := 43) rfl)
theorem dL_law_428 : decode cL_law 428 = .ok (.iload 4, 2) := dc_iload (dby_of dby_6 (j := 44) rfl) (dby_of dby_6 (j := 45) rfl) rfl
theorem dL_law_430 : decode cL_law 430 = .ok (.iconst 1, 1) := dc_iconst_1 (dby_of dby_6 (j := 46) rfl)
theorem dL_law_431 : decode cL_law 431 = .ok (.iadd, 1) := dc_iadd (dby_of dby_6 (j := 47) rfl)
theorem dL_law_432 : decode cL_law 432 = .ok (.iaload, 1) := dc_iaload (dby_of dby_6 (j := 48) rfl)
theorem dL_law_433 : decode cL_law 433 = .ok (.invokevirtual 197, 3) := dc_invokevirtual (dby_of dby_6 (j := 49) rfl) (dby_of dby_6 (j := 50) rfl) (dby_of dby_6 (j := 51) rfl) rfl
theorem dL_law_436 : decode cL_law 436 = .ok (.istore 6, 2) := dc_istore (dby_of dby_6 (j := 52) rfl) (dby_of dby_6 (j := 53) rfl) rfl
theorem dL_law_438 : decode cL_law 438 = .ok (.aload_n 2, 1) := dc_aload_n_2 (dby_of dby_6 (j := 54) rfl)
theorem dL_law_439 : decode cL_law 439 = .ok (.invokevirtual 183, 3) := dc_invokevirtual (dby_of dby_6 (j := 55) rfl) (dby_of dby_6 (j := 56) rfl) (dby_of dby_6 (j := 57) rfl) rfl
theorem dL_law_442 : decode cL_law 442 = .ok (.iload 5, 2) := dc_iload (dby_of dby_6 (j := 58) rfl) (dby_of dby_6 (j := 59) rfl) rfl
theorem dL_law_444 : decode cL_law 444 = .ok (.if_icmp .eq 5, 3) := dc_if_icmp_eq (dby_of dby_6 (j := 60) rfl) (dby_of dby_6 (j := 61) rfl) (dby_of dby_6 (j := 62) rfl) (by decide)
theorem dL_law_447 : decode cL_law 447 = .ok (.iconst 0, 1) := dc_iconst_0 (dby_of dby_6 (j := 63) rfl)
theorem dL_law_448 : decode cL_law 448 = .ok (.ireturn, 1) := dc_ireturn (dby_of dby_7 (j := 0) rfl)
theorem dL_law_449 : decode cL_law 449 = .ok (.iload 5, 2) := dc_iload (dby_of dby_7 (j := 1) rfl) (dby_of dby_7 (j := 2) rfl) rfl
theorem dL_law_451 : decode cL_law 451 = .ok (.ifCond .ne 15, 3) := dc_ifCond_ne (dby_of dby_7 (j := 3) rfl) (dby_of dby_7 (j := 4) rfl) (dby_of dby_7 (j := 5) rfl) (by decide)
theorem dL_law_454 : decode cL_law 454 = .ok (.aload_n 3, 1) := dc_aload_n_3 (dby_of dby_7 (j := 6) rfl)
theorem dL_law_455 : decode cL_law 455 = .ok (.iconst 0, 1) := dc_iconst_0 (dby_of dby_7 (j := 7) rfl)
theorem dL_law_456 : decode cL_law 456 = .ok (.laload, 1) := dc_laload (dby_of dby_7 (j := 8) rfl)
theorem dL_law_457 : decode cL_law 457 = .ok (.iload 6, 2) := dc_iload (dby_of dby_7 (j := 9) rfl) (dby_of dby_7 (j := 10) rfl) rfl
theorem dL_law_459 : decode cL_law 459 = .ok (.i2l, 1) := dc_i2l (dby_of dby_7 (j := 11) rfl)
theorem dL_law_460 : decode cL_law 460 = .ok (.lcmp, 1) := dc_lcmp (dby_of dby_7 (j := 12) rfl)
theorem dL_law_461 : decode cL_law 461 = .ok (.ifCond .eq 5, 3) := dc_ifCond_eq (dby_of dby_7 (j := 13) rfl) (dby_of dby_7 (j := 14) rfl) (dby_of dby_7 (j := 15) rfl) (by decide)
theorem dL_law_464 : decode cL_law 464 = .ok (.iconst 0, 1) := dc_iconst_0 (dby_of dby_7 (j := 16) rfl)
theorem dL_law_465 : decode cL_law 465 = .ok (.ireturn, 1) := dc_ireturn (dby_of dby_7 (j := 17) rfl)
theorem dL_law_466 : decode cL_law 466 = .ok (.goto 4085, 3) := dc_goto (dby_of dby_7 (j := 18) rfl) (dby_of dby_7 (j := 19) rfl) (dby_of dby_7 (j := 20) rfl) (by decide)
theorem dL_law_469 : decode cL_law 469 = .ok (.aload_n 1, 1) := dc_aload_n_1 (dby_of dby_7 (j := 21) rfl)
theorem dL_law_470 : decode cL_law 470 = .ok (.aload_n 0, 1) := dc_aload_n_0 (dby_of dby_7 (j := 22) rfl)
theorem dL_law_471 : decode cL_law 471 = .ok (.iload 4, 2) := dc_iload (dby_of dby_7 (j := 23) rfl) (dby_of dby_7 (j := 24) rfl) rfl
theorem dL_law_473 : decode cL_law 473 = .ok (.iconst 1, 1) := dc_iconst_1 (dby_of dby_7 (j := 25) rfl)
theorem dL_law_474 : decode cL_law 474 = .ok (.iadd, 1) := dc_iadd (dby_of dby_7 (j := 26) rfl)
theorem dL_law_475 : decode cL_law 475 = .ok (.iaload, 1) := dc_iaload (dby_of dby_7 (j := 27) rfl)
theorem dL_law_476 : decode cL_law 476 = .ok (.aload_n 0, 1) := dc_aload_n_0 (dby_of dby_7 (j := 28) rfl)
theorem dL_law_477 : decode cL_law 477 = .ok (.iload 4, 2) := dc_iload (dby_of dby_7 (j := 29) rfl) (dby_of dby_7 (j := 30) rfl) rfl
theorem dL_law_479 : decode cL_law 479 = .ok (.iconst 2, 1) := dc_iconst_2 (dby_of dby_7 (j := 31) rfl)
theorem dL_law_480 : decode cL_law 480 = .ok (.iadd, 1) := dc_iadd (dby_of dby_7 (j := 32) rfl)
theorem dL_law_481 : decode cL_law 481 = .ok (.iaload, 1) := dc_iaload (dby_of dby_7 (j := 33) rfl)
theorem dL_law_482 : decode cL_law 482 = .ok (.aload_n 3, 1) := dc_aload_n_3 (dby_of dby_7 (j := 34) rfl)
theorem dL_law_483 : decode cL_law 483 = .ok (.invokestatic 198, 3) := dc_invokestatic (dby_of dby_7 (j := 35) rfl) (dby_of dby_7 (j := 36) rfl) (dby_of dby_7 (j := 37) rfl) rfl
theorem dL_law_486 : decode cL_law 486 = .ok (.istore 5, 2) := dc_istore (dby_of dby_7 (j := 38) rfl) (dby_of dby_7 (j := 39) rfl) rfl
theorem dL_law_488 : decode cL_law 488 = .ok (.aload_n 2, 1) := dc_aload_n_2 (dby_of dby_7 (j := 40) rfl)
theorem dL_law_489 : decode cL_law 489 = .ok (.aload_n 0, 1) := dc_aload_n_0 (dby_of dby_7 (j := 41) rfl)
theorem dL_law_490 : decode cL_law 490 = .ok (.iload 4, 2) := dc_iload (dby_of dby_7 (j := 42) rfl) (dby_of dby_7 (j := 43) rfl) rfl
theorem dL_law_492 : decode cL_law 492 = .ok (.iconst 1, 1) := dc_iconst_1 (dby_of dby_7 (j := 44) rfl)
theorem dL_law_493 : decode cL_law 493 = .ok (.iadd, 1) := dc_iadd (dby_of dby_7 (j := 45) rfl)
theorem dL_law_494 : decode cL_law 494 = .ok (.iaload, 1) := dc_iaload (dby_of dby_7 (j := 46) rfl)
theorem dL_law_495 : decode cL_law 495 = .ok (.aload_n 0, 1) := dc_aload_n_0 (dby_of dby_7 (j := 47) rfl)
theorem dL_law_496 : decode cL_law 496 = .ok (.iload 4, 2) := dc_iload (dby_of dby_7 (j := 48) rfl) (dby_of dby_7 (j := 49) rfl) rfl
theorem dL_law_498 : decode cL_law 498 = .ok (.iconst 2, 1) := dc_iconst_2 (dby_of dby_7 (j := 50) rfl)
theorem dL_law_499 : decode cL_law 499 = .ok (.iadd, 1) := dc_iadd (dby_of dby_7 (j := 51) rfl)
theorem dL_law_500 : decode cL_law 500 = .ok (.iaload, 1) := dc_iaload (dby_of dby_7 (j := 52) rfl)
theorem dL_law_501 : decode cL_law 501 = .ok (.invokevirtual 201, 3) := dc_invokevirtual (dby_of dby_7 (j := 53) rfl) (dby_of dby_7 (j := 54) rfl) (dby_of dby_7 (j := 55) rfl) rfl
theorem dL_law_504 : decode cL_law 504 = .ok (.istore 6, 2) := dc_istore (dby_of dby_7 (j := 56) rfl) (dby_of dby_7 (j := 57) rfl) rfl
theorem dL_law_506 : decode cL_law 506 = .ok (.aload_n 2, 1) := dc_aload_n_2 (dby_of dby_7 (j := 58) rfl)
theorem dL_law_507 : decode cL_law 507 = .ok (.invokevirtual 183, 3) := dc_invokevirtual (dby_of dby_7 (j := 59) rfl) (dby_of dby_7 (j := 60) rfl) (dby_of dby_7 (j := 61) rfl) rfl
theorem dL_law_510 : decode cL_law 510 = .ok (.iload 5, 2) := dc_iload (dby_of dby_7 (j := 62) rfl) (dby_of dby_7 (j := 63) rfl) rfl
theorem dL_law_512 : decode cL_law 512 = .ok (.if_icmp .eq 5, 3) := dc_if_icmp_eq (dby_of dby_8 (j := 0) rfl) (dby_of dby_8 (j := 1) rfl) (dby_of dby_8 (j := 2) rfl) (by decide)
theorem dL_law_515 : decode cL_law 515 = .ok (.iconst 0, 1) := dc_iconst_0 (dby_of dby_8 (j := 3) rfl)
theorem dL_law_516 : decode cL_law 516 = .ok (.ireturn, 1) := dc_ireturn (dby_of dby_8 (j := 4) rfl)
theorem dL_law_517 : decode cL_law 517 = .ok (.iload 5, 2) := dc_iload (dby_of dby_8 (j := 5) rfl) (dby_of dby_8 (j := 6) rfl) rfl
theorem dL_law_519 : decode cL_law 519 = .ok (.ifCond .ne 15, 3) := dc_ifCond_ne (dby_of dby_8 (j := 7) rfl) (dby_of dby_8 (j := 8) rfl) (dby_of dby_8 (j := 9) rfl) (by decide)
theorem dL_law_522 : decode cL_law 522 = .ok (.aload_n 3, 1) := dc_aload_n_3 (dby_of dby_8 (j := 10) rfl)
theorem dL_law_523 : decode cL_law 523 = .ok (.iconst 0, 1) := dc_iconst_0 (dby_of dby_8 (j := 11) rfl)
theorem dL_law_524 : decode cL_law 524 = .ok (.laload, 1) := dc_laload (dby_of dby_8 (j := 12) rfl)
theorem dL_law_525 : decode cL_law 525 = .ok (.iload 6, 2) := dc_iload (dby_of dby_8 (j := 13) rfl) (dby_of dby_8 (j := 14) rfl) rfl
theorem dL_law_527 : decode cL_law 527 = .ok (.i2l, 1) := dc_i2l (dby_of dby_8 (j := 15) rfl)
theorem dL_law_528 : decode cL_law 528 = .ok (.lcmp, 1) := dc_lcmp (dby_of dby_8 (j := 16) rfl)
theorem dL_law_529 : decode cL_law 529 = .ok (.ifCond .eq 5, 3) := dc_ifCond_eq (dby_of dby_8 (j := 17) rfl) (dby_of dby_8 (j := 18) rfl) (dby_of dby_8 (j := 19) rfl) (by decide)
theorem dL_law_532 : decode cL_law 532 = .ok (.iconst 0, 1) := dc_iconst_0 (dby_of dby_8 (j := 20) rfl)
theorem dL_law_533 : decode cL_law 533 = .ok (.ireturn, 1) := dc_ireturn (dby_of dby_8 (j := 21) rfl)
theorem dL_law_534 : decode cL_law 534 = .ok (.goto 4017, 3) := dc_goto (dby_of dby_8 (j := 22) rfl) (dby_of dby_8 (j := 23) rfl) (dby_of dby_8 (j := 24) rfl) (by decide)
theorem dL_law_537 : decode cL_law 537 = .ok (.aload_n 1, 1) := dc_aload_n_1 (dby_of dby_8 (j := 25) rfl)
theorem dL_law_538 : decode cL_law 538 = .ok (.aload_n 0, 1) := dc_aload_n_0 (dby_of dby_8 (j := 26) rfl)
theorem dL_law_539 : decode cL_law 539 = .ok (.iload 4, 2) := dc_iload (dby_of dby_8 (j := 27) rfl) (dby_of dby_8 (j := 28) rfl) rfl
theorem dL_law_541 : decode cL_law 541 = .ok (.iconst 1, 1) := dc_iconst_1 (dby_of dby_8 (j := 29) rfl)
theorem dL_law_542 : decode cL_law 542 = .ok (.iadd, 1) := dc_iadd (dby_of dby_8 (j := 30) rfl)
theorem dL_law_543 : decode cL_law 543 = .ok (.iaload, 1) := dc_iaload (dby_of dby_8 (j := 31) rfl)
theorem dL_law_544 : decode cL_law 544 = .ok (.aload_n 0, 1) := dc_aload_n_0 (dby_of dby_8 (j := 32) rfl)
theorem dL_law_545 : decode cL_law 545 = .ok (.iload 4, 2) := dc_iload (dby_of dby_8 (j := 33) rfl) (dby_of dby_8 (j := 34) rfl) rfl
theorem dL_law_547 : decode cL_law 547 = .ok (.iconst 2, 1) := dc_iconst_2 (dby_of dby_8 (j := 35) rfl)
theorem dL_law_548 : decode cL_law 548 = .ok (.iadd, 1) := dc_iadd (dby_of dby_8 (j := 36) rfl)
theorem dL_law_549 : decode cL_law 549 = .ok (.iaload, 1) := dc_iaload (dby_of dby_8 (j := 37) rfl)
theorem dL_law_550 : decode cL_law 550 = .ok (.aload_n 0, 1) := dc_aload_n_0 (dby_of dby_8 (j := 38) rfl)
theorem dL_law_551 : decode cL_law 551 = .ok (.iload 4, 2) := dc_iload (dby_of dby_8 (j := 39) rfl) (dby_of dby_8 (j := 40) rfl) rfl
theorem dL_law_553 : decode cL_law 553 = .ok (.iconst 3, 1) := dc_iconst_3 (dby_of dby_8 (j := 41) rfl)
theorem dL_law_554 : decode cL_law 554 = .ok (.iadd, 1) := dc_iadd (dby_of dby_8 (j := 42) rfl)
theorem dL_law_555 : decode cL_law 555 = .ok (.iaload, 1) := dc_iaload (dby_of dby_8 (j := 43) rfl)
theorem dL_law_556 : decode cL_law 556 = .ok (.aload_n 3, 1) := dc_aload_n_3 (dby_of dby_8 (j := 44) rfl)
theorem dL_law_557 : decode cL_law 557 = .ok (.invokestatic 202, 3) := dc_invokestatic (dby_of dby_8 (j := 45) rfl) (dby_of dby_8 (j := 46) rfl) (dby_of dby_8 (j := 47) rfl) rfl
theorem dL_law_560 : decode cL_law 560 = .ok (.istore 5, 2) := dc_istore (dby_of dby_8 (j := 48) rfl) (dby_of dby_8 (j := 49) rfl) rfl
theorem dL_law_562 : decode cL_law 562 = .ok (.aload_n 2, 1) := dc_aload_n_2 (dby_of dby_8 (j := 50) rfl)
theorem dL_law_563 : decode cL_law 563 = .ok (.aload_n 0, 1) := dc_aload_n_0 (dby_of dby_8 (j := 51) rfl)
theorem dL_law_564 : decode cL_law 564 = .ok (.iload 4, 2) := dc_iload (dby_of dby_8 (j := 52) rfl) (dby_of dby_8 (j := 53) rfl) rfl
theorem dL_law_566 : decode cL_law 566 = .ok (.iconst 1, 1) := dc_iconst_1 (dby_of dby_8 (j := 54) rfl)
theorem dL_law_567 : decode cL_law 567 = .ok (.iadd, 1) := dc_iadd (dby_of dby_8 (j := 55) rfl)
theorem dL_law_568 : decode cL_law 568 = .ok (.iaload, 1) := dc_iaload (dby_of dby_8 (j := 56) rfl)
theorem dL_law_569 : decode cL_law 569 = .ok (.aload_n 0, 1) := dc_aload_n_0 (dby_of dby_8 (j := 57) rfl)
theorem dL_law_570 : decode cL_law 570 = .ok (.iload 4, 2) := dc_iload (dby_of dby_8 (j := 58) rfl) (dby_of dby_8 (j := 59) rfl) rfl
theorem dL_law_572 : decode cL_law 572 = .ok (.iconst 2, 1) := dc_iconst_2 (dby_of dby_8 (j := 60) rfl)
theorem dL_law_573 : decode cL_law 573 = .ok (.iadd, 1) := dc_iadd (dby_of dby_8 (j := 61) rfl)
theorem dL_law_574 : decode cL_law 574 = .ok (.iaload, 1) := dc_iaload (dby_of dby_8 (j := 62) rfl)
theorem dL_law_575 : decode cL_law 575 = .ok (.aload_n 0, 1) := dc_aload_n_0 (dby_of dby_8 (j := 63) rfl)
theorem dL_law_576 : decode cL_law 576 = .ok (.iload 4, 2) := dc_iload (dby_of dby_9 (j := 0) rfl) (dby_of dby_9 (j := 1) rfl) rfl
theorem dL_law_578 : decode cL_law 578 = .ok (.iconst 3, 1) := dc_iconst_3 (dby_of dby_9 (j := 2) rfl)
theorem dL_law_579 : decode cL_law 579 = .ok (.iadd, 1) := dc_iadd (dby_of dby_9 (j := 3) rfl)
theorem dL_law_580 : decode cL_law 580 = .ok (.iaload, 1) := dc_iaload (dby_of dby_9 (j := 4) rfl)
theorem dL_law_581 : decode cL_law 581 = .ok (.invokevirtual 204, 3) := dc_invokevirtual (dby_of dby_9 (j := 5) rfl) (dby_of dby_9 (j := 6) rfl) (dby_of dby_9 (j := 7) rfl) rfl
theorem dL_law_584 : decode cL_law 584 = .ok (.istore 6, 2) := dc_istore (dby_of dby_9 (j := 8) rfl) (dby_of dby_9 (j := 9) rfl) rfl
theorem dL_law_586 : decode cL_law 586 = .ok (.aload_n 2, 1) := dc_aload_n_2 (dby_of dby_9 (j := 10) rfl)
theorem dL_law_587 : decode cL_law 587 = .ok (.invokevirtual 183, 3) := dc_invokevirtual (dby_of dby_9 (j := 11) rfl) (dby_of dby_9 (j := 12) rfl) (dby_of dby_9 (j := 13) rfl) rfl
theorem dL_law_590 : decode cL_law 590 = .ok (.iload 5, 2) := dc_iload (dby_of dby_9 (j := 14) rfl) (dby_of dby_9 (j := 15) rfl) rfl
theorem dL_law_592 : decode cL_law 592 = .ok (.if_icmp .eq 5, 3) := dc_if_icmp_eq (dby_of dby_9 (j := 16) rfl) (dby_of dby_9 (j := 17) rfl) (dby_of dby_9 (j := 18) rfl) (by decide)
theorem dL_law_595 : decode cL_law 595 = .ok (.iconst 0, 1) := dc_iconst_0 (dby_of dby_9 (j := 19) rfl)
theorem dL_law_596 : decode cL_law 596 = .ok (.ireturn, 1) := dc_ireturn (dby_of dby_9 (j := 20) rfl)
theorem dL_law_597 : decode cL_law 597 = .ok (.iload 5, 2) := dc_iload (dby_of dby_9 (j := 21) rfl) (dby_of dby_9 (j := 22) rfl) rfl
theorem dL_law_599 : decode cL_law 599 = .ok (.ifCond .ne 15, 3) := dc_ifCond_ne (dby_of dby_9 (j := 23) rfl) (dby_of dby_9 (j := 24) rfl) (dby_of dby_9 (j := 25) rfl) (by decide)
theorem dL_law_602 : decode cL_law 602 = .ok (.aload_n 3, 1) := dc_aload_n_3 (dby_of dby_9 (j := 26) rfl)
theorem dL_law_603 : decode cL_law 603 = .ok (.iconst 0, 1) := dc_iconst_0 (dby_of dby_9 (j := 27) rfl)
theorem dL_law_604 : decode cL_law 604 = .ok (.laload, 1) := dc_laload (dby_of dby_9 (j := 28) rfl)
theorem dL_law_605 : decode cL_law 605 = .ok (.iload 6, 2) := dc_iload (dby_of dby_9 (j := 29) rfl) (dby_of dby_9 (j := 30) rfl) rfl
theorem dL_law_607 : decode cL_law 607 = .ok (.i2l, 1) := dc_i2l (dby_of dby_9 (j := 31) rfl)
theorem dL_law_608 : decode cL_law 608 = .ok (.lcmp, 1) := dc_lcmp (dby_of dby_9 (j := 32) rfl)
theorem dL_law_609 : decode cL_law 609 = .ok (.ifCond .eq 5, 3) := dc_ifCond_eq (dby_of dby_9 (j := 33) rfl) (dby_of dby_9 (j := 34) rfl) (dby_of dby_9 (j := 35) rfl) (by decide)
theorem dL_law_612 : decode cL_law 612 = .ok (.iconst 0, 1) := dc_iconst_0 (dby_of dby_9 (j := 36) rfl)
theorem dL_law_613 : decode cL_law 613 = .ok (.ireturn, 1) := dc_ireturn (dby_of dby_9 (j := 37) rfl)
theorem dL_law_614 : decode cL_law 614 = .ok (.goto 3937, 3) := dc_goto (dby_of dby_9 (j := 38) rfl) (dby_of dby_9 (j := 39) rfl) (dby_of dby_9 (j := 40) rfl) (by decide)
theorem dL_law_617 : decode cL_law 617 = .ok (.aload_n 1, 1) := dc_aload_n_1 (dby_of dby_9 (j := 41) rfl)
theorem dL_law_618 : decode cL_law 618 = .ok (.aload_n 0, 1) := dc_aload_n_0 (dby_of dby_9 (j := 42) rfl)
theorem dL_law_619 : decode cL_law 619 = .ok (.iload 4, 2) := dc_iload (dby_of dby_9 (j := 43) rfl) (dby_of dby_9 (j := 44) rfl) rfl
theorem dL_law_621 : decode cL_law 621 = .ok (.iconst 1, 1) := dc_iconst_1 (dby_of dby_9 (j := 45) rfl)
theorem dL_law_622 : decode cL_law 622 = .ok (.iadd, 1) := dc_iadd (dby_of dby_9 (j := 46) rfl)
theorem dL_law_623 : decode cL_law 623 = .ok (.iaload, 1) := dc_iaload (dby_of dby_9 (j := 47) rfl)
theorem dL_law_624 : decode cL_law 624 = .ok (.aload_n 0, 1) := dc_aload_n_0 (dby_of dby_9 (j := 48) rfl)
theorem dL_law_625 : decode cL_law 625 = .ok (.iload 4, 2) := dc_iload (dby_of dby_9 (j := 49) rfl) (dby_of dby_9 (j := 50) rfl) rfl
theorem dL_law_627 : decode cL_law 627 = .ok (.iconst 2, 1) := dc_iconst_2 (dby_of dby_9 (j := 51) rfl)
theorem dL_law_628 : decode cL_law 628 = .ok (.iadd, 1) := dc_iadd (dby_of dby_9 (j := 52) rfl)
theorem dL_law_629 : decode cL_law 629 = .ok (.iaload, 1) := dc_iaload (dby_of dby_9 (j := 53) rfl)
theorem dL_law_630 : decode cL_law 630 = .ok (.aload_n 0, 1) := dc_aload_n_0 (dby_of dby_9 (j := 54) rfl)
theorem dL_law_631 : decode cL_law 631 = .ok (.iload 4, 2) := dc_iload (dby_of dby_9 (j := 55) rfl) (dby_of dby_9 (j := 56) rfl) rfl
theorem dL_law_633 : decode cL_law 633 = .ok (.iconst 3, 1) := dc_iconst_3 (dby_of dby_9 (j := 57) rfl)
theorem dL_law_634 : decode cL_law 634 = .ok (.iadd, 1) := dc_iadd (dby_of dby_9 (j := 58) rfl)
theorem dL_law_635 : decode cL_law 635 = .ok (.iaload, 1) := dc_iaload (dby_of dby_9 (j := 59) rfl)
theorem dL_law_636 : decode cL_law 636 = .ok (.aload_n 3, 1) := dc_aload_n_3 (dby_of dby_9 (j := 60) rfl)
theorem dL_law_637 : decode cL_law 637 = .ok (.invokestatic 205, 3) := dc_invokestatic (dby_of dby_9 (j := 61) rfl) (dby_of dby_9 (j := 62) rfl) (dby_of dby_9 (j := 63) rfl) rfl
theorem dL_law_640 : decode cL_law 640 = .ok (.istore 5, 2) := dc_istore (dby_of dby_10 (j := 0) rfl) (dby_of dby_10 (j := 1) rfl) rfl
theorem dL_law_642 : decode cL_law 642 = .ok (.aload_n 2, 1) := dc_aload_n_2 (dby_of dby_10 (j := 2) rfl)
theorem dL_law_643 : decode cL_law 643 = .ok (.aload_n 0, 1) := dc_aload_n_0 (dby_of dby_10 (j := 3) rfl)
theorem dL_law_644 : decode cL_law 644 = .ok (.iload 4, 2) := dc_iload (dby_of dby_10 (j := 4) rfl) (dby_of dby_10 (j := 5) rfl) rfl
theorem dL_law_646 : decode cL_law 646 = .ok (.iconst 1, 1) := dc_iconst_1 (dby_of dby_10 (j := 6) rfl)
theorem dL_law_647 : decode cL_law 647 = .ok (.iadd, 1) := dc_iadd (dby_of dby_10 (j := 7) rfl)
theorem dL_law_648 : decode cL_law 648 = .ok (.iaload, 1) := dc_iaload (dby_of dby_10 (j := 8) rfl)
theorem dL_law_649 : decode cL_law 649 = .ok (.aload_n 0, 1) := dc_aload_n_0 (dby_of dby_10 (j := 9) rfl)
theorem dL_law_650 : decode cL_law 650 = .ok (.iload 4, 2) := dc_iload (dby_of dby_10 (j := 10) rfl) (dby_of dby_10 (j := 11) rfl) rfl
theorem dL_law_652 : decode cL_law 652 = .ok (.iconst 2, 1) := dc_iconst_2 (dby_of dby_10 (j := 12) rfl)
theorem dL_law_653 : decode cL_law 653 = .ok (.iadd, 1) := dc_iadd (dby_of dby_10 (j := 13) rfl)
theorem dL_law_654 : decode cL_law 654 = .ok (.iaload, 1) := dc_iaload (dby_of dby_10 (j := 14) rfl)
theorem dL_law_655 : decode cL_law 655 = .ok (.aload_n 0, 1) := dc_aload_n_0 (dby_of dby_10 (j := 15) rfl)
theorem dL_law_656 : decode cL_law 656 = .ok (.iload 4, 2) := dc_iload (dby_of dby_10 (j := 16) rfl) (dby_of dby_10 (j := 17) rfl) rfl
theorem dL_law_658 : decode cL_law 658 = .ok (.iconst 3, 1) := dc_iconst_3 (dby_of dby_10 (j := 18) rfl)
theorem dL_law_659 : decode cL_law 659 = .ok (.iadd, 1) := dc_iadd (dby_of dby_10 (j := 19) rfl)
theorem dL_law_660 : decode cL_law 660 = .ok (.iaload, 1) := dc_iaload (dby_of dby_10 (j := 20) rfl)
theorem dL_law_661 : decode cL_law 661 = .ok (.invokevirtual 207, 3) := dc_invokevirtual (dby_of dby_10 (j := 21) rfl) (dby_of dby_10 (j := 22) rfl) (dby_of dby_10 (j := 23) rfl) rfl
theorem dL_law_664 : decode cL_law 664 = .ok (.istore 6, 2) := dc_istore (dby_of dby_10 (j := 24) rfl) (dby_of dby_10 (j := 25) rfl) rfl
theorem dL_law_666 : decode cL_law 666 = .ok (.aload_n 2, 1) := dc_aload_n_2 (dby_of dby_10 (j := 26) rfl)
theorem dL_law_667 : decode cL_law 667 = .ok (.invokevirtual 183, 3) := dc_invokevirtual (dby_of dby_10 (j := 27) rfl) (dby_of dby_10 (j := 28) rfl) (dby_of dby_10 (j := 29) rfl) rfl
theorem dL_law_670 : decode cL_law 670 = .ok (.iload 5, 2) := dc_iload (dby_of dby_10 (j := 30) rfl) (dby_of dby_10 (j := 31) rfl) rfl
theorem dL_law_672 : decode cL_law 672 = .ok (.if_icmp .eq 5, 3) := dc_if_icmp_eq (dby_of dby_10 (j := 32) rfl) (dby_of dby_10 (j := 33) rfl) (dby_of dby_10 (j := 34) rfl) (by decide)
theorem dL_law_675 : decode cL_law 675 = .ok (.iconst 0, 1) := dc_iconst_0 (dby_of dby_10 (j := 35) rfl)
theorem dL_law_676 : decode cL_law 676 = .ok (.ireturn, 1) := dc_ireturn (dby_of dby_10 (j := 36) rfl)
theorem dL_law_677 : decode cL_law 677 = .ok (.iload 5, 2) := dc_iload (dby_of dby_10 (j := 37) rfl) (dby_of dby_10 (j := 38) rfl) rfl
theorem dL_law_679 : decode cL_law 679 = .ok (.ifCond .ne 15, 3) := dc_ifCond_ne (dby_of dby_10 (j := 39) rfl) (dby_of dby_10 (j := 40) rfl) (dby_of dby_10 (j := 41) rfl) (by decide)
theorem dL_law_682 : decode cL_law 682 = .ok (.aload_n 3, 1) := dc_aload_n_3 (dby_of dby_10 (j := 42) rfl)
theorem dL_law_683 : decode cL_law 683 = .ok (.iconst 0, 1) := dc_iconst_0 (dby_of dby_10 (j := 43) rfl)
theorem dL_law_684 : decode cL_law 684 = .ok (.laload, 1) := dc_laload (dby_of dby_10 (j := 44) rfl)
theorem dL_law_685 : decode cL_law 685 = .ok (.iload 6, 2) := dc_iload (dby_of dby_10 (j := 45) rfl) (dby_of dby_10 (j := 46) rfl) rfl
theorem dL_law_687 : decode cL_law 687 = .ok (.i2l, 1) := dc_i2l (dby_of dby_10 (j := 47) rfl)
theorem dL_law_688 : decode cL_law 688 = .ok (.lcmp, 1) := dc_lcmp (dby_of dby_10 (j := 48) rfl)
theorem dL_law_689 : decode cL_law 689 = .ok (.ifCond .eq 5, 3) := dc_ifCond_eq (dby_of dby_10 (j := 49) rfl) (dby_of dby_10 (j := 50) rfl) (dby_of dby_10 (j := 51) rfl) (by decide)
theorem dL_law_692 : decode cL_law 692 = .ok (.iconst 0, 1) := dc_iconst_0 (dby_of dby_10 (j := 52) rfl)
theorem dL_law_693 : decode cL_law 693 = .ok (.ireturn, 1) := dc_ireturn (dby_of dby_10 (j := 53) rfl)
theorem dL_law_694 : decode cL_law 694 = .ok (.goto 3857, 3) := dc_goto (dby_of dby_10 (j := 54) rfl) (dby_of dby_10 (j := 55) rfl) (dby_of dby_10 (j := 56) rfl) (by decide)
theorem dL_law_697 : decode cL_law 697 = .ok (.aload_n 1, 1) := dc_aload_n_1 (dby_of dby_10 (j := 57) rfl)
theorem dL_law_698 : decode cL_law 698 = .ok (.aload_n 0, 1) := dc_aload_n_0 (dby_of dby_10 (j := 58) rfl)
theorem dL_law_699 : decode cL_law 699 = .ok (.iload 4, 2) := dc_iload (dby_of dby_10 (j := 59) rfl) (dby_of dby_10 (j := 60) rfl) rfl
theorem dL_law_701 : decode cL_law 701 = .ok (.iconst 1, 1) := dc_iconst_1 (dby_of dby_10 (j := 61) rfl)
theorem dL_law_702 : decode cL_law 702 = .ok (.iadd, 1) := dc_iadd (dby_of dby_10 (j := 62) rfl)
theorem dL_law_703 : decode cL_law 703 = .ok (.iaload, 1) := dc_iaload (dby_of dby_10 (j := 63) rfl)
theorem dL_law_704 : decode cL_law 704 = .ok (.aload_n 0, 1) := dc_aload_n_0 (dby_of dby_11 (j := 0) rfl)
theorem dL_law_705 : decode cL_law 705 = .ok (.iload 4, 2) := dc_iload (dby_of dby_11 (j := 1) rfl) (dby_of dby_11 (j := 2) rfl) rfl
theorem dL_law_707 : decode cL_law 707 = .ok (.iconst 2, 1) := dc_iconst_2 (dby_of dby_11 (j := 3) rfl)
theorem dL_law_708 : decode cL_law 708 = .ok (.iadd, 1) := dc_iadd (dby_of dby_11 (j := 4) rfl)
theorem dL_law_709 : decode cL_law 709 = .ok (.iaload, 1) := dc_iaload (dby_of dby_11 (j := 5) rfl)
theorem dL_law_710 : decode cL_law 710 = .ok (.aload_n 0, 1) := dc_aload_n_0 (dby_of dby_11 (j := 6) rfl)
theorem dL_law_711 : decode cL_law 711 = .ok (.iload 4, 2) := dc_iload (dby_of dby_11 (j := 7) rfl) (dby_of dby_11 (j := 8) rfl) rfl
theorem dL_law_713 : decode cL_law 713 = .ok (.iconst 3, 1) := dc_iconst_3 (dby_of dby_11 (j := 9) rfl)
theorem dL_law_714 : decode cL_law 714 = .ok (.iadd, 1) := dc_iadd (dby_of dby_11 (j := 10) rfl)
theorem dL_law_715 : decode cL_law 715 = .ok (.iaload, 1) := dc_iaload (dby_of dby_11 (j := 11) rfl)
theorem dL_law_716 : decode cL_law 716 = .ok (.ifCond .eq 7, 3) := dc_ifCond_eq (dby_of dby_11 (j := 12) rfl) (dby_of dby_11 (j := 13) rfl) (dby_of dby_11 (j := 14) rfl) (by decide)
theorem dL_law_719 : decode cL_law 719 = .ok (.iconst 1, 1) := dc_iconst_1 (dby_of dby_11 (j := 15) rfl)
theorem dL_law_720 : decode cL_law 720 = .ok (.goto 4, 3) := dc_goto (dby_of dby_11 (j := 16) rfl) (dby_of dby_11 (j := 17) rfl) (dby_of dby_11 (j := 18) rfl) (by decide)
theorem dL_law_723 : decode cL_law 723 = .ok (.iconst 0, 1) := dc_iconst_0 (dby_of dby_11 (j := 19) rfl)
theorem dL_law_724 : decode cL_law 724 = .ok (.aload_n 3, 1) := dc_aload_n_3 (dby_of dby_11 (j := 20) rfl)
theorem dL_law_725 : decode cL_law 725 = .ok (.invokestatic 208, 3) := dc_invokestatic (dby_of dby_11 (j := 21) rfl) (dby_of dby_11 (j := 22) rfl) (dby_of dby_11 (j := 23) rfl) rfl
theorem dL_law_728 : decode cL_law 728 = .ok (.istore 5, 2) := dc_istore (dby_of dby_11 (j := 24) rfl) (dby_of dby_11 (j := 25) rfl) rfl
theorem dL_law_730 : decode cL_law 730 = .ok (.aload_n 2, 1) := dc_aload_n_2 (dby_of dby_11 (j := 26) rfl)
theorem dL_law_731 : decode cL_law 731 = .ok (.aload_n 0, 1) := dc_aload_n_0 (dby_of dby_11 (j := 27) rfl)
theorem dL_law_732 : decode cL_law 732 = .ok (.iload 4, 2) := dc_iload (dby_of dby_11 (j := 28) rfl) (dby_of dby_11 (j := 29) rfl) rfl
theorem dL_law_734 : decode cL_law 734 = .ok (.iconst 1, 1) := dc_iconst_1 (dby_of dby_11 (j := 30) rfl)
theorem dL_law_735 : decode cL_law 735 = .ok (.iadd, 1) := dc_iadd (dby_of dby_11 (j := 31) rfl)
theorem dL_law_736 : decode cL_law 736 = .ok (.iaload, 1) := dc_iaload (dby_of dby_11 (j := 32) rfl)
theorem dL_law_737 : decode cL_law 737 = .ok (.aload_n 0, 1) := dc_aload_n_0 (dby_of dby_11 (j := 33) rfl)
theorem dL_law_738 : decode cL_law 738 = .ok (.iload 4, 2) := dc_iload (dby_of dby_11 (j := 34) rfl) (dby_of dby_11 (j := 35) rfl) rfl
theorem dL_law_740 : decode cL_law 740 = .ok (.iconst 2, 1) := dc_iconst_2 (dby_of dby_11 (j := 36) rfl)
theorem dL_law_741 : decode cL_law 741 = .ok (.iadd, 1) := dc_iadd (dby_of dby_11 (j := 37) rfl)
theorem dL_law_742 : decode cL_law 742 = .ok (.iaload, 1) := dc_iaload (dby_of dby_11 (j := 38) rfl)
theorem dL_law_743 : decode cL_law 743 = .ok (.aload_n 0, 1) := dc_aload_n_0 (dby_of dby_11 (j := 39) rfl)
theorem dL_law_744 : decode cL_law 744 = .ok (.iload 4, 2) := dc_iload (dby_of dby_11 (j := 40) rfl) (dby_of dby_11 (j := 41) rfl) rfl
theorem dL_law_746 : decode cL_law 746 = .ok (.iconst 3, 1) := dc_iconst_3 (dby_of dby_11 (j := 42) rfl)
theorem dL_law_747 : decode cL_law 747 = .ok (.iadd, 1) := dc_iadd (dby_of dby_11 (j := 43) rfl)
theorem dL_law_748 : decode cL_law 748 = .ok (.iaload, 1) := dc_iaload (dby_of dby_11 (j := 44) rfl)
theorem dL_law_749 : decode cL_law 749 = .ok (.ifCond .eq 7, 3) := dc_ifCond_eq (dby_of dby_11 (j := 45) rfl) (dby_of dby_11 (j := 46) rfl) (dby_of dby_11 (j := 47) rfl) (by decide)
theorem dL_law_752 : decode cL_law 752 = .ok (.iconst 1, 1) := dc_iconst_1 (dby_of dby_11 (j := 48) rfl)
theorem dL_law_753 : decode cL_law 753 = .ok (.goto 4, 3) := dc_goto (dby_of dby_11 (j := 49) rfl) (dby_of dby_11 (j := 50) rfl) (dby_of dby_11 (j := 51) rfl) (by decide)
theorem dL_law_756 : decode cL_law 756 = .ok (.iconst 0, 1) := dc_iconst_0 (dby_of dby_11 (j := 52) rfl)
theorem dL_law_757 : decode cL_law 757 = .ok (.invokevirtual 211, 3) := dc_invokevirtual (dby_of dby_11 (j := 53) rfl) (dby_of dby_11 (j := 54) rfl) (dby_of dby_11 (j := 55) rfl) rfl
theorem dL_law_760 : decode cL_law 760 = .ok (.istore 6, 2) := dc_istore (dby_of dby_11 (j := 56) rfl) (dby_of dby_11 (j := 57) rfl) rfl
theorem dL_law_762 : decode cL_law 762 = .ok (.aload_n 2, 1) := dc_aload_n_2 (dby_of dby_11 (j := 58) rfl)
theorem dL_law_763 : decode cL_law 763 = .ok (.invokevirtual 183, 3) := dc_invokevirtual (dby_of dby_11 (j := 59) rfl) (dby_of dby_11 (j := 60) rfl) (dby_of dby_11 (j := 61) rfl) rfl
theorem dL_law_766 : decode cL_law 766 = .ok (.iload 5, 2) := dc_iload (dby_of dby_11 (j := 62) rfl) (dby_of dby_11 (j := 63) rfl) rfl
theorem dL_law_768 : decode cL_law 768 = .ok (.if_icmp .eq 5, 3) := dc_if_icmp_eq (dby_of dby_12 (j := 0) rfl) (dby_of dby_12 (j := 1) rfl) (dby_of dby_12 (j := 2) rfl) (by decide)
theorem dL_law_771 : decode cL_law 771 = .ok (.iconst 0, 1) := dc_iconst_0 (dby_of dby_12 (j := 3) rfl)
theorem dL_law_772 : decode cL_law 772 = .ok (.ireturn, 1) := dc_ireturn (dby_of dby_12 (j := 4) rfl)
theorem dL_law_773 : decode cL_law 773 = .ok (.iload 5, 2) := dc_iload (dby_of dby_12 (j := 5) rfl) (dby_of dby_12 (j := 6) rfl) rfl
theorem dL_law_775 : decode cL_law 775 = .ok (.ifCond .ne 15, 3) := dc_ifCond_ne (dby_of dby_12 (j := 7) rfl) (dby_of dby_12 (j := 8) rfl) (dby_of dby_12 (j := 9) rfl) (by decide)
theorem dL_law_778 : decode cL_law 778 = .ok (.aload_n 3, 1) := dc_aload_n_3 (dby_of dby_12 (j := 10) rfl)
theorem dL_law_779 : decode cL_law 779 = .ok (.iconst 0, 1) := dc_iconst_0 (dby_of dby_12 (j := 11) rfl)
theorem dL_law_780 : decode cL_law 780 = .ok (.laload, 1) := dc_laload (dby_of dby_12 (j := 12) rfl)
theorem dL_law_781 : decode cL_law 781 = .ok (.iload 6, 2) := dc_iload (dby_of dby_12 (j := 13) rfl) (dby_of dby_12 (j := 14) rfl) rfl
theorem dL_law_783 : decode cL_law 783 = .ok (.i2l, 1) := dc_i2l (dby_of dby_12 (j := 15) rfl)
theorem dL_law_784 : decode cL_law 784 = .ok (.lcmp, 1) := dc_lcmp (dby_of dby_12 (j := 16) rfl)
theorem dL_law_785 : decode cL_law 785 = .ok (.ifCond .eq 5, 3) := dc_ifCond_eq (dby_of dby_12 (j := 17) rfl) (dby_of dby_12 (j := 18) rfl) (dby_of dby_12 (j := 19) rfl) (by decide)
theorem dL_law_788 : decode cL_law 788 = .ok (.iconst 0, 1) := dc_iconst_0 (dby_of dby_12 (j := 20) rfl)
theorem dL_law_789 : decode cL_law 789 = .ok (.ireturn, 1) := dc_ireturn (dby_of dby_12 (j := 21) rfl)
theorem dL_law_790 : decode cL_law 790 = .ok (.goto 3761, 3) := dc_goto (dby_of dby_12 (j := 22) rfl) (dby_of dby_12 (j := 23) rfl) (dby_of dby_12 (j := 24) rfl) (by decide)
theorem dL_law_793 : decode cL_law 793 = .ok (.aload_n 1, 1) := dc_aload_n_1 (dby_of dby_12 (j := 25) rfl)
theorem dL_law_794 : decode cL_law 794 = .ok (.aload_n 0, 1) := dc_aload_n_0 (dby_of dby_12 (j := 26) rfl)
theorem dL_law_795 : decode cL_law 795 = .ok (.iload 4, 2) := dc_iload (dby_of dby_12 (j := 27) rfl) (dby_of dby_12 (j := 28) rfl) rfl
theorem dL_law_797 : decode cL_law 797 = .ok (.iconst 1, 1) := dc_iconst_1 (dby_of dby_12 (j := 29) rfl)
theorem dL_law_798 : decode cL_law 798 = .ok (.iadd, 1) := dc_iadd (dby_of dby_12 (j := 30) rfl)
theorem dL_law_799 : decode cL_law 799 = .ok (.iaload, 1) := dc_iaload (dby_of dby_12 (j := 31) rfl)
theorem dL_law_800 : decode cL_law 800 = .ok (.aload_n 0, 1) := dc_aload_n_0 (dby_of dby_12 (j := 32) rfl)
theorem dL_law_801 : decode cL_law 801 = .ok (.iload 4, 2) := dc_iload (dby_of dby_12 (j := 33) rfl) (dby_of dby_12 (j := 34) rfl) rfl
theorem dL_law_803 : decode cL_law 803 = .ok (.iconst 2, 1) := dc_iconst_2 (dby_of dby_12 (j := 35) rfl)
theorem dL_law_804 : decode cL_law 804 = .ok (.iadd, 1) := dc_iadd (dby_of dby_12 (j := 36) rfl)
theorem dL_law_805 : decode cL_law 805 = .ok (.iaload, 1) := dc_iaload (dby_of dby_12 (j := 37) rfl)
theorem dL_law_806 : decode cL_law 806 = .ok (.ifCond .eq 7, 3) := dc_ifCond_eq (dby_of dby_12 (j := 38) rfl) (dby_of dby_12 (j := 39) rfl) (dby_of dby_12 (j := 40) rfl) (by decide)
theorem dL_law_809 : decode cL_law 809 = .ok (.iconst 1, 1) := dc_iconst_1 (dby_of dby_12 (j := 41) rfl)
theorem dL_law_810 : decode cL_law 810 = .ok (.goto 4, 3) := dc_goto (dby_of dby_12 (j := 42) rfl) (dby_of dby_12 (j := 43) rfl) (dby_of dby_12 (j := 44) rfl) (by decide)
theorem dL_law_813 : decode cL_law 813 = .ok (.iconst 0, 1) := dc_iconst_0 (dby_of dby_12 (j := 45) rfl)
theorem dL_law_814 : decode cL_law 814 = .ok (.aload_n 3, 1) := dc_aload_n_3 (dby_of dby_12 (j := 46) rfl)
theorem dL_law_815 : decode cL_law 815 = .ok (.invokestatic 212, 3) := dc_invokestatic (dby_of dby_12 (j := 47) rfl) (dby_of dby_12 (j := 48) rfl) (dby_of dby_12 (j := 49) rfl) rfl
theorem dL_law_818 : decode cL_law 818 = .ok (.istore 5, 2) := dc_istore (dby_of dby_12 (j := 50) rfl) (dby_of dby_12 (j := 51) rfl) rfl
theorem dL_law_820 : decode cL_law 820 = .ok (.aload_n 2, 1) := dc_aload_n_2 (dby_of dby_12 (j := 52) rfl)
theorem dL_law_821 : decode cL_law 821 = .ok (.aload_n 0, 1) := dc_aload_n_0 (dby_of dby_12 (j := 53) rfl)
theorem dL_law_822 : decode cL_law 822 = .ok (.iload 4, 2) := dc_iload (dby_of dby_12 (j := 54) rfl) (dby_of dby_12 (j := 55) rfl) rfl
theorem dL_law_824 : decode cL_law 824 = .ok (.iconst 1, 1) := dc_iconst_1 (dby_of dby_12 (j := 56) rfl)
theorem dL_law_825 : decode cL_law 825 = .ok (.iadd, 1) := dc_iadd (dby_of dby_12 (j := 57) rfl)
theorem dL_law_826 : decode cL_law 826 = .ok (.iaload, 1) := dc_iaload (dby_of dby_12 (j := 58) rfl)
theorem dL_law_827 : decode cL_law 827 = .ok (.aload_n 0, 1) := dc_aload_n_0 (dby_of dby_12 (j := 59) rfl)
theorem dL_law_828 : decode cL_law 828 = .ok (.iload 4, 2) := dc_iload (dby_of dby_12 (j := 60) rfl) (dby_of dby_12 (j := 61) rfl) rfl
theorem dL_law_830 : decode cL_law 830 = .ok (.iconst 2, 1) := dc_iconst_2 (dby_of dby_12 (j := 62) rfl)
theorem dL_law_831 : decode cL_law 831 = .ok (.iadd, 1) := dc_iadd (dby_of dby_12 (j := 63) rfl)
theorem dL_law_832 : decode cL_law 832 = .ok (.iaload, 1) := dc_iaload (dby_of dby_13 (j := 0) rfl)
theorem dL_law_833 : decode cL_law 833 = .ok (.ifCond .eq 7, 3) := dc_ifCond_eq (dby_of dby_13 (j := 1) rfl) (dby_of dby_13 (j := 2) rfl) (dby_of dby_13 (j := 3) rfl) (by decide)
theorem dL_law_836 : decode cL_law 836 = .ok (.iconst 1, 1) := dc_iconst_1 (dby_of dby_13 (j := 4) rfl)
theorem dL_law_837 : decode cL_law 837 = .ok (.goto 4, 3) := dc_goto (dby_of dby_13 (j := 5) rfl) (dby_of dby_13 (j := 6) rfl) (dby_of dby_13 (j := 7) rfl) (by decide)
theorem dL_law_840 : decode cL_law 840 = .ok (.iconst 0, 1) := dc_iconst_0 (dby_of dby_13 (j := 8) rfl)
theorem dL_law_841 : decode cL_law 841 = .ok (.invokevirtual 215, 3) := dc_invokevirtual (dby_of dby_13 (j := 9) rfl) (dby_of dby_13 (j := 10) rfl) (dby_of dby_13 (j := 11) rfl) rfl
theorem dL_law_844 : decode cL_law 844 = .ok (.istore 6, 2) := dc_istore (dby_of dby_13 (j := 12) rfl) (dby_of dby_13 (j := 13) rfl) rfl
theorem dL_law_846 : decode cL_law 846 = .ok (.aload_n 2, 1) := dc_aload_n_2 (dby_of dby_13 (j := 14) rfl)
theorem dL_law_847 : decode cL_law 847 = .ok (.invokevirtual 183, 3) := dc_invokevirtual (dby_of dby_13 (j := 15) rfl) (dby_of dby_13 (j := 16) rfl) (dby_of dby_13 (j := 17) rfl) rfl
theorem dL_law_850 : decode cL_law 850 = .ok (.iload 5, 2) := dc_iload (dby_of dby_13 (j := 18) rfl) (dby_of dby_13 (j := 19) rfl) rfl
theorem dL_law_852 : decode cL_law 852 = .ok (.if_icmp .eq 5, 3) := dc_if_icmp_eq (dby_of dby_13 (j := 20) rfl) (dby_of dby_13 (j := 21) rfl) (dby_of dby_13 (j := 22) rfl) (by decide)
theorem dL_law_855 : decode cL_law 855 = .ok (.iconst 0, 1) := dc_iconst_0 (dby_of dby_13 (j := 23) rfl)
theorem dL_law_856 : decode cL_law 856 = .ok (.ireturn, 1) := dc_ireturn (dby_of dby_13 (j := 24) rfl)
theorem dL_law_857 : decode cL_law 857 = .ok (.iload 5, 2) := dc_iload (dby_of dby_13 (j := 25) rfl) (dby_of dby_13 (j := 26) rfl) rfl
theorem dL_law_859 : decode cL_law 859 = .ok (.ifCond .ne 22, 3) := dc_ifCond_ne (dby_of dby_13 (j := 27) rfl) (dby_of dby_13 (j := 28) rfl) (dby_of dby_13 (j := 29) rfl) (by decide)
theorem dL_law_862 : decode cL_law 862 = .ok (.aload_n 3, 1) := dc_aload_n_3 (dby_of dby_13 (j := 30) rfl)
theorem dL_law_863 : decode cL_law 863 = .ok (.iconst 0, 1) := dc_iconst_0 (dby_of dby_13 (j := 31) rfl)
theorem dL_law_864 : decode cL_law 864 = .ok (.laload, 1) := dc_laload (dby_of dby_13 (j := 32) rfl)
theorem dL_law_865 : decode cL_law 865 = .ok (.iload 6, 2) := dc_iload (dby_of dby_13 (j := 33) rfl) (dby_of dby_13 (j := 34) rfl) rfl
theorem dL_law_867 : decode cL_law 867 = .ok (.ifCond .eq 7, 3) := dc_ifCond_eq (dby_of dby_13 (j := 35) rfl) (dby_of dby_13 (j := 36) rfl) (dby_of dby_13 (j := 37) rfl) (by decide)
theorem dL_law_870 : decode cL_law 870 = .ok (.lconst 1, 1) := dc_lconst_1 (dby_of dby_13 (j := 38) rfl)
theorem dL_law_871 : decode cL_law 871 = .ok (.goto 4, 3) := dc_goto (dby_of dby_13 (j := 39) rfl) (dby_of dby_13 (j := 40) rfl) (dby_of dby_13 (j := 41) rfl) (by decide)
theorem dL_law_874 : decode cL_law 874 = .ok (.lconst 0, 1) := dc_lconst_0 (dby_of dby_13 (j := 42) rfl)
theorem dL_law_875 : decode cL_law 875 = .ok (.lcmp, 1) := dc_lcmp (dby_of dby_13 (j := 43) rfl)
theorem dL_law_876 : decode cL_law 876 = .ok (.ifCond .eq 5, 3) := dc_ifCond_eq (dby_of dby_13 (j := 44) rfl) (dby_of dby_13 (j := 45) rfl) (dby_of dby_13 (j := 46) rfl) (by decide)
theorem dL_law_879 : decode cL_law 879 = .ok (.iconst 0, 1) := dc_iconst_0 (dby_of dby_13 (j := 47) rfl)
theorem dL_law_880 : decode cL_law 880 = .ok (.ireturn, 1) := dc_ireturn (dby_of dby_13 (j := 48) rfl)
theorem dL_law_881 : decode cL_law 881 = .ok (.goto 3670, 3) := dc_goto (dby_of dby_13 (j := 49) rfl) (dby_of dby_13 (j := 50) rfl) (dby_of dby_13 (j := 51) rfl) (by decide)
theorem dL_law_884 : decode cL_law 884 = .ok (.aload_n 1, 1) := dc_aload_n_1 (dby_of dby_13 (j := 52) rfl)
theorem dL_law_885 : decode cL_law 885 = .ok (.aload_n 0, 1) := dc_aload_n_0 (dby_of dby_13 (j := 53) rfl)
theorem dL_law_886 : decode cL_law 886 = .ok (.iload 4, 2) := dc_iload (dby_of dby_13 (j := 54) rfl) (dby_of dby_13 (j := 55) rfl) rfl
theorem dL_law_888 : decode cL_law 888 = .ok (.iconst 1, 1) := dc_iconst_1 (dby_of dby_13 (j := 56) rfl)
theorem dL_law_889 : decode cL_law 889 = .ok (.iadd, 1) := dc_iadd (dby_of dby_13 (j := 57) rfl)
theorem dL_law_890 : decode cL_law 890 = .ok (.iaload, 1) := dc_iaload (dby_of dby_13 (j := 58) rfl)
theorem dL_law_891 : decode cL_law 891 = .ok (.aload_n 0, 1) := dc_aload_n_0 (dby_of dby_13 (j := 59) rfl)
theorem dL_law_892 : decode cL_law 892 = .ok (.iload 4, 2) := dc_iload (dby_of dby_13 (j := 60) rfl) (dby_of dby_13 (j := 61) rfl) rfl
theorem dL_law_894 : decode cL_law 894 = .ok (.iconst 2, 1) := dc_iconst_2 (dby_of dby_13 (j := 62) rfl)
theorem dL_law_895 : decode cL_law 895 = .ok (.iadd, 1) := dc_iadd (dby_of dby_13 (j := 63) rfl)
theorem dL_law_896 : decode cL_law 896 = .ok (.iaload, 1) := dc_iaload (dby_of dby_14 (j := 0) rfl)
theorem dL_law_897 : decode cL_law 897 = .ok (.aload_n 0, 1) := dc_aload_n_0 (dby_of dby_14 (j := 1) rfl)
theorem dL_law_898 : decode cL_law 898 = .ok (.iload 4, 2) := dc_iload (dby_of dby_14 (j := 2) rfl) (dby_of dby_14 (j := 3) rfl) rfl
theorem dL_law_900 : decode cL_law 900 = .ok (.iconst 3, 1) := dc_iconst_3 (dby_of dby_14 (j := 4) rfl)
theorem dL_law_901 : decode cL_law 901 = .ok (.iadd, 1) := dc_iadd (dby_of dby_14 (j := 5) rfl)
theorem dL_law_902 : decode cL_law 902 = .ok (.iaload, 1) := dc_iaload (dby_of dby_14 (j := 6) rfl)
theorem dL_law_903 : decode cL_law 903 = .ok (.invokestatic 216, 3) := dc_invokestatic (dby_of dby_14 (j := 7) rfl) (dby_of dby_14 (j := 8) rfl) (dby_of dby_14 (j := 9) rfl) rfl
theorem dL_law_906 : decode cL_law 906 = .ok (.istore 5, 2) := dc_istore (dby_of dby_14 (j := 10) rfl) (dby_of dby_14 (j := 11) rfl) rfl
theorem dL_law_908 : decode cL_law 908 = .ok (.aload_n 2, 1) := dc_aload_n_2 (dby_of dby_14 (j := 12) rfl)
theorem dL_law_909 : decode cL_law 909 = .ok (.aload_n 0, 1) := dc_aload_n_0 (dby_of dby_14 (j := 13) rfl)
theorem dL_law_910 : decode cL_law 910 = .ok (.iload 4, 2) := dc_iload (dby_of dby_14 (j := 14) rfl) (dby_of dby_14 (j := 15) rfl) rfl
theorem dL_law_912 : decode cL_law 912 = .ok (.iconst 1, 1) := dc_iconst_1 (dby_of dby_14 (j := 16) rfl)
theorem dL_law_913 : decode cL_law 913 = .ok (.iadd, 1) := dc_iadd (dby_of dby_14 (j := 17) rfl)
theorem dL_law_914 : decode cL_law 914 = .ok (.iaload, 1) := dc_iaload (dby_of dby_14 (j := 18) rfl)
theorem dL_law_915 : decode cL_law 915 = .ok (.aload_n 0, 1) := dc_aload_n_0 (dby_of dby_14 (j := 19) rfl)
theorem dL_law_916 : decode cL_law 916 = .ok (.iload 4, 2) := dc_iload (dby_of dby_14 (j := 20) rfl) (dby_of dby_14 (j := 21) rfl) rfl
theorem dL_law_918 : decode cL_law 918 = .ok (.iconst 2, 1) := dc_iconst_2 (dby_of dby_14 (j := 22) rfl)
theorem dL_law_919 : decode cL_law 919 = .ok (.iadd, 1) := dc_iadd (dby_of dby_14 (j := 23) rfl)
theorem dL_law_920 : decode cL_law 920 = .ok (.iaload, 1) := dc_iaload (dby_of dby_14 (j := 24) rfl)
theorem dL_law_921 : decode cL_law 921 = .ok (.aload_n 0, 1) := dc_aload_n_0 (dby_of dby_14 (j := 25) rfl)
theorem dL_law_922 : decode cL_law 922 = .ok (.iload 4, 2) := dc_iload (dby_of dby_14 (j := 26) rfl) (dby_of dby_14 (j := 27) rfl) rfl
theorem dL_law_924 : decode cL_law 924 = .ok (.iconst 3, 1) := dc_iconst_3 (dby_of dby_14 (j := 28) rfl)
theorem dL_law_925 : decode cL_law 925 = .ok (.iadd, 1) := dc_iadd (dby_of dby_14 (j := 29) rfl)
theorem dL_law_926 : decode cL_law 926 = .ok (.iaload, 1) := dc_iaload (dby_of dby_14 (j := 30) rfl)
theorem dL_law_927 : decode cL_law 927 = .ok (.invokevirtual 219, 3) := dc_invokevirtual (dby_of dby_14 (j := 31) rfl) (dby_of dby_14 (j := 32) rfl) (dby_of dby_14 (j := 33) rfl) rfl
theorem dL_law_930 : decode cL_law 930 = .ok (.aload_n 2, 1) := dc_aload_n_2 (dby_of dby_14 (j := 34) rfl)
theorem dL_law_931 : decode cL_law 931 = .ok (.invokevirtual 183, 3) := dc_invokevirtual (dby_of dby_14 (j := 35) rfl) (dby_of dby_14 (j := 36) rfl) (dby_of dby_14 (j := 37) rfl) rfl
theorem dL_law_934 : decode cL_law 934 = .ok (.iload 5, 2) := dc_iload (dby_of dby_14 (j := 38) rfl) (dby_of dby_14 (j := 39) rfl) rfl
theorem dL_law_936 : decode cL_law 936 = .ok (.if_icmp .eq 5, 3) := dc_if_icmp_eq (dby_of dby_14 (j := 40) rfl) (dby_of dby_14 (j := 41) rfl) (dby_of dby_14 (j := 42) rfl) (by decide)
theorem dL_law_939 : decode cL_law 939 = .ok (.iconst 0, 1) := dc_iconst_0 (dby_of dby_14 (j := 43) rfl)
theorem dL_law_940 : decode cL_law 940 = .ok (.ireturn, 1) := dc_ireturn (dby_of dby_14 (j := 44) rfl)
theorem dL_law_941 : decode cL_law 941 = .ok (.goto 3610, 3) := dc_goto (dby_of dby_14 (j := 45) rfl) (dby_of dby_14 (j := 46) rfl) (dby_of dby_14 (j := 47) rfl) (by decide)
theorem dL_law_944 : decode cL_law 944 = .ok (.aload_n 1, 1) := dc_aload_n_1 (dby_of dby_14 (j := 48) rfl)
theorem dL_law_945 : decode cL_law 945 = .ok (.aload_n 0, 1) := dc_aload_n_0 (dby_of dby_14 (j := 49) rfl)
theorem dL_law_946 : decode cL_law 946 = .ok (.iload 4, 2) := dc_iload (dby_of dby_14 (j := 50) rfl) (dby_of dby_14 (j := 51) rfl) rfl
theorem dL_law_948 : decode cL_law 948 = .ok (.iconst 1, 1) := dc_iconst_1 (dby_of dby_14 (j := 52) rfl)
theorem dL_law_949 : decode cL_law 949 = .ok (.iadd, 1) := dc_iadd (dby_of dby_14 (j := 53) rfl)
theorem dL_law_950 : decode cL_law 950 = .ok (.iaload, 1) := dc_iaload (dby_of dby_14 (j := 54) rfl)
theorem dL_law_951 : decode cL_law 951 = .ok (.aload_n 0, 1) := dc_aload_n_0 (dby_of dby_14 (j := 55) rfl)
theorem dL_law_952 : decode cL_law 952 = .ok (.iload 4, 2) := dc_iload (dby_of dby_14 (j := 56) rfl) (dby_of dby_14 (j := 57) rfl) rfl
theorem dL_law_954 : decode cL_law 954 = .ok (.iconst 2, 1) := dc_iconst_2 (dby_of dby_14 (j := 58) rfl)
theorem dL_law_955 : decode cL_law 955 = .ok (.iadd, 1) := dc_iadd (dby_of dby_14 (j := 59) rfl)
theorem dL_law_956 : decode cL_law 956 = .ok (.iaload, 1) := dc_iaload (dby_of dby_14 (j := 60) rfl)
theorem dL_law_957 : decode cL_law 957 = .ok (.aload_n 3, 1) := dc_aload_n_3 (dby_of dby_14 (j := 61) rfl)
theorem dL_law_958 : decode cL_law 958 = .ok (.invokestatic 220, 3) := dc_invokestatic (dby_of dby_14 (j := 62) rfl) (dby_of dby_14 (j := 63) rfl) (dby_of dby_15 (j := 0) rfl) rfl
theorem dL_law_961 : decode cL_law 961 = .ok (.istore 5, 2) := dc_istore (dby_of dby_15 (j := 1) rfl) (dby_of dby_15 (j := 2) rfl) rfl
theorem dL_law_963 : decode cL_law 963 = .ok (.aload_n 2, 1) := dc_aload_n_2 (dby_of dby_15 (j := 3) rfl)
theorem dL_law_964 : decode cL_law 964 = .ok (.aload_n 0, 1) := dc_aload_n_0 (dby_of dby_15 (j := 4) rfl)
theorem dL_law_965 : decode cL_law 965 = .ok (.iload 4, 2) := dc_iload (dby_of dby_15 (j := 5) rfl) (dby_of dby_15 (j := 6) rfl) rfl
theorem dL_law_967 : decode cL_law 967 = .ok (.iconst 1, 1) := dc_iconst_1 (dby_of dby_15 (j := 7) rfl)
theorem dL_law_968 : decode cL_law 968 = .ok (.iadd, 1) := dc_iadd (dby_of dby_15 (j := 8) rfl)
theorem dL_law_969 : decode cL_law 969 = .ok (.iaload, 1) := dc_iaload (dby_of dby_15 (j := 9) rfl)
theorem dL_law_970 : decode cL_law 970 = .ok (.aload_n 0, 1) := dc_aload_n_0 (dby_of dby_15 (j := 10) rfl)
theorem dL_law_971 : decode cL_law 971 = .ok (.iload 4, 2) := dc_iload (dby_of dby_15 (j := 11) rfl) (dby_of dby_15 (j := 12) rfl) rfl
theorem dL_law_973 : decode cL_law 973 = .ok (.iconst 2, 1) := dc_iconst_2 (dby_of dby_15 (j := 13) rfl)
theorem dL_law_974 : decode cL_law 974 = .ok (.iadd, 1) := dc_iadd (dby_of dby_15 (j := 14) rfl)
theorem dL_law_975 : decode cL_law 975 = .ok (.iaload, 1) := dc_iaload (dby_of dby_15 (j := 15) rfl)
theorem dL_law_976 : decode cL_law 976 = .ok (.invokevirtual 222, 3) := dc_invokevirtual (dby_of dby_15 (j := 16) rfl) (dby_of dby_15 (j := 17) rfl) (dby_of dby_15 (j := 18) rfl) rfl
theorem dL_law_979 : decode cL_law 979 = .ok (.istore 6, 2) := dc_istore (dby_of dby_15 (j := 19) rfl) (dby_of dby_15 (j := 20) rfl) rfl
theorem dL_law_981 : decode cL_law 981 = .ok (.aload_n 2, 1) := dc_aload_n_2 (dby_of dby_15 (j := 21) rfl)
theorem dL_law_982 : decode cL_law 982 = .ok (.invokevirtual 183, 3) := dc_invokevirtual (dby_of dby_15 (j := 22) rfl) (dby_of dby_15 (j := 23) rfl) (dby_of dby_15 (j := 24) rfl) rfl
theorem dL_law_985 : decode cL_law 985 = .ok (.iload 5, 2) := dc_iload (dby_of dby_15 (j := 25) rfl) (dby_of dby_15 (j := 26) rfl) rfl
theorem dL_law_987 : decode cL_law 987 = .ok (.if_icmp .eq 5, 3) := dc_if_icmp_eq (dby_of dby_15 (j := 27) rfl) (dby_of dby_15 (j := 28) rfl) (dby_of dby_15 (j := 29) rfl) (by decide)
theorem dL_law_990 : decode cL_law 990 = .ok (.iconst 0, 1) := dc_iconst_0 (dby_of dby_15 (j := 30) rfl)
theorem dL_law_991 : decode cL_law 991 = .ok (.ireturn, 1) := dc_ireturn (dby_of dby_15 (j := 31) rfl)
theorem dL_law_992 : decode cL_law 992 = .ok (.iload 5, 2) := dc_iload (dby_of dby_15 (j := 32) rfl) (dby_of dby_15 (j := 33) rfl) rfl
theorem dL_law_994 : decode cL_law 994 = .ok (.ifCond .ne 22, 3) := dc_ifCond_ne (dby_of dby_15 (j := 34) rfl) (dby_of dby_15 (j := 35) rfl) (dby_of dby_15 (j := 36) rfl) (by decide)
theorem dL_law_997 : decode cL_law 997 = .ok (.aload_n 3, 1) := dc_aload_n_3 (dby_of dby_15 (j := 37) rfl)
theorem dL_law_998 : decode cL_law 998 = .ok (.iconst 0, 1) := dc_iconst_0 (dby_of dby_15 (j := 38) rfl)
theorem dL_law_999 : decode cL_law 999 = .ok (.laload, 1) := dc_laload (dby_of dby_15 (j := 39) rfl)
theorem dL_law_1000 : decode cL_law 1000 = .ok (.iload 6, 2) := dc_iload (dby_of dby_15 (j := 40) rfl) (dby_of dby_15 (j := 41) rfl) rfl
theorem dL_law_1002 : decode cL_law 1002 = .ok (.ifCond .eq 7, 3) := dc_ifCond_eq (dby_of dby_15 (j := 42) rfl) (dby_of dby_15 (j := 43) rfl) (dby_of dby_15 (j := 44) rfl) (by decide)
theorem dL_law_1005 : decode cL_law 1005 = .ok (.lconst 1, 1) := dc_lconst_1 (dby_of dby_15 (j := 45) rfl)
theorem dL_law_1006 : decode cL_law 1006 = .ok (.goto 4, 3) := dc_goto (dby_of dby_15 (j := 46) rfl) (dby_of dby_15 (j := 47) rfl) (dby_of dby_15 (j := 48) rfl) (by decide)
theorem dL_law_1009 : decode cL_law 1009 = .ok (.lconst 0, 1) := dc_lconst_0 (dby_of dby_15 (j := 49) rfl)
theorem dL_law_1010 : decode cL_law 1010 = .ok (.lcmp, 1) := dc_lcmp (dby_of dby_15 (j := 50) rfl)
theorem dL_law_1011 : decode cL_law 1011 = .ok (.ifCond .eq 5, 3) := dc_ifCond_eq (dby_of dby_15 (j := 51) rfl) (dby_of dby_15 (j := 52) rfl) (dby_of dby_15 (j := 53) rfl) (by decide)
theorem dL_law_1014 : decode cL_law 1014 = .ok (.iconst 0, 1) := dc_iconst_0 (dby_of dby_15 (j := 54) rfl)
theorem dL_law_1015 : decode cL_law 1015 = .ok (.ireturn, 1) := dc_ireturn (dby_of dby_15 (j := 55) rfl)
theorem dL_law_1016 : decode cL_law 1016 = .ok (.goto 3535, 3) := dc_goto (dby_of dby_15 (j := 56) rfl) (dby_of dby_15 (j := 57) rfl) (dby_of dby_15 (j := 58) rfl) (by decide)
theorem dL_law_1019 : decode cL_law 1019 = .ok (.aload_n 1, 1) := dc_aload_n_1 (dby_of dby_15 (j := 59) rfl)
theorem dL_law_1020 : decode cL_law 1020 = .ok (.aload_n 0, 1) := dc_aload_n_0 (dby_of dby_15 (j := 60) rfl)
theorem dL_law_1021 : decode cL_law 1021 = .ok (.iload 4, 2) := dc_iload (dby_of dby_15 (j := 61) rfl) (dby_of dby_15 (j := 62) rfl) rfl
theorem dL_law_1023 : decode cL_law 1023 = .ok (.iconst 1, 1) := dc_iconst_1 (dby_of dby_15 (j := 63) rfl)
theorem dL_law_1024 : decode cL_law 1024 = .ok (.iadd, 1) := dc_iadd (dby_of dby_16 (j := 0) rfl)
theorem dL_law_1025 : decode cL_law 1025 = .ok (.iaload, 1) := dc_iaload (dby_of dby_16 (j := 1) rfl)
theorem dL_law_1026 : decode cL_law 1026 = .ok (.aload_n 0, 1) := dc_aload_n_0 (dby_of dby_16 (j := 2) rfl)
theorem dL_law_1027 : decode cL_law 1027 = .ok (.iload 4, 2) := dc_iload (dby_of dby_16 (j := 3) rfl) (dby_of dby_16 (j := 4) rfl) rfl
theorem dL_law_1029 : decode cL_law 1029 = .ok (.iconst 2, 1) := dc_iconst_2 (dby_of dby_16 (j := 5) rfl)
theorem dL_law_1030 : decode cL_law 1030 = .ok (.iadd, 1) := dc_iadd (dby_of dby_16 (j := 6) rfl)
theorem dL_law_1031 : decode cL_law 1031 = .ok (.iaload, 1) := dc_iaload (dby_of dby_16 (j := 7) rfl)
theorem dL_law_1032 : decode cL_law 1032 = .ok (.aload_n 3, 1) := dc_aload_n_3 (dby_of dby_16 (j := 8) rfl)
theorem dL_law_1033 : decode cL_law 1033 = .ok (.invokestatic 223, 3) := dc_invokestatic (dby_of dby_16 (j := 9) rfl) (dby_of dby_16 (j := 10) rfl) (dby_of dby_16 (j := 11) rfl) rfl
theorem dL_law_1036 : decode cL_law 1036 = .ok (.istore 5, 2) := dc_istore (dby_of dby_16 (j := 12) rfl) (dby_of dby_16 (j := 13) rfl) rfl
theorem dL_law_1038 : decode cL_law 1038 = .ok (.aload_n 2, 1) := dc_aload_n_2 (dby_of dby_16 (j := 14) rfl)
theorem dL_law_1039 : decode cL_law 1039 = .ok (.aload_n 0, 1) := dc_aload_n_0 (dby_of dby_16 (j := 15) rfl)
theorem dL_law_1040 : decode cL_law 1040 = .ok (.iload 4, 2) := dc_iload (dby_of dby_16 (j := 16) rfl) (dby_of dby_16 (j := 17) rfl) rfl
theorem dL_law_1042 : decode cL_law 1042 = .ok (.iconst 1, 1) := dc_iconst_1 (dby_of dby_16 (j := 18) rfl)
theorem dL_law_1043 : decode cL_law 1043 = .ok (.iadd, 1) := dc_iadd (dby_of dby_16 (j := 19) rfl)
theorem dL_law_1044 : decode cL_law 1044 = .ok (.iaload, 1) := dc_iaload (dby_of dby_16 (j := 20) rfl)
theorem dL_law_1045 : decode cL_law 1045 = .ok (.aload_n 0, 1) := dc_aload_n_0 (dby_of dby_16 (j := 21) rfl)
theorem dL_law_1046 : decode cL_law 1046 = .ok (.iload 4, 2) := dc_iload (dby_of dby_16 (j := 22) rfl) (dby_of dby_16 (j := 23) rfl) rfl
theorem dL_law_1048 : decode cL_law 1048 = .ok (.iconst 2, 1) := dc_iconst_2 (dby_of dby_16 (j := 24) rfl)
theorem dL_law_1049 : decode cL_law 1049 = .ok (.iadd, 1) := dc_iadd (dby_of dby_16 (j := 25) rfl)
theorem dL_law_1050 : decode cL_law 1050 = .ok (.iaload, 1) := dc_iaload (dby_of dby_16 (j := 26) rfl)
theorem dL_law_1051 : decode cL_law 1051 = .ok (.invokevirtual 225, 3) := dc_invokevirtual (dby_of dby_16 (j := 27) rfl) (dby_of dby_16 (j := 28) rfl) (dby_of dby_16 (j := 29) rfl) rfl
theorem dL_law_1054 : decode cL_law 1054 = .ok (.istore 6, 2) := dc_istore (dby_of dby_16 (j := 30) rfl) (dby_of dby_16 (j := 31) rfl) rfl
theorem dL_law_1056 : decode cL_law 1056 = .ok (.aload_n 2, 1) := dc_aload_n_2 (dby_of dby_16 (j := 32) rfl)
theorem dL_law_1057 : decode cL_law 1057 = .ok (.invokevirtual 183, 3) := dc_invokevirtual (dby_of dby_16 (j := 33) rfl) (dby_of dby_16 (j := 34) rfl) (dby_of dby_16 (j := 35) rfl) rfl
theorem dL_law_1060 : decode cL_law 1060 = .ok (.iload 5, 2) := dc_iload (dby_of dby_16 (j := 36) rfl) (dby_of dby_16 (j := 37) rfl) rfl
theorem dL_law_1062 : decode cL_law 1062 = .ok (.if_icmp .eq 5, 3) := dc_if_icmp_eq (dby_of dby_16 (j := 38) rfl) (dby_of dby_16 (j := 39) rfl) (dby_of dby_16 (j := 40) rfl) (by decide)
theorem dL_law_1065 : decode cL_law 1065 = .ok (.iconst 0, 1) := dc_iconst_0 (dby_of dby_16 (j := 41) rfl)
theorem dL_law_1066 : decode cL_law 1066 = .ok (.ireturn, 1) := dc_ireturn (dby_of dby_16 (j := 42) rfl)
theorem dL_law_1067 : decode cL_law 1067 = .ok (.iload 5, 2) := dc_iload (dby_of dby_16 (j := 43) rfl) (dby_of dby_16 (j := 44) rfl) rfl
theorem dL_law_1069 : decode cL_law 1069 = .ok (.ifCond .ne 15, 3) := dc_ifCond_ne (dby_of dby_16 (j := 45) rfl) (dby_of dby_16 (j := 46) rfl) (dby_of dby_16 (j := 47) rfl) (by decide)
theorem dL_law_1072 : decode cL_law 1072 = .ok (.aload_n 3, 1) := dc_aload_n_3 (dby_of dby_16 (j := 48) rfl)
theorem dL_law_1073 : decode cL_law 1073 = .ok (.iconst 0, 1) := dc_iconst_0 (dby_of dby_16 (j := 49) rfl)
theorem dL_law_1074 : decode cL_law 1074 = .ok (.laload, 1) := dc_laload (dby_of dby_16 (j := 50) rfl)
theorem dL_law_1075 : decode cL_law 1075 = .ok (.iload 6, 2) := dc_iload (dby_of dby_16 (j := 51) rfl) (dby_of dby_16 (j := 52) rfl) rfl
theorem dL_law_1077 : decode cL_law 1077 = .ok (.i2l, 1) := dc_i2l (dby_of dby_16 (j := 53) rfl)
theorem dL_law_1078 : decode cL_law 1078 = .ok (.lcmp, 1) := dc_lcmp (dby_of dby_16 (j := 54) rfl)
theorem dL_law_1079 : decode cL_law 1079 = .ok (.ifCond .eq 5, 3) := dc_ifCond_eq (dby_of dby_16 (j := 55) rfl) (dby_of dby_16 (j := 56) rfl) (dby_of dby_16 (j := 57) rfl) (by decide)
theorem dL_law_1082 : decode cL_law 1082 = .ok (.iconst 0, 1) := dc_iconst_0 (dby_of dby_16 (j := 58) rfl)
theorem dL_law_1083 : decode cL_law 1083 = .ok (.ireturn, 1) := dc_ireturn (dby_of dby_16 (j := 59) rfl)
theorem dL_law_1084 : decode cL_law 1084 = .ok (.goto 3467, 3) := dc_goto (dby_of dby_16 (j := 60) rfl) (dby_of dby_16 (j := 61) rfl) (dby_of dby_16 (j := 62) rfl) (by decide)
theorem dL_law_1087 : decode cL_law 1087 = .ok (.aload_n 1, 1) := dc_aload_n_1 (dby_of dby_16 (j := 63) rfl)
theorem dL_law_1088 : decode cL_law 1088 = .ok (.aload_n 0, 1) := dc_aload_n_0 (dby_of dby_17 (j := 0) rfl)
theorem dL_law_1089 : decode cL_law 1089 = .ok (.iload 4, 2) := dc_iload (dby_of dby_17 (j := 1) rfl) (dby_of dby_17 (j := 2) rfl) rfl
theorem dL_law_1091 : decode cL_law 1091 = .ok (.iconst 1, 1) := dc_iconst_1 (dby_of dby_17 (j := 3) rfl)
theorem dL_law_1092 : decode cL_law 1092 = .ok (.iadd, 1) := dc_iadd (dby_of dby_17 (j := 4) rfl)
theorem dL_law_1093 : decode cL_law 1093 = .ok (.iaload, 1) := dc_iaload (dby_of dby_17 (j := 5) rfl)
theorem dL_law_1094 : decode cL_law 1094 = .ok (.aload_n 0, 1) := dc_aload_n_0 (dby_of dby_17 (j := 6) rfl)
theorem dL_law_1095 : decode cL_law 1095 = .ok (.iload 4, 2) := dc_iload (dby_of dby_17 (j := 7) rfl) (dby_of dby_17 (j := 8) rfl) rfl
theorem dL_law_1097 : decode cL_law 1097 = .ok (.iconst 2, 1) := dc_iconst_2 (dby_of dby_17 (j := 9) rfl)
theorem dL_law_1098 : decode cL_law 1098 = .ok (.iadd, 1) := dc_iadd (dby_of dby_17 (j := 10) rfl)
theorem dL_law_1099 : decode cL_law 1099 = .ok (.iaload, 1) := dc_iaload (dby_of dby_17 (j := 11) rfl)
theorem dL_law_1100 : decode cL_law 1100 = .ok (.aload_n 0, 1) := dc_aload_n_0 (dby_of dby_17 (j := 12) rfl)
theorem dL_law_1101 : decode cL_law 1101 = .ok (.iload 4, 2) := dc_iload (dby_of dby_17 (j := 13) rfl) (dby_of dby_17 (j := 14) rfl) rfl
theorem dL_law_1103 : decode cL_law 1103 = .ok (.iconst 3, 1) := dc_iconst_3 (dby_of dby_17 (j := 15) rfl)
theorem dL_law_1104 : decode cL_law 1104 = .ok (.iadd, 1) := dc_iadd (dby_of dby_17 (j := 16) rfl)
theorem dL_law_1105 : decode cL_law 1105 = .ok (.iaload, 1) := dc_iaload (dby_of dby_17 (j := 17) rfl)
theorem dL_law_1106 : decode cL_law 1106 = .ok (.aload_n 3, 1) := dc_aload_n_3 (dby_of dby_17 (j := 18) rfl)
theorem dL_law_1107 : decode cL_law 1107 = .ok (.invokestatic 226, 3) := dc_invokestatic (dby_of dby_17 (j := 19) rfl) (dby_of dby_17 (j := 20) rfl) (dby_of dby_17 (j := 21) rfl) rfl
theorem dL_law_1110 : decode cL_law 1110 = .ok (.istore 5, 2) := dc_istore (dby_of dby_17 (j := 22) rfl) (dby_of dby_17 (j := 23) rfl) rfl
theorem dL_law_1112 : decode cL_law 1112 = .ok (.aload_n 2, 1) := dc_aload_n_2 (dby_of dby_17 (j := 24) rfl)
theorem dL_law_1113 : decode cL_law 1113 = .ok (.aload_n 0, 1) := dc_aload_n_0 (dby_of dby_17 (j := 25) rfl)
theorem dL_law_1114 : decode cL_law 1114 = .ok (.iload 4, 2) := dc_iload (dby_of dby_17 (j := 26) rfl) (dby_of dby_17 (j := 27) rfl) rfl
theorem dL_law_1116 : decode cL_law 1116 = .ok (.iconst 1, 1) := dc_iconst_1 (dby_of dby_17 (j := 28) rfl)
theorem dL_law_1117 : decode cL_law 1117 = .ok (.iadd, 1) := dc_iadd (dby_of dby_17 (j := 29) rfl)
theorem dL_law_1118 : decode cL_law 1118 = .ok (.iaload, 1) := dc_iaload (dby_of dby_17 (j := 30) rfl)
theorem dL_law_1119 : decode cL_law 1119 = .ok (.aload_n 0, 1) := dc_aload_n_0 (dby_of dby_17 (j := 31) rfl)
theorem dL_law_1120 : decode cL_law 1120 = .ok (.iload 4, 2) := dc_iload (dby_of dby_17 (j := 32) rfl) (dby_of dby_17 (j := 33) rfl) rfl
theorem dL_law_1122 : decode cL_law 1122 = .ok (.iconst 2, 1) := dc_iconst_2 (dby_of dby_17 (j := 34) rfl)
theorem dL_law_1123 : decode cL_law 1123 = .ok (.iadd, 1) := dc_iadd (dby_of dby_17 (j := 35) rfl)
theorem dL_law_1124 : decode cL_law 1124 = .ok (.iaload, 1) := dc_iaload (dby_of dby_17 (j := 36) rfl)
theorem dL_law_1125 : decode cL_law 1125 = .ok (.aload_n 0, 1) := dc_aload_n_0 (dby_of dby_17 (j := 37) rfl)
theorem dL_law_1126 : decode cL_law 1126 = .ok (.iload 4, 2) := dc_iload (dby_of dby_17 (j := 38) rfl) (dby_of dby_17 (j := 39) rfl) rfl
theorem dL_law_1128 : decode cL_law 1128 = .ok (.iconst 3, 1) := dc_iconst_3 (dby_of dby_17 (j := 40) rfl)
theorem dL_law_1129 : decode cL_law 1129 = .ok (.iadd, 1) := dc_iadd (dby_of dby_17 (j := 41) rfl)
theorem dL_law_1130 : decode cL_law 1130 = .ok (.iaload, 1) := dc_iaload (dby_of dby_17 (j := 42) rfl)
theorem dL_law_1131 : decode cL_law 1131 = .ok (.invokevirtual 228, 3) := dc_invokevirtual (dby_of dby_17 (j := 43) rfl) (dby_of dby_17 (j := 44) rfl) (dby_of dby_17 (j := 45) rfl) rfl
theorem dL_law_1134 : decode cL_law 1134 = .ok (.istore 6, 2) := dc_istore (dby_of dby_17 (j := 46) rfl) (dby_of dby_17 (j := 47) rfl) rfl
theorem dL_law_1136 : decode cL_law 1136 = .ok (.aload_n 2, 1) := dc_aload_n_2 (dby_of dby_17 (j := 48) rfl)
theorem dL_law_1137 : decode cL_law 1137 = .ok (.invokevirtual 183, 3) := dc_invokevirtual (dby_of dby_17 (j := 49) rfl) (dby_of dby_17 (j := 50) rfl) (dby_of dby_17 (j := 51) rfl) rfl
theorem dL_law_1140 : decode cL_law 1140 = .ok (.iload 5, 2) := dc_iload (dby_of dby_17 (j := 52) rfl) (dby_of dby_17 (j := 53) rfl) rfl
theorem dL_law_1142 : decode cL_law 1142 = .ok (.if_icmp .eq 5, 3) := dc_if_icmp_eq (dby_of dby_17 (j := 54) rfl) (dby_of dby_17 (j := 55) rfl) (dby_of dby_17 (j := 56) rfl) (by decide)
theorem dL_law_1145 : decode cL_law 1145 = .ok (.iconst 0, 1) := dc_iconst_0 (dby_of dby_17 (j := 57) rfl)
theorem dL_law_1146 : decode cL_law 1146 = .ok (.ireturn, 1) := dc_ireturn (dby_of dby_17 (j := 58) rfl)
theorem dL_law_1147 : decode cL_law 1147 = .ok (.iload 5, 2) := dc_iload (dby_of dby_17 (j := 59) rfl) (dby_of dby_17 (j := 60) rfl) rfl
theorem dL_law_1149 : decode cL_law 1149 = .ok (.ifCond .ne 15, 3) := dc_ifCond_ne (dby_of dby_17 (j := 61) rfl) (dby_of dby_17 (j := 62) rfl) (dby_of dby_17 (j := 63) rfl) (by decide)
theorem dL_law_1152 : decode cL_law 1152 = .ok (.aload_n 3, 1) := dc_aload_n_3 (dby_of dby_18 (j := 0) rfl)
theorem dL_law_1153 : decode cL_law 1153 = .ok (.iconst 0, 1) := dc_iconst_0 (dby_of dby_18 (j := 1) rfl)
theorem dL_law_1154 : decode cL_law 1154 = .ok (.laload, 1) := dc_laload (dby_of dby_18 (j := 2) rfl)
theorem dL_law_1155 : decode cL_law 1155 = .ok (.iload 6, 2) := dc_iload (dby_of dby_18 (j := 3) rfl) (dby_of dby_18 (j := 4) rfl) rfl
theorem dL_law_1157 : decode cL_law 1157 = .ok (.i2l, 1) := dc_i2l (dby_of dby_18 (j := 5) rfl)
theorem dL_law_1158 : decode cL_law 1158 = .ok (.lcmp, 1) := dc_lcmp (dby_of dby_18 (j := 6) rfl)
theorem dL_law_1159 : decode cL_law 1159 = .ok (.ifCond .eq 5, 3) := dc_ifCond_eq (dby_of dby_18 (j := 7) rfl) (dby_of dby_18 (j := 8) rfl) (dby_of dby_18 (j := 9) rfl) (by decide)
theorem dL_law_1162 : decode cL_law 1162 = .ok (.iconst 0, 1) := dc_iconst_0 (dby_of dby_18 (j := 10) rfl)
theorem dL_law_1163 : decode cL_law 1163 = .ok (.ireturn, 1) := dc_ireturn (dby_of dby_18 (j := 11) rfl)
theorem dL_law_1164 : decode cL_law 1164 = .ok (.goto 3387, 3) := dc_goto (dby_of dby_18 (j := 12) rfl) (dby_of dby_18 (j := 13) rfl) (dby_of dby_18 (j := 14) rfl) (by decide)
theorem dL_law_1167 : decode cL_law 1167 = .ok (.aload_n 1, 1) := dc_aload_n_1 (dby_of dby_18 (j := 15) rfl)
theorem dL_law_1168 : decode cL_law 1168 = .ok (.aload_n 0, 1) := dc_aload_n_0 (dby_of dby_18 (j := 16) rfl)
theorem dL_law_1169 : decode cL_law 1169 = .ok (.iload 4, 2) := dc_iload (dby_of dby_18 (j := 17) rfl) (dby_of dby_18 (j := 18) rfl) rfl
theorem dL_law_1171 : decode cL_law 1171 = .ok (.iconst 1, 1) := dc_iconst_1 (dby_of dby_18 (j := 19) rfl)
theorem dL_law_1172 : decode cL_law 1172 = .ok (.iadd, 1) := dc_iadd (dby_of dby_18 (j := 20) rfl)
theorem dL_law_1173 : decode cL_law 1173 = .ok (.iaload, 1) := dc_iaload (dby_of dby_18 (j := 21) rfl)
theorem dL_law_1174 : decode cL_law 1174 = .ok (.aload_n 0, 1) := dc_aload_n_0 (dby_of dby_18 (j := 22) rfl)
theorem dL_law_1175 : decode cL_law 1175 = .ok (.iload 4, 2) := dc_iload (dby_of dby_18 (j := 23) rfl) (dby_of dby_18 (j := 24) rfl) rfl
theorem dL_law_1177 : decode cL_law 1177 = .ok (.iconst 2, 1) := dc_iconst_2 (dby_of dby_18 (j := 25) rfl)
theorem dL_law_1178 : decode cL_law 1178 = .ok (.iadd, 1) := dc_iadd (dby_of dby_18 (j := 26) rfl)
theorem dL_law_1179 : decode cL_law 1179 = .ok (.iaload, 1) := dc_iaload (dby_of dby_18 (j := 27) rfl)
theorem dL_law_1180 : decode cL_law 1180 = .ok (.ifCond .eq 7, 3) := dc_ifCond_eq (dby_of dby_18 (j := 28) rfl) (dby_of dby_18 (j := 29) rfl) (dby_of dby_18 (j := 30) rfl) (by decide)
theorem dL_law_1183 : decode cL_law 1183 = .ok (.iconst 1, 1) := dc_iconst_1 (dby_of dby_18 (j := 31) rfl)
theorem dL_law_1184 : decode cL_law 1184 = .ok (.goto 4, 3) := dc_goto (dby_of dby_18 (j := 32) rfl) (dby_of dby_18 (j := 33) rfl) (dby_of dby_18 (j := 34) rfl) (by decide)
theorem dL_law_1187 : decode cL_law 1187 = .ok (.iconst 0, 1) := dc_iconst_0 (dby_of dby_18 (j := 35) rfl)
theorem dL_law_1188 : decode cL_law 1188 = .ok (.aload_n 3, 1) := dc_aload_n_3 (dby_of dby_18 (j := 36) rfl)
theorem dL_law_1189 : decode cL_law 1189 = .ok (.invokestatic 229, 3) := dc_invokestatic (dby_of dby_18 (j := 37) rfl) (dby_of dby_18 (j := 38) rfl) (dby_of dby_18 (j := 39) rfl) rfl
theorem dL_law_1192 : decode cL_law 1192 = .ok (.istore 5, 2) := dc_istore (dby_of dby_18 (j := 40) rfl) (dby_of dby_18 (j := 41) rfl) rfl
theorem dL_law_1194 : decode cL_law 1194 = .ok (.aload_n 2, 1) := dc_aload_n_2 (dby_of dby_18 (j := 42) rfl)
theorem dL_law_1195 : decode cL_law 1195 = .ok (.aload_n 0, 1) := dc_aload_n_0 (dby_of dby_18 (j := 43) rfl)
theorem dL_law_1196 : decode cL_law 1196 = .ok (.iload 4, 2) := dc_iload (dby_of dby_18 (j := 44) rfl) (dby_of dby_18 (j := 45) rfl) rfl
theorem dL_law_1198 : decode cL_law 1198 = .ok (.iconst 1, 1) := dc_iconst_1 (dby_of dby_18 (j := 46) rfl)
theorem dL_law_1199 : decode cL_law 1199 = .ok (.iadd, 1) := dc_iadd (dby_of dby_18 (j := 47) rfl)
theorem dL_law_1200 : decode cL_law 1200 = .ok (.iaload, 1) := dc_iaload (dby_of dby_18 (j := 48) rfl)
theorem dL_law_1201 : decode cL_law 1201 = .ok (.aload_n 0, 1) := dc_aload_n_0 (dby_of dby_18 (j := 49) rfl)
theorem dL_law_1202 : decode cL_law 1202 = .ok (.iload 4, 2) := dc_iload (dby_of dby_18 (j := 50) rfl) (dby_of dby_18 (j := 51) rfl) rfl
theorem dL_law_1204 : decode cL_law 1204 = .ok (.iconst 2, 1) := dc_iconst_2 (dby_of dby_18 (j := 52) rfl)
theorem dL_law_1205 : decode cL_law 1205 = .ok (.iadd, 1) := dc_iadd (dby_of dby_18 (j := 53) rfl)
theorem dL_law_1206 : decode cL_law 1206 = .ok (.iaload, 1) := dc_iaload (dby_of dby_18 (j := 54) rfl)
theorem dL_law_1207 : decode cL_law 1207 = .ok (.ifCond .eq 7, 3) := dc_ifCond_eq (dby_of dby_18 (j := 55) rfl) (dby_of dby_18 (j := 56) rfl) (dby_of dby_18 (j := 57) rfl) (by decide)
theorem dL_law_1210 : decode cL_law 1210 = .ok (.iconst 1, 1) := dc_iconst_1 (dby_of dby_18 (j := 58) rfl)
theorem dL_law_1211 : decode cL_law 1211 = .ok (.goto 4, 3) := dc_goto (dby_of dby_18 (j := 59) rfl) (dby_of dby_18 (j := 60) rfl) (dby_of dby_18 (j := 61) rfl) (by decide)
theorem dL_law_1214 : decode cL_law 1214 = .ok (.iconst 0, 1) := dc_iconst_0 (dby_of dby_18 (j := 62) rfl)
theorem dL_law_1215 : decode cL_law 1215 = .ok (.invokevirtual 231, 3) := dc_invokevirtual (dby_of dby_18 (j := 63) rfl) (dby_of dby_19 (j := 0) rfl) (dby_of dby_19 (j := 1) rfl) rfl
theorem dL_law_1218 : decode cL_law 1218 = .ok (.istore 6, 2) := dc_istore (dby_of dby_19 (j := 2) rfl) (dby_of dby_19 (j := 3) rfl) rfl
theorem dL_law_1220 : decode cL_law 1220 = .ok (.aload_n 2, 1) := dc_aload_n_2 (dby_of dby_19 (j := 4) rfl)
theorem dL_law_1221 : decode cL_law 1221 = .ok (.invokevirtual 183, 3) := dc_invokevirtual (dby_of dby_19 (j := 5) rfl) (dby_of dby_19 (j := 6) rfl) (dby_of dby_19 (j := 7) rfl) rfl
theorem dL_law_1224 : decode cL_law 1224 = .ok (.iload 5, 2) := dc_iload (dby_of dby_19 (j := 8) rfl) (dby_of dby_19 (j := 9) rfl) rfl
theorem dL_law_1226 : decode cL_law 1226 = .ok (.if_icmp .eq 5, 3) := dc_if_icmp_eq (dby_of dby_19 (j := 10) rfl) (dby_of dby_19 (j := 11) rfl) (dby_of dby_19 (j := 12) rfl) (by decide)
theorem dL_law_1229 : decode cL_law 1229 = .ok (.iconst 0, 1) := dc_iconst_0 (dby_of dby_19 (j := 13) rfl)
theorem dL_law_1230 : decode cL_law 1230 = .ok (.ireturn, 1) := dc_ireturn (dby_of dby_19 (j := 14) rfl)
theorem dL_law_1231 : decode cL_law 1231 = .ok (.iload 5, 2) := dc_iload (dby_of dby_19 (j := 15) rfl) (dby_of dby_19 (j := 16) rfl) rfl
theorem dL_law_1233 : decode cL_law 1233 = .ok (.ifCond .ne 15, 3) := dc_ifCond_ne (dby_of dby_19 (j := 17) rfl) (dby_of dby_19 (j := 18) rfl) (dby_of dby_19 (j := 19) rfl) (by decide)
theorem dL_law_1236 : decode cL_law 1236 = .ok (.aload_n 3, 1) := dc_aload_n_3 (dby_of dby_19 (j := 20) rfl)
theorem dL_law_1237 : decode cL_law 1237 = .ok (.iconst 0, 1) := dc_iconst_0 (dby_of dby_19 (j := 21) rfl)
theorem dL_law_1238 : decode cL_law 1238 = .ok (.laload, 1) := dc_laload (dby_of dby_19 (j := 22) rfl)
theorem dL_law_1239 : decode cL_law 1239 = .ok (.iload 6, 2) := dc_iload (dby_of dby_19 (j := 23) rfl) (dby_of dby_19 (j := 24) rfl) rfl
theorem dL_law_1241 : decode cL_law 1241 = .ok (.i2l, 1) := dc_i2l (dby_of dby_19 (j := 25) rfl)
theorem dL_law_1242 : decode cL_law 1242 = .ok (.lcmp, 1) := dc_lcmp (dby_of dby_19 (j := 26) rfl)
theorem dL_law_1243 : decode cL_law 1243 = .ok (.ifCond .eq 5, 3) := dc_ifCond_eq (dby_of dby_19 (j := 27) rfl) (dby_of dby_19 (j := 28) rfl) (dby_of dby_19 (j := 29) rfl) (by decide)
theorem dL_law_1246 : decode cL_law 1246 = .ok (.iconst 0, 1) := dc_iconst_0 (dby_of dby_19 (j := 30) rfl)
theorem dL_law_1247 : decode cL_law 1247 = .ok (.ireturn, 1) := dc_ireturn (dby_of dby_19 (j := 31) rfl)
theorem dL_law_1248 : decode cL_law 1248 = .ok (.goto 3303, 3) := dc_goto (dby_of dby_19 (j := 32) rfl) (dby_of dby_19 (j := 33) rfl) (dby_of dby_19 (j := 34) rfl) (by decide)
theorem dL_law_1251 : decode cL_law 1251 = .ok (.aload_n 1, 1) := dc_aload_n_1 (dby_of dby_19 (j := 35) rfl)
theorem dL_law_1252 : decode cL_law 1252 = .ok (.aload_n 0, 1) := dc_aload_n_0 (dby_of dby_19 (j := 36) rfl)
theorem dL_law_1253 : decode cL_law 1253 = .ok (.iload 4, 2) := dc_iload (dby_of dby_19 (j := 37) rfl) (dby_of dby_19 (j := 38) rfl) rfl
theorem dL_law_1255 : decode cL_law 1255 = .ok (.iconst 1, 1) := dc_iconst_1 (dby_of dby_19 (j := 39) rfl)
theorem dL_law_1256 : decode cL_law 1256 = .ok (.iadd, 1) := dc_iadd (dby_of dby_19 (j := 40) rfl)
theorem dL_law_1257 : decode cL_law 1257 = .ok (.iaload, 1) := dc_iaload (dby_of dby_19 (j := 41) rfl)
theorem dL_law_1258 : decode cL_law 1258 = .ok (.invokestatic 232, 3) := dc_invokestatic (dby_of dby_19 (j := 42) rfl) (dby_of dby_19 (j := 43) rfl) (dby_of dby_19 (j := 44) rfl) rfl
theorem dL_law_1261 : decode cL_law 1261 = .ok (.istore 5, 2) := dc_istore (dby_of dby_19 (j := 45) rfl) (dby_of dby_19 (j := 46) rfl) rfl
theorem dL_law_1263 : decode cL_law 1263 = .ok (.aload_n 2, 1) := dc_aload_n_2 (dby_of dby_19 (j := 47) rfl)
theorem dL_law_1264 : decode cL_law 1264 = .ok (.aload_n 0, 1) := dc_aload_n_0 (dby_of dby_19 (j := 48) rfl)
theorem dL_law_1265 : decode cL_law 1265 = .ok (.iload 4, 2) := dc_iload (dby_of dby_19 (j := 49) rfl) (dby_of dby_19 (j := 50) rfl) rfl
theorem dL_law_1267 : decode cL_law 1267 = .ok (.iconst 1, 1) := dc_iconst_1 (dby_of dby_19 (j := 51) rfl)
theorem dL_law_1268 : decode cL_law 1268 = .ok (.iadd, 1) := dc_iadd (dby_of dby_19 (j := 52) rfl)
theorem dL_law_1269 : decode cL_law 1269 = .ok (.iaload, 1) := dc_iaload (dby_of dby_19 (j := 53) rfl)
theorem dL_law_1270 : decode cL_law 1270 = .ok (.invokevirtual 235, 3) := dc_invokevirtual (dby_of dby_19 (j := 54) rfl) (dby_of dby_19 (j := 55) rfl) (dby_of dby_19 (j := 56) rfl) rfl
theorem dL_law_1273 : decode cL_law 1273 = .ok (.aload_n 2, 1) := dc_aload_n_2 (dby_of dby_19 (j := 57) rfl)
theorem dL_law_1274 : decode cL_law 1274 = .ok (.invokevirtual 183, 3) := dc_invokevirtual (dby_of dby_19 (j := 58) rfl) (dby_of dby_19 (j := 59) rfl) (dby_of dby_19 (j := 60) rfl) rfl
theorem dL_law_1277 : decode cL_law 1277 = .ok (.iload 5, 2) := dc_iload (dby_of dby_19 (j := 61) rfl) (dby_of dby_19 (j := 62) rfl) rfl
theorem dL_law_1279 : decode cL_law 1279 = .ok (.if_icmp .eq 5, 3) := dc_if_icmp_eq (dby_of dby_19 (j := 63) rfl) (dby_of dby_20 (j := 0) rfl) (dby_of dby_20 (j := 1) rfl) (by decide)
theorem dL_law_1282 : decode cL_law 1282 = .ok (.iconst 0, 1) := dc_iconst_0 (dby_of dby_20 (j := 2) rfl)
theorem dL_law_1283 : decode cL_law 1283 = .ok (.ireturn, 1) := dc_ireturn (dby_of dby_20 (j := 3) rfl)
theorem dL_law_1284 : decode cL_law 1284 = .ok (.goto 3267, 3) := dc_goto (dby_of dby_20 (j := 4) rfl) (dby_of dby_20 (j := 5) rfl) (dby_of dby_20 (j := 6) rfl) (by decide)
theorem dL_law_1287 : decode cL_law 1287 = .ok (.aload_n 1, 1) := dc_aload_n_1 (dby_of dby_20 (j := 7) rfl)
theorem dL_law_1288 : decode cL_law 1288 = .ok (.aload_n 0, 1) := dc_aload_n_0 (dby_of dby_20 (j := 8) rfl)
theorem dL_law_1289 : decode cL_law 1289 = .ok (.iload 4, 2) := dc_iload (dby_of dby_20 (j := 9) rfl) (dby_of dby_20 (j := 10) rfl) rfl
theorem dL_law_1291 : decode cL_law 1291 = .ok (.iconst 1, 1) := dc_iconst_1 (dby_of dby_20 (j := 11) rfl)
theorem dL_law_1292 : decode cL_law 1292 = .ok (.iadd, 1) := dc_iadd (dby_of dby_20 (j := 12) rfl)
theorem dL_law_1293 : decode cL_law 1293 = .ok (.iaload, 1) := dc_iaload (dby_of dby_20 (j := 13) rfl)
theorem dL_law_1294 : decode cL_law 1294 = .ok (.aload_n 0, 1) := dc_aload_n_0 (dby_of dby_20 (j := 14) rfl)
theorem dL_law_1295 : decode cL_law 1295 = .ok (.iload 4, 2) := dc_iload (dby_of dby_20 (j := 15) rfl) (dby_of dby_20 (j := 16) rfl) rfl
theorem dL_law_1297 : decode cL_law 1297 = .ok (.iconst 2, 1) := dc_iconst_2 (dby_of dby_20 (j := 17) rfl)
theorem dL_law_1298 : decode cL_law 1298 = .ok (.iadd, 1) := dc_iadd (dby_of dby_20 (j := 18) rfl)
theorem dL_law_1299 : decode cL_law 1299 = .ok (.iaload, 1) := dc_iaload (dby_of dby_20 (j := 19) rfl)
theorem dL_law_1300 : decode cL_law 1300 = .ok (.invokestatic 236, 3) := dc_invokestatic (dby_of dby_20 (j := 20) rfl) (dby_of dby_20 (j := 21) rfl) (dby_of dby_20 (j := 22) rfl) rfl
theorem dL_law_1303 : decode cL_law 1303 = .ok (.istore 5, 2) := dc_istore (dby_of dby_20 (j := 23) rfl) (dby_of dby_20 (j := 24) rfl) rfl
theorem dL_law_1305 : decode cL_law 1305 = .ok (.aload_n 2, 1) := dc_aload_n_2 (dby_of dby_20 (j := 25) rfl)
theorem dL_law_1306 : decode cL_law 1306 = .ok (.aload_n 0, 1) := dc_aload_n_0 (dby_of dby_20 (j := 26) rfl)
theorem dL_law_1307 : decode cL_law 1307 = .ok (.iload 4, 2) := dc_iload (dby_of dby_20 (j := 27) rfl) (dby_of dby_20 (j := 28) rfl) rfl
theorem dL_law_1309 : decode cL_law 1309 = .ok (.iconst 1, 1) := dc_iconst_1 (dby_of dby_20 (j := 29) rfl)
theorem dL_law_1310 : decode cL_law 1310 = .ok (.iadd, 1) := dc_iadd (dby_of dby_20 (j := 30) rfl)
theorem dL_law_1311 : decode cL_law 1311 = .ok (.iaload, 1) := dc_iaload (dby_of dby_20 (j := 31) rfl)
theorem dL_law_1312 : decode cL_law 1312 = .ok (.aload_n 0, 1) := dc_aload_n_0 (dby_of dby_20 (j := 32) rfl)
theorem dL_law_1313 : decode cL_law 1313 = .ok (.iload 4, 2) := dc_iload (dby_of dby_20 (j := 33) rfl) (dby_of dby_20 (j := 34) rfl) rfl
theorem dL_law_1315 : decode cL_law 1315 = .ok (.iconst 2, 1) := dc_iconst_2 (dby_of dby_20 (j := 35) rfl)
theorem dL_law_1316 : decode cL_law 1316 = .ok (.iadd, 1) := dc_iadd (dby_of dby_20 (j := 36) rfl)
theorem dL_law_1317 : decode cL_law 1317 = .ok (.iaload, 1) := dc_iaload (dby_of dby_20 (j := 37) rfl)
theorem dL_law_1318 : decode cL_law 1318 = .ok (.invokevirtual 239, 3) := dc_invokevirtual (dby_of dby_20 (j := 38) rfl) (dby_of dby_20 (j := 39) rfl) (dby_of dby_20 (j := 40) rfl) rfl
theorem dL_law_1321 : decode cL_law 1321 = .ok (.aload_n 2, 1) := dc_aload_n_2 (dby_of dby_20 (j := 41) rfl)
theorem dL_law_1322 : decode cL_law 1322 = .ok (.invokevirtual 183, 3) := dc_invokevirtual (dby_of dby_20 (j := 42) rfl) (dby_of dby_20 (j := 43) rfl) (dby_of dby_20 (j := 44) rfl) rfl
theorem dL_law_1325 : decode cL_law 1325 = .ok (.iload 5, 2) := dc_iload (dby_of dby_20 (j := 45) rfl) (dby_of dby_20 (j := 46) rfl) rfl
theorem dL_law_1327 : decode cL_law 1327 = .ok (.if_icmp .eq 5, 3) := dc_if_icmp_eq (dby_of dby_20 (j := 47) rfl) (dby_of dby_20 (j := 48) rfl) (dby_of dby_20 (j := 49) rfl) (by decide)
theorem dL_law_1330 : decode cL_law 1330 = .ok (.iconst 0, 1) := dc_iconst_0 (dby_of dby_20 (j := 50) rfl)
theorem dL_law_1331 : decode cL_law 1331 = .ok (.ireturn, 1) := dc_ireturn (dby_of dby_20 (j := 51) rfl)
theorem dL_law_1332 : decode cL_law 1332 = .ok (.goto 3219, 3) := dc_goto (dby_of dby_20 (j := 52) rfl) (dby_of dby_20 (j := 53) rfl) (dby_of dby_20 (j := 54) rfl) (by decide)
theorem dL_law_1335 : decode cL_law 1335 = .ok (.aload_n 1, 1) := dc_aload_n_1 (dby_of dby_20 (j := 55) rfl)
theorem dL_law_1336 : decode cL_law 1336 = .ok (.aload_n 0, 1) := dc_aload_n_0 (dby_of dby_20 (j := 56) rfl)
theorem dL_law_1337 : decode cL_law 1337 = .ok (.iload 4, 2) := dc_iload (dby_of dby_20 (j := 57) rfl) (dby_of dby_20 (j := 58) rfl) rfl
theorem dL_law_1339 : decode cL_law 1339 = .ok (.iconst 1, 1) := dc_iconst_1 (dby_of dby_20 (j := 59) rfl)
theorem dL_law_1340 : decode cL_law 1340 = .ok (.iadd, 1) := dc_iadd (dby_of dby_20 (j := 60) rfl)
theorem dL_law_1341 : decode cL_law 1341 = .ok (.iaload, 1) := dc_iaload (dby_of dby_20 (j := 61) rfl)
theorem dL_law_1342 : decode cL_law 1342 = .ok (.aload_n 0, 1) := dc_aload_n_0 (dby_of dby_20 (j := 62) rfl)
theorem dL_law_1343 : decode cL_law 1343 = .ok (.iload 4, 2) := dc_iload (dby_of dby_20 (j := 63) rfl) (dby_of dby_21 (j := 0) rfl) rfl
theorem dL_law_1345 : decode cL_law 1345 = .ok (.iconst 2, 1) := dc_iconst_2 (dby_of dby_21 (j := 1) rfl)
theorem dL_law_1346 : decode cL_law 1346 = .ok (.iadd, 1) := dc_iadd (dby_of dby_21 (j := 2) rfl)
theorem dL_law_1347 : decode cL_law 1347 = .ok (.iaload, 1) := dc_iaload (dby_of dby_21 (j := 3) rfl)
theorem dL_law_1348 : decode cL_law 1348 = .ok (.ifCond .eq 7, 3) := dc_ifCond_eq (dby_of dby_21 (j := 4) rfl) (dby_of dby_21 (j := 5) rfl) (dby_of dby_21 (j := 6) rfl) (by decide)
theorem dL_law_1351 : decode cL_law 1351 = .ok (.iconst 1, 1) := dc_iconst_1 (dby_of dby_21 (j := 7) rfl)
theorem dL_law_1352 : decode cL_law 1352 = .ok (.goto 4, 3) := dc_goto (dby_of dby_21 (j := 8) rfl) (dby_of dby_21 (j := 9) rfl) (dby_of dby_21 (j := 10) rfl) (by decide)
theorem dL_law_1355 : decode cL_law 1355 = .ok (.iconst 0, 1) := dc_iconst_0 (dby_of dby_21 (j := 11) rfl)
theorem dL_law_1356 : decode cL_law 1356 = .ok (.aload_n 0, 1) := dc_aload_n_0 (dby_of dby_21 (j := 12) rfl)
theorem dL_law_1357 : decode cL_law 1357 = .ok (.iload 4, 2) := dc_iload (dby_of dby_21 (j := 13) rfl) (dby_of dby_21 (j := 14) rfl) rfl
theorem dL_law_1359 : decode cL_law 1359 = .ok (.iconst 3, 1) := dc_iconst_3 (dby_of dby_21 (j := 15) rfl)
theorem dL_law_1360 : decode cL_law 1360 = .ok (.iadd, 1) := dc_iadd (dby_of dby_21 (j := 16) rfl)
theorem dL_law_1361 : decode cL_law 1361 = .ok (.iaload, 1) := dc_iaload (dby_of dby_21 (j := 17) rfl)
theorem dL_law_1362 : decode cL_law 1362 = .ok (.aload_n 0, 1) := dc_aload_n_0 (dby_of dby_21 (j := 18) rfl)
theorem dL_law_1363 : decode cL_law 1363 = .ok (.iload 4, 2) := dc_iload (dby_of dby_21 (j := 19) rfl) (dby_of dby_21 (j := 20) rfl) rfl
theorem dL_law_1365 : decode cL_law 1365 = .ok (.iconst 4, 1) := dc_iconst_4 (dby_of dby_21 (j := 21) rfl)
theorem dL_law_1366 : decode cL_law 1366 = .ok (.iadd, 1) := dc_iadd (dby_of dby_21 (j := 22) rfl)
theorem dL_law_1367 : decode cL_law 1367 = .ok (.iaload, 1) := dc_iaload (dby_of dby_21 (j := 23) rfl)
theorem dL_law_1368 : decode cL_law 1368 = .ok (.ifCond .eq 7, 3) := dc_ifCond_eq (dby_of dby_21 (j := 24) rfl) (dby_of dby_21 (j := 25) rfl) (dby_of dby_21 (j := 26) rfl) (by decide)
theorem dL_law_1371 : decode cL_law 1371 = .ok (.iconst 1, 1) := dc_iconst_1 (dby_of dby_21 (j := 27) rfl)
theorem dL_law_1372 : decode cL_law 1372 = .ok (.goto 4, 3) := dc_goto (dby_of dby_21 (j := 28) rfl) (dby_of dby_21 (j := 29) rfl) (dby_of dby_21 (j := 30) rfl) (by decide)
theorem dL_law_1375 : decode cL_law 1375 = .ok (.iconst 0, 1) := dc_iconst_0 (dby_of dby_21 (j := 31) rfl)
theorem dL_law_1376 : decode cL_law 1376 = .ok (.aload_n 3, 1) := dc_aload_n_3 (dby_of dby_21 (j := 32) rfl)
theorem dL_law_1377 : decode cL_law 1377 = .ok (.invokestatic 240, 3) := dc_invokestatic (dby_of dby_21 (j := 33) rfl) (dby_of dby_21 (j := 34) rfl) (dby_of dby_21 (j := 35) rfl) rfl
theorem dL_law_1380 : decode cL_law 1380 = .ok (.istore 5, 2) := dc_istore (dby_of dby_21 (j := 36) rfl) (dby_of dby_21 (j := 37) rfl) rfl
theorem dL_law_1382 : decode cL_law 1382 = .ok (.aload_n 2, 1) := dc_aload_n_2 (dby_of dby_21 (j := 38) rfl)
theorem dL_law_1383 : decode cL_law 1383 = .ok (.aload_n 0, 1) := dc_aload_n_0 (dby_of dby_21 (j := 39) rfl)
theorem dL_law_1384 : decode cL_law 1384 = .ok (.iload 4, 2) := dc_iload (dby_of dby_21 (j := 40) rfl) (dby_of dby_21 (j := 41) rfl) rfl
theorem dL_law_1386 : decode cL_law 1386 = .ok (.iconst 1, 1) := dc_iconst_1 (dby_of dby_21 (j := 42) rfl)
theorem dL_law_1387 : decode cL_law 1387 = .ok (.iadd, 1) := dc_iadd (dby_of dby_21 (j := 43) rfl)
theorem dL_law_1388 : decode cL_law 1388 = .ok (.iaload, 1) := dc_iaload (dby_of dby_21 (j := 44) rfl)
theorem dL_law_1389 : decode cL_law 1389 = .ok (.aload_n 0, 1) := dc_aload_n_0 (dby_of dby_21 (j := 45) rfl)
theorem dL_law_1390 : decode cL_law 1390 = .ok (.iload 4, 2) := dc_iload (dby_of dby_21 (j := 46) rfl) (dby_of dby_21 (j := 47) rfl) rfl
theorem dL_law_1392 : decode cL_law 1392 = .ok (.iconst 2, 1) := dc_iconst_2 (dby_of dby_21 (j := 48) rfl)
theorem dL_law_1393 : decode cL_law 1393 = .ok (.iadd, 1) := dc_iadd (dby_of dby_21 (j := 49) rfl)
theorem dL_law_1394 : decode cL_law 1394 = .ok (.iaload, 1) := dc_iaload (dby_of dby_21 (j := 50) rfl)
theorem dL_law_1395 : decode cL_law 1395 = .ok (.ifCond .eq 7, 3) := dc_ifCond_eq (dby_of dby_21 (j := 51) rfl) (dby_of dby_21 (j := 52) rfl) (dby_of dby_21 (j := 53) rfl) (by decide)
theorem dL_law_1398 : decode cL_law 1398 = .ok (.iconst 1, 1) := dc_iconst_1 (dby_of dby_21 (j := 54) rfl)
theorem dL_law_1399 : decode cL_law 1399 = .ok (.goto 4, 3) := dc_goto (dby_of dby_21 (j := 55) rfl) (dby_of dby_21 (j := 56) rfl) (dby_of dby_21 (j := 57) rfl) (by decide)
theorem dL_law_1402 : decode cL_law 1402 = .ok (.iconst 0, 1) := dc_iconst_0 (dby_of dby_21 (j := 58) rfl)
theorem dL_law_1403 : decode cL_law 1403 = .ok (.aload_n 0, 1) := dc_aload_n_0 (dby_of dby_21 (j := 59) rfl)
theorem dL_law_1404 : decode cL_law 1404 = .ok (.iload 4, 2) := dc_iload (dby_of dby_21 (j := 60) rfl) (dby_of dby_21 (j := 61) rfl) rfl
theorem dL_law_1406 : decode cL_law 1406 = .ok (.iconst 3, 1) := dc_iconst_3 (dby_of dby_21 (j := 62) rfl)
theorem dL_law_1407 : decode cL_law 1407 = .ok (.iadd, 1) := dc_iadd (dby_of dby_21 (j := 63) rfl)
theorem dL_law_1408 : decode cL_law 1408 = .ok (.iaload, 1) := dc_iaload (dby_of dby_22 (j := 0) rfl)
theorem dL_law_1409 : decode cL_law 1409 = .ok (.aload_n 0, 1) := dc_aload_n_0 (dby_of dby_22 (j := 1) rfl)
theorem dL_law_1410 : decode cL_law 1410 = .ok (.iload 4, 2) := dc_iload (dby_of dby_22 (j := 2) rfl) (dby_of dby_22 (j := 3) rfl) rfl
theorem dL_law_1412 : decode cL_law 1412 = .ok (.iconst 4, 1) := dc_iconst_4 (dby_of dby_22 (j := 4) rfl)
theorem dL_law_1413 : decode cL_law 1413 = .ok (.iadd, 1) := dc_iadd (dby_of dby_22 (j := 5) rfl)
theorem dL_law_1414 : decode cL_law 1414 = .ok (.iaload, 1) := dc_iaload (dby_of dby_22 (j := 6) rfl)
theorem dL_law_1415 : decode cL_law 1415 = .ok (.ifCond .eq 7, 3) := dc_ifCond_eq (dby_of dby_22 (j := 7) rfl) (dby_of dby_22 (j := 8) rfl) (dby_of dby_22 (j := 9) rfl) (by decide)
theorem dL_law_1418 : decode cL_law 1418 = .ok (.iconst 1, 1) := dc_iconst_1 (dby_of dby_22 (j := 10) rfl)
theorem dL_law_1419 : decode cL_law 1419 = .ok (.goto 4, 3) := dc_goto (dby_of dby_22 (j := 11) rfl) (dby_of dby_22 (j := 12) rfl) (dby_of dby_22 (j := 13) rfl) (by decide)
theorem dL_law_1422 : decode cL_law 1422 = .ok (.iconst 0, 1) := dc_iconst_0 (dby_of dby_22 (j := 14) rfl)
theorem dL_law_1423 : decode cL_law 1423 = .ok (.invokevirtual 243, 3) := dc_invokevirtual (dby_of dby_22 (j := 15) rfl) (dby_of dby_22 (j := 16) rfl) (dby_of dby_22 (j := 17) rfl) rfl
theorem dL_law_1426 : decode cL_law 1426 = .ok (.istore 6, 2) := dc_istore (dby_of dby_22 (j := 18) rfl) (dby_of dby_22 (j := 19) rfl) rfl
theorem dL_law_1428 : decode cL_law 1428 = .ok (.aload_n 2, 1) := dc_aload_n_2 (dby_of dby_22 (j := 20) rfl)
theorem dL_law_1429 : decode cL_law 1429 = .ok (.invokevirtual 183, 3) := dc_invokevirtual (dby_of dby_22 (j := 21) rfl) (dby_of dby_22 (j := 22) rfl) (dby_of dby_22 (j := 23) rfl) rfl
theorem dL_law_1432 : decode cL_law 1432 = .ok (.iload 5, 2) := dc_iload (dby_of dby_22 (j := 24) rfl) (dby_of dby_22 (j := 25) rfl) rfl
theorem dL_law_1434 : decode cL_law 1434 = .ok (.if_icmp .eq 5, 3) := dc_if_icmp_eq (dby_of dby_22 (j := 26) rfl) (dby_of dby_22 (j := 27) rfl) (dby_of dby_22 (j := 28) rfl) (by decide)
theorem dL_law_1437 : decode cL_law 1437 = .ok (.iconst 0, 1) := dc_iconst_0 (dby_of dby_22 (j := 29) rfl)
theorem dL_law_1438 : decode cL_law 1438 = .ok (.ireturn, 1) := dc_ireturn (dby_of dby_22 (j := 30) rfl)
theorem dL_law_1439 : decode cL_law 1439 = .ok (.iload 5, 2) := dc_iload (dby_of dby_22 (j := 31) rfl) (dby_of dby_22 (j := 32) rfl) rfl
theorem dL_law_1441 : decode cL_law 1441 = .ok (.ifCond .ne 15, 3) := dc_ifCond_ne (dby_of dby_22 (j := 33) rfl) (dby_of dby_22 (j := 34) rfl) (dby_of dby_22 (j := 35) rfl) (by decide)
theorem dL_law_1444 : decode cL_law 1444 = .ok (.aload_n 3, 1) := dc_aload_n_3 (dby_of dby_22 (j := 36) rfl)
theorem dL_law_1445 : decode cL_law 1445 = .ok (.iconst 0, 1) := dc_iconst_0 (dby_of dby_22 (j := 37) rfl)
theorem dL_law_1446 : decode cL_law 1446 = .ok (.laload, 1) := dc_laload (dby_of dby_22 (j := 38) rfl)
theorem dL_law_1447 : decode cL_law 1447 = .ok (.iload 6, 2) := dc_iload (dby_of dby_22 (j := 39) rfl) (dby_of dby_22 (j := 40) rfl) rfl
theorem dL_law_1449 : decode cL_law 1449 = .ok (.i2l, 1) := dc_i2l (dby_of dby_22 (j := 41) rfl)
theorem dL_law_1450 : decode cL_law 1450 = .ok (.lcmp, 1) := dc_lcmp (dby_of dby_22 (j := 42) rfl)
theorem dL_law_1451 : decode cL_law 1451 = .ok (.ifCond .eq 5, 3) := dc_ifCond_eq (dby_of dby_22 (j := 43) rfl) (dby_of dby_22 (j := 44) rfl) (dby_of dby_22 (j := 45) rfl) (by decide)
theorem dL_law_1454 : decode cL_law 1454 = .ok (.iconst 0, 1) := dc_iconst_0 (dby_of dby_22 (j := 46) rfl)
theorem dL_law_1455 : decode cL_law 1455 = .ok (.ireturn, 1) := dc_ireturn (dby_of dby_22 (j := 47) rfl)
theorem dL_law_1456 : decode cL_law 1456 = .ok (.goto 3095, 3) := dc_goto (dby_of dby_22 (j := 48) rfl) (dby_of dby_22 (j := 49) rfl) (dby_of dby_22 (j := 50) rfl) (by decide)
theorem dL_law_1459 : decode cL_law 1459 = .ok (.aload_n 1, 1) := dc_aload_n_1 (dby_of dby_22 (j := 51) rfl)
theorem dL_law_1460 : decode cL_law 1460 = .ok (.aload_n 0, 1) := dc_aload_n_0 (dby_of dby_22 (j := 52) rfl)
theorem dL_law_1461 : decode cL_law 1461 = .ok (.iload 4, 2) := dc_iload (dby_of dby_22 (j := 53) rfl) (dby_of dby_22 (j := 54) rfl) rfl
theorem dL_law_1463 : decode cL_law 1463 = .ok (.iconst 1, 1) := dc_iconst_1 (dby_of dby_22 (j := 55) rfl)
theorem dL_law_1464 : decode cL_law 1464 = .ok (.iadd, 1) := dc_iadd (dby_of dby_22 (j := 56) rfl)
theorem dL_law_1465 : decode cL_law 1465 = .ok (.iaload, 1) := dc_iaload (dby_of dby_22 (j := 57) rfl)
theorem dL_law_1466 : decode cL_law 1466 = .ok (.aload_n 0, 1) := dc_aload_n_0 (dby_of dby_22 (j := 58) rfl)
theorem dL_law_1467 : decode cL_law 1467 = .ok (.iload 4, 2) := dc_iload (dby_of dby_22 (j := 59) rfl) (dby_of dby_22 (j := 60) rfl) rfl
theorem dL_law_1469 : decode cL_law 1469 = .ok (.iconst 2, 1) := dc_iconst_2 (dby_of dby_22 (j := 61) rfl)
theorem dL_law_1470 : decode cL_law 1470 = .ok (.iadd, 1) := dc_iadd (dby_of dby_22 (j := 62) rfl)
theorem dL_law_1471 : decode cL_law 1471 = .ok (.iaload, 1) := dc_iaload (dby_of dby_22 (j := 63) rfl)
theorem dL_law_1472 : decode cL_law 1472 = .ok (.ifCond .eq 7, 3) := dc_ifCond_eq (dby_of dby_23 (j := 0) rfl) (dby_of dby_23 (j := 1) rfl) (dby_of dby_23 (j := 2) rfl) (by decide)
theorem dL_law_1475 : decode cL_law 1475 = .ok (.iconst 1, 1) := dc_iconst_1 (dby_of dby_23 (j := 3) rfl)
theorem dL_law_1476 : decode cL_law 1476 = .ok (.goto 4, 3) := dc_goto (dby_of dby_23 (j := 4) rfl) (dby_of dby_23 (j := 5) rfl) (dby_of dby_23 (j := 6) rfl) (by decide)
theorem dL_law_1479 : decode cL_law 1479 = .ok (.iconst 0, 1) := dc_iconst_0 (dby_of dby_23 (j := 7) rfl)
theorem dL_law_1480 : decode cL_law 1480 = .ok (.aload_n 0, 1) := dc_aload_n_0 (dby_of dby_23 (j := 8) rfl)
theorem dL_law_1481 : decode cL_law 1481 = .ok (.iload 4, 2) := dc_iload (dby_of dby_23 (j := 9) rfl) (dby_of dby_23 (j := 10) rfl) rfl
theorem dL_law_1483 : decode cL_law 1483 = .ok (.iconst 3, 1) := dc_iconst_3 (dby_of dby_23 (j := 11) rfl)
theorem dL_law_1484 : decode cL_law 1484 = .ok (.iadd, 1) := dc_iadd (dby_of dby_23 (j := 12) rfl)
theorem dL_law_1485 : decode cL_law 1485 = .ok (.iaload, 1) := dc_iaload (dby_of dby_23 (j := 13) rfl)
theorem dL_law_1486 : decode cL_law 1486 = .ok (.aload_n 0, 1) := dc_aload_n_0 (dby_of dby_23 (j := 14) rfl)
theorem dL_law_1487 : decode cL_law 1487 = .ok (.iload 4, 2) := dc_iload (dby_of dby_23 (j := 15) rfl) (dby_of dby_23 (j := 16) rfl) rfl
theorem dL_law_1489 : decode cL_law 1489 = .ok (.iconst 4, 1) := dc_iconst_4 (dby_of dby_23 (j := 17) rfl)
theorem dL_law_1490 : decode cL_law 1490 = .ok (.iadd, 1) := dc_iadd (dby_of dby_23 (j := 18) rfl)
theorem dL_law_1491 : decode cL_law 1491 = .ok (.iaload, 1) := dc_iaload (dby_of dby_23 (j := 19) rfl)
theorem dL_law_1492 : decode cL_law 1492 = .ok (.ifCond .eq 7, 3) := dc_ifCond_eq (dby_of dby_23 (j := 20) rfl) (dby_of dby_23 (j := 21) rfl) (dby_of dby_23 (j := 22) rfl) (by decide)
theorem dL_law_1495 : decode cL_law 1495 = .ok (.iconst 1, 1) := dc_iconst_1 (dby_of dby_23 (j := 23) rfl)
theorem dL_law_1496 : decode cL_law 1496 = .ok (.goto 4, 3) := dc_goto (dby_of dby_23 (j := 24) rfl) (dby_of dby_23 (j := 25) rfl) (dby_of dby_23 (j := 26) rfl) (by decide)
theorem dL_law_1499 : decode cL_law 1499 = .ok (.iconst 0, 1) := dc_iconst_0 (dby_of dby_23 (j := 27) rfl)
theorem dL_law_1500 : decode cL_law 1500 = .ok (.aload_n 0, 1) := dc_aload_n_0 (dby_of dby_23 (j := 28) rfl)
theorem dL_law_1501 : decode cL_law 1501 = .ok (.iload 4, 2) := dc_iload (dby_of dby_23 (j := 29) rfl) (dby_of dby_23 (j := 30) rfl) rfl
theorem dL_law_1503 : decode cL_law 1503 = .ok (.iconst 5, 1) := dc_iconst_5 (dby_of dby_23 (j := 31) rfl)
theorem dL_law_1504 : decode cL_law 1504 = .ok (.iadd, 1) := dc_iadd (dby_of dby_23 (j := 32) rfl)
theorem dL_law_1505 : decode cL_law 1505 = .ok (.iaload, 1) := dc_iaload (dby_of dby_23 (j := 33) rfl)
theorem dL_law_1506 : decode cL_law 1506 = .ok (.ifCond .eq 7, 3) := dc_ifCond_eq (dby_of dby_23 (j := 34) rfl) (dby_of dby_23 (j := 35) rfl) (dby_of dby_23 (j := 36) rfl) (by decide)
theorem dL_law_1509 : decode cL_law 1509 = .ok (.iconst 1, 1) := dc_iconst_1 (dby_of dby_23 (j := 37) rfl)
theorem dL_law_1510 : decode cL_law 1510 = .ok (.goto 4, 3) := dc_goto (dby_of dby_23 (j := 38) rfl) (dby_of dby_23 (j := 39) rfl) (dby_of dby_23 (j := 40) rfl) (by decide)
theorem dL_law_1513 : decode cL_law 1513 = .ok (.iconst 0, 1) := dc_iconst_0 (dby_of dby_23 (j := 41) rfl)
theorem dL_law_1514 : decode cL_law 1514 = .ok (.aload_n 3, 1) := dc_aload_n_3 (dby_of dby_23 (j := 42) rfl)
theorem dL_law_1515 : decode cL_law 1515 = .ok (.invokestatic 244, 3) := dc_invokestatic (dby_of dby_23 (j := 43) rfl) (dby_of dby_23 (j := 44) rfl) (dby_of dby_23 (j := 45) rfl) rfl
theorem dL_law_1518 : decode cL_law 1518 = .ok (.istore 5, 2) := dc_istore (dby_of dby_23 (j := 46) rfl) (dby_of dby_23 (j := 47) rfl) rfl
theorem dL_law_1520 : decode cL_law 1520 = .ok (.aload_n 2, 1) := dc_aload_n_2 (dby_of dby_23 (j := 48) rfl)
theorem dL_law_1521 : decode cL_law 1521 = .ok (.aload_n 0, 1) := dc_aload_n_0 (dby_of dby_23 (j := 49) rfl)
theorem dL_law_1522 : decode cL_law 1522 = .ok (.iload 4, 2) := dc_iload (dby_of dby_23 (j := 50) rfl) (dby_of dby_23 (j := 51) rfl) rfl
theorem dL_law_1524 : decode cL_law 1524 = .ok (.iconst 1, 1) := dc_iconst_1 (dby_of dby_23 (j := 52) rfl)
theorem dL_law_1525 : decode cL_law 1525 = .ok (.iadd, 1) := dc_iadd (dby_of dby_23 (j := 53) rfl)
theorem dL_law_1526 : decode cL_law 1526 = .ok (.iaload, 1) := dc_iaload (dby_of dby_23 (j := 54) rfl)
theorem dL_law_1527 : decode cL_law 1527 = .ok (.aload_n 0, 1) := dc_aload_n_0 (dby_of dby_23 (j := 55) rfl)
theorem dL_law_1528 : decode cL_law 1528 = .ok (.iload 4, 2) := dc_iload (dby_of dby_23 (j := 56) rfl) (dby_of dby_23 (j := 57) rfl) rfl
theorem dL_law_1530 : decode cL_law 1530 = .ok (.iconst 2, 1) := dc_iconst_2 (dby_of dby_23 (j := 58) rfl)
theorem dL_law_1531 : decode cL_law 1531 = .ok (.iadd, 1) := dc_iadd (dby_of dby_23 (j := 59) rfl)
theorem dL_law_1532 : decode cL_law 1532 = .ok (.iaload, 1) := dc_iaload (dby_of dby_23 (j := 60) rfl)
theorem dL_law_1533 : decode cL_law 1533 = .ok (.ifCond .eq 7, 3) := dc_ifCond_eq (dby_of dby_23 (j := 61) rfl) (dby_of dby_23 (j := 62) rfl) (dby_of dby_23 (j := 63) rfl) (by decide)
theorem dL_law_1536 : decode cL_law 1536 = .ok (.iconst 1, 1) := dc_iconst_1 (dby_of dby_24 (j := 0) rfl)
theorem dL_law_1537 : decode cL_law 1537 = .ok (.goto 4, 3) := dc_goto (dby_of dby_24 (j := 1) rfl) (dby_of dby_24 (j := 2) rfl) (dby_of dby_24 (j := 3) rfl) (by decide)
theorem dL_law_1540 : decode cL_law 1540 = .ok (.iconst 0, 1) := dc_iconst_0 (dby_of dby_24 (j := 4) rfl)
theorem dL_law_1541 : decode cL_law 1541 = .ok (.aload_n 0, 1) := dc_aload_n_0 (dby_of dby_24 (j := 5) rfl)
theorem dL_law_1542 : decode cL_law 1542 = .ok (.iload 4, 2) := dc_iload (dby_of dby_24 (j := 6) rfl) (dby_of dby_24 (j := 7) rfl) rfl
theorem dL_law_1544 : decode cL_law 1544 = .ok (.iconst 3, 1) := dc_iconst_3 (dby_of dby_24 (j := 8) rfl)
theorem dL_law_1545 : decode cL_law 1545 = .ok (.iadd, 1) := dc_iadd (dby_of dby_24 (j := 9) rfl)
theorem dL_law_1546 : decode cL_law 1546 = .ok (.iaload, 1) := dc_iaload (dby_of dby_24 (j := 10) rfl)
theorem dL_law_1547 : decode cL_law 1547 = .ok (.aload_n 0, 1) := dc_aload_n_0 (dby_of dby_24 (j := 11) rfl)
theorem dL_law_1548 : decode cL_law 1548 = .ok (.iload 4, 2) := dc_iload (dby_of dby_24 (j := 12) rfl) (dby_of dby_24 (j := 13) rfl) rfl
theorem dL_law_1550 : decode cL_law 1550 = .ok (.iconst 4, 1) := dc_iconst_4 (dby_of dby_24 (j := 14) rfl)
theorem dL_law_1551 : decode cL_law 1551 = .ok (.iadd, 1) := dc_iadd (dby_of dby_24 (j := 15) rfl)
theorem dL_law_1552 : decode cL_law 1552 = .ok (.iaload, 1) := dc_iaload (dby_of dby_24 (j := 16) rfl)
theorem dL_law_1553 : decode cL_law 1553 = .ok (.ifCond .eq 7, 3) := dc_ifCond_eq (dby_of dby_24 (j := 17) rfl) (dby_of dby_24 (j := 18) rfl) (dby_of dby_24 (j := 19) rfl) (by decide)
theorem dL_law_1556 : decode cL_law 1556 = .ok (.iconst 1, 1) := dc_iconst_1 (dby_of dby_24 (j := 20) rfl)
theorem dL_law_1557 : decode cL_law 1557 = .ok (.goto 4, 3) := dc_goto (dby_of dby_24 (j := 21) rfl) (dby_of dby_24 (j := 22) rfl) (dby_of dby_24 (j := 23) rfl) (by decide)
theorem dL_law_1560 : decode cL_law 1560 = .ok (.iconst 0, 1) := dc_iconst_0 (dby_of dby_24 (j := 24) rfl)
theorem dL_law_1561 : decode cL_law 1561 = .ok (.aload_n 0, 1) := dc_aload_n_0 (dby_of dby_24 (j := 25) rfl)
theorem dL_law_1562 : decode cL_law 1562 = .ok (.iload 4, 2) := dc_iload (dby_of dby_24 (j := 26) rfl) (dby_of dby_24 (j := 27) rfl) rfl
theorem dL_law_1564 : decode cL_law 1564 = .ok (.iconst 5, 1) := dc_iconst_5 (dby_of dby_24 (j := 28) rfl)
theorem dL_law_1565 : decode cL_law 1565 = .ok (.iadd, 1) := dc_iadd (dby_of dby_24 (j := 29) rfl)
theorem dL_law_1566 : decode cL_law 1566 = .ok (.iaload, 1) := dc_iaload (dby_of dby_24 (j := 30) rfl)
theorem dL_law_1567 : decode cL_law 1567 = .ok (.ifCond .eq 7, 3) := dc_ifCond_eq (dby_of dby_24 (j := 31) rfl) (dby_of dby_24 (j := 32) rfl) (dby_of dby_24 (j := 33) rfl) (by decide)
theorem dL_law_1570 : decode cL_law 1570 = .ok (.iconst 1, 1) := dc_iconst_1 (dby_of dby_24 (j := 34) rfl)
theorem dL_law_1571 : decode cL_law 1571 = .ok (.goto 4, 3) := dc_goto (dby_of dby_24 (j := 35) rfl) (dby_of dby_24 (j := 36) rfl) (dby_of dby_24 (j := 37) rfl) (by decide)
theorem dL_law_1574 : decode cL_law 1574 = .ok (.iconst 0, 1) := dc_iconst_0 (dby_of dby_24 (j := 38) rfl)
theorem dL_law_1575 : decode cL_law 1575 = .ok (.invokevirtual 247, 3) := dc_invokevirtual (dby_of dby_24 (j := 39) rfl) (dby_of dby_24 (j := 40) rfl) (dby_of dby_24 (j := 41) rfl) rfl
theorem dL_law_1578 : decode cL_law 1578 = .ok (.istore 6, 2) := dc_istore (dby_of dby_24 (j := 42) rfl) (dby_of dby_24 (j := 43) rfl) rfl
theorem dL_law_1580 : decode cL_law 1580 = .ok (.aload_n 2, 1) := dc_aload_n_2 (dby_of dby_24 (j := 44) rfl)
theorem dL_law_1581 : decode cL_law 1581 = .ok (.invokevirtual 183, 3) := dc_invokevirtual (dby_of dby_24 (j := 45) rfl) (dby_of dby_24 (j := 46) rfl) (dby_of dby_24 (j := 47) rfl) rfl
theorem dL_law_1584 : decode cL_law 1584 = .ok (.iload 5, 2) := dc_iload (dby_of dby_24 (j := 48) rfl) (dby_of dby_24 (j := 49) rfl) rfl
theorem dL_law_1586 : decode cL_law 1586 = .ok (.if_icmp .eq 5, 3) := dc_if_icmp_eq (dby_of dby_24 (j := 50) rfl) (dby_of dby_24 (j := 51) rfl) (dby_of dby_24 (j := 52) rfl) (by decide)
theorem dL_law_1589 : decode cL_law 1589 = .ok (.iconst 0, 1) := dc_iconst_0 (dby_of dby_24 (j := 53) rfl)
theorem dL_law_1590 : decode cL_law 1590 = .ok (.ireturn, 1) := dc_ireturn (dby_of dby_24 (j := 54) rfl)
theorem dL_law_1591 : decode cL_law 1591 = .ok (.iload 5, 2) := dc_iload (dby_of dby_24 (j := 55) rfl) (dby_of dby_24 (j := 56) rfl) rfl
theorem dL_law_1593 : decode cL_law 1593 = .ok (.ifCond .ne 15, 3) := dc_ifCond_ne (dby_of dby_24 (j := 57) rfl) (dby_of dby_24 (j := 58) rfl) (dby_of dby_24 (j := 59) rfl) (by decide)
theorem dL_law_1596 : decode cL_law 1596 = .ok (.aload_n 3, 1) := dc_aload_n_3 (dby_of dby_24 (j := 60) rfl)
theorem dL_law_1597 : decode cL_law 1597 = .ok (.iconst 0, 1) := dc_iconst_0 (dby_of dby_24 (j := 61) rfl)
theorem dL_law_1598 : decode cL_law 1598 = .ok (.laload, 1) := dc_laload (dby_of dby_24 (j := 62) rfl)
theorem dL_law_1599 : decode cL_law 1599 = .ok (.iload 6, 2) := dc_iload (dby_of dby_24 (j := 63) rfl) (dby_of dby_25 (j := 0) rfl) rfl
theorem dL_law_1601 : decode cL_law 1601 = .ok (.i2l, 1) := dc_i2l (dby_of dby_25 (j := 1) rfl)
theorem dL_law_1602 : decode cL_law 1602 = .ok (.lcmp, 1) := dc_lcmp (dby_of dby_25 (j := 2) rfl)
theorem dL_law_1603 : decode cL_law 1603 = .ok (.ifCond .eq 5, 3) := dc_ifCond_eq (dby_of dby_25 (j := 3) rfl) (dby_of dby_25 (j := 4) rfl) (dby_of dby_25 (j := 5) rfl) (by decide)
theorem dL_law_1606 : decode cL_law 1606 = .ok (.iconst 0, 1) := dc_iconst_0 (dby_of dby_25 (j := 6) rfl)
theorem dL_law_1607 : decode cL_law 1607 = .ok (.ireturn, 1) := dc_ireturn (dby_of dby_25 (j := 7) rfl)
theorem dL_law_1608 : decode cL_law 1608 = .ok (.goto 2943, 3) := dc_goto (dby_of dby_25 (j := 8) rfl) (dby_of dby_25 (j := 9) rfl) (dby_of dby_25 (j := 10) rfl) (by decide)
theorem dL_law_1611 : decode cL_law 1611 = .ok (.aload_n 1, 1) := dc_aload_n_1 (dby_of dby_25 (j := 11) rfl)
theorem dL_law_1612 : decode cL_law 1612 = .ok (.aload_n 0, 1) := dc_aload_n_0 (dby_of dby_25 (j := 12) rfl)
theorem dL_law_1613 : decode cL_law 1613 = .ok (.iload 4, 2) := dc_iload (dby_of dby_25 (j := 13) rfl) (dby_of dby_25 (j := 14) rfl) rfl
theorem dL_law_1615 : decode cL_law 1615 = .ok (.iconst 1, 1) := dc_iconst_1 (dby_of dby_25 (j := 15) rfl)
theorem dL_law_1616 : decode cL_law 1616 = .ok (.iadd, 1) := dc_iadd (dby_of dby_25 (j := 16) rfl)
theorem dL_law_1617 : decode cL_law 1617 = .ok (.iaload, 1) := dc_iaload (dby_of dby_25 (j := 17) rfl)
theorem dL_law_1618 : decode cL_law 1618 = .ok (.aload_n 0, 1) := dc_aload_n_0 (dby_of dby_25 (j := 18) rfl)
theorem dL_law_1619 : decode cL_law 1619 = .ok (.iload 4, 2) := dc_iload (dby_of dby_25 (j := 19) rfl) (dby_of dby_25 (j := 20) rfl) rfl
theorem dL_law_1621 : decode cL_law 1621 = .ok (.iconst 2, 1) := dc_iconst_2 (dby_of dby_25 (j := 21) rfl)
theorem dL_law_1622 : decode cL_law 1622 = .ok (.iadd, 1) := dc_iadd (dby_of dby_25 (j := 22) rfl)
theorem dL_law_1623 : decode cL_law 1623 = .ok (.iaload, 1) := dc_iaload (dby_of dby_25 (j := 23) rfl)
theorem dL_law_1624 : decode cL_law 1624 = .ok (.aload_n 0, 1) := dc_aload_n_0 (dby_of dby_25 (j := 24) rfl)
theorem dL_law_1625 : decode cL_law 1625 = .ok (.iload 4, 2) := dc_iload (dby_of dby_25 (j := 25) rfl) (dby_of dby_25 (j := 26) rfl) rfl
theorem dL_law_1627 : decode cL_law 1627 = .ok (.iconst 3, 1) := dc_iconst_3 (dby_of dby_25 (j := 27) rfl)
theorem dL_law_1628 : decode cL_law 1628 = .ok (.iadd, 1) := dc_iadd (dby_of dby_25 (j := 28) rfl)
theorem dL_law_1629 : decode cL_law 1629 = .ok (.iaload, 1) := dc_iaload (dby_of dby_25 (j := 29) rfl)
theorem dL_law_1630 : decode cL_law 1630 = .ok (.ifCond .eq 7, 3) := dc_ifCond_eq (dby_of dby_25 (j := 30) rfl) (dby_of dby_25 (j := 31) rfl) (dby_of dby_25 (j := 32) rfl) (by decide)
theorem dL_law_1633 : decode cL_law 1633 = .ok (.iconst 1, 1) := dc_iconst_1 (dby_of dby_25 (j := 33) rfl)
theorem dL_law_1634 : decode cL_law 1634 = .ok (.goto 4, 3) := dc_goto (dby_of dby_25 (j := 34) rfl) (dby_of dby_25 (j := 35) rfl) (dby_of dby_25 (j := 36) rfl) (by decide)
theorem dL_law_1637 : decode cL_law 1637 = .ok (.iconst 0, 1) := dc_iconst_0 (dby_of dby_25 (j := 37) rfl)
theorem dL_law_1638 : decode cL_law 1638 = .ok (.aload_n 3, 1) := dc_aload_n_3 (dby_of dby_25 (j := 38) rfl)
theorem dL_law_1639 : decode cL_law 1639 = .ok (.invokestatic 248, 3) := dc_invokestatic (dby_of dby_25 (j := 39) rfl) (dby_of dby_25 (j := 40) rfl) (dby_of dby_25 (j := 41) rfl) rfl
theorem dL_law_1642 : decode cL_law 1642 = .ok (.istore 5, 2) := dc_istore (dby_of dby_25 (j := 42) rfl) (dby_of dby_25 (j := 43) rfl) rfl
theorem dL_law_1644 : decode cL_law 1644 = .ok (.aload_n 2, 1) := dc_aload_n_2 (dby_of dby_25 (j := 44) rfl)
theorem dL_law_1645 : decode cL_law 1645 = .ok (.aload_n 0, 1) := dc_aload_n_0 (dby_of dby_25 (j := 45) rfl)
theorem dL_law_1646 : decode cL_law 1646 = .ok (.iload 4, 2) := dc_iload (dby_of dby_25 (j := 46) rfl) (dby_of dby_25 (j := 47) rfl) rfl
theorem dL_law_1648 : decode cL_law 1648 = .ok (.iconst 1, 1) := dc_iconst_1 (dby_of dby_25 (j := 48) rfl)
theorem dL_law_1649 : decode cL_law 1649 = .ok (.iadd, 1) := dc_iadd (dby_of dby_25 (j := 49) rfl)
theorem dL_law_1650 : decode cL_law 1650 = .ok (.iaload, 1) := dc_iaload (dby_of dby_25 (j := 50) rfl)
theorem dL_law_1651 : decode cL_law 1651 = .ok (.aload_n 0, 1) := dc_aload_n_0 (dby_of dby_25 (j := 51) rfl)
theorem dL_law_1652 : decode cL_law 1652 = .ok (.iload 4, 2) := dc_iload (dby_of dby_25 (j := 52) rfl) (dby_of dby_25 (j := 53) rfl) rfl
theorem dL_law_1654 : decode cL_law 1654 = .ok (.iconst 2, 1) := dc_iconst_2 (dby_of dby_25 (j := 54) rfl)
theorem dL_law_1655 : decode cL_law 1655 = .ok (.iadd, 1) := dc_iadd (dby_of dby_25 (j := 55) rfl)
theorem dL_law_1656 : decode cL_law 1656 = .ok (.iaload, 1) := dc_iaload (dby_of dby_25 (j := 56) rfl)
theorem dL_law_1657 : decode cL_law 1657 = .ok (.aload_n 0, 1) := dc_aload_n_0 (dby_of dby_25 (j := 57) rfl)
theorem dL_law_1658 : decode cL_law 1658 = .ok (.iload 4, 2) := dc_iload (dby_of dby_25 (j := 58) rfl) (dby_of dby_25 (j := 59) rfl) rfl
theorem dL_law_1660 : decode cL_law 1660 = .ok (.iconst 3, 1) := dc_iconst_3 (dby_of dby_25 (j := 60) rfl)
theorem dL_law_1661 : decode cL_law 1661 = .ok (.iadd, 1) := dc_iadd (dby_of dby_25 (j := 61) rfl)
theorem dL_law_1662 : decode cL_law 1662 = .ok (.iaload, 1) := dc_iaload (dby_of dby_25 (j := 62) rfl)
theorem dL_law_1663 : decode cL_law 1663 = .ok (.ifCond .eq 7, 3) := dc_ifCond_eq (dby_of dby_25 (j := 63) rfl) (dby_of dby_26 (j := 0) rfl) (dby_of dby_26 (j := 1) rfl) (by decide)
theorem dL_law_1666 : decode cL_law 1666 = .ok (.iconst 1, 1) := dc_iconst_1 (dby_of dby_26 (j := 2) rfl)
theorem dL_law_1667 : decode cL_law 1667 = .ok (.goto 4, 3) := dc_goto (dby_of dby_26 (j := 3) rfl) (dby_of dby_26 (j := 4) rfl) (dby_of dby_26 (j := 5) rfl) (by decide)
theorem dL_law_1670 : decode cL_law 1670 = .ok (.iconst 0, 1) := dc_iconst_0 (dby_of dby_26 (j := 6) rfl)
theorem dL_law_1671 : decode cL_law 1671 = .ok (.invokevirtual 250, 3) := dc_invokevirtual (dby_of dby_26 (j := 7) rfl) (dby_of dby_26 (j := 8) rfl) (dby_of dby_26 (j := 9) rfl) rfl
theorem dL_law_1674 : decode cL_law 1674 = .ok (.istore 6, 2) := dc_istore (dby_of dby_26 (j := 10) rfl) (dby_of dby_26 (j := 11) rfl) rfl
theorem dL_law_1676 : decode cL_law 1676 = .ok (.aload_n 2, 1) := dc_aload_n_2 (dby_of dby_26 (j := 12) rfl)
theorem dL_law_1677 : decode cL_law 1677 = .ok (.invokevirtual 183, 3) := dc_invokevirtual (dby_of dby_26 (j := 13) rfl) (dby_of dby_26 (j := 14) rfl) (dby_of dby_26 (j := 15) rfl) rfl
theorem dL_law_1680 : decode cL_law 1680 = .ok (.iload 5, 2) := dc_iload (dby_of dby_26 (j := 16) rfl) (dby_of dby_26 (j := 17) rfl) rfl
theorem dL_law_1682 : decode cL_law 1682 = .ok (.if_icmp .eq 5, 3) := dc_if_icmp_eq (dby_of dby_26 (j := 18) rfl) (dby_of dby_26 (j := 19) rfl) (dby_of dby_26 (j := 20) rfl) (by decide)
theorem dL_law_1685 : decode cL_law 1685 = .ok (.iconst 0, 1) := dc_iconst_0 (dby_of dby_26 (j := 21) rfl)
theorem dL_law_1686 : decode cL_law 1686 = .ok (.ireturn, 1) := dc_ireturn (dby_of dby_26 (j := 22) rfl)
theorem dL_law_1687 : decode cL_law 1687 = .ok (.iload 5, 2) := dc_iload (dby_of dby_26 (j := 23) rfl) (dby_of dby_26 (j := 24) rfl) rfl
theorem dL_law_1689 : decode cL_law 1689 = .ok (.ifCond .ne 15, 3) := dc_ifCond_ne (dby_of dby_26 (j := 25) rfl) (dby_of dby_26 (j := 26) rfl) (dby_of dby_26 (j := 27) rfl) (by decide)
theorem dL_law_1692 : decode cL_law 1692 = .ok (.aload_n 3, 1) := dc_aload_n_3 (dby_of dby_26 (j := 28) rfl)
theorem dL_law_1693 : decode cL_law 1693 = .ok (.iconst 0, 1) := dc_iconst_0 (dby_of dby_26 (j := 29) rfl)
theorem dL_law_1694 : decode cL_law 1694 = .ok (.laload, 1) := dc_laload (dby_of dby_26 (j := 30) rfl)
theorem dL_law_1695 : decode cL_law 1695 = .ok (.iload 6, 2) := dc_iload (dby_of dby_26 (j := 31) rfl) (dby_of dby_26 (j := 32) rfl) rfl
theorem dL_law_1697 : decode cL_law 1697 = .ok (.i2l, 1) := dc_i2l (dby_of dby_26 (j := 33) rfl)
theorem dL_law_1698 : decode cL_law 1698 = .ok (.lcmp, 1) := dc_lcmp (dby_of dby_26 (j := 34) rfl)
theorem dL_law_1699 : decode cL_law 1699 = .ok (.ifCond .eq 5, 3) := dc_ifCond_eq (dby_of dby_26 (j := 35) rfl) (dby_of dby_26 (j := 36) rfl) (dby_of dby_26 (j := 37) rfl) (by decide)
theorem dL_law_1702 : decode cL_law 1702 = .ok (.iconst 0, 1) := dc_iconst_0 (dby_of dby_26 (j := 38) rfl)
theorem dL_law_1703 : decode cL_law 1703 = .ok (.ireturn, 1) := dc_ireturn (dby_of dby_26 (j := 39) rfl)
theorem dL_law_1704 : decode cL_law 1704 = .ok (.goto 2847, 3) := dc_goto (dby_of dby_26 (j := 40) rfl) (dby_of dby_26 (j := 41) rfl) (dby_of dby_26 (j := 42) rfl) (by decide)
theorem dL_law_1707 : decode cL_law 1707 = .ok (.aload_n 1, 1) := dc_aload_n_1 (dby_of dby_26 (j := 43) rfl)
theorem dL_law_1708 : decode cL_law 1708 = .ok (.aload_n 0, 1) := dc_aload_n_0 (dby_of dby_26 (j := 44) rfl)
theorem dL_law_1709 : decode cL_law 1709 = .ok (.iload 4, 2) := dc_iload (dby_of dby_26 (j := 45) rfl) (dby_of dby_26 (j := 46) rfl) rfl
theorem dL_law_1711 : decode cL_law 1711 = .ok (.iconst 1, 1) := dc_iconst_1 (dby_of dby_26 (j := 47) rfl)
theorem dL_law_1712 : decode cL_law 1712 = .ok (.iadd, 1) := dc_iadd (dby_of dby_26 (j := 48) rfl)
theorem dL_law_1713 : decode cL_law 1713 = .ok (.iaload, 1) := dc_iaload (dby_of dby_26 (j := 49) rfl)
theorem dL_law_1714 : decode cL_law 1714 = .ok (.aload_n 0, 1) := dc_aload_n_0 (dby_of dby_26 (j := 50) rfl)
theorem dL_law_1715 : decode cL_law 1715 = .ok (.iload 4, 2) := dc_iload (dby_of dby_26 (j := 51) rfl) (dby_of dby_26 (j := 52) rfl) rfl
theorem dL_law_1717 : decode cL_law 1717 = .ok (.iconst 2, 1) := dc_iconst_2 (dby_of dby_26 (j := 53) rfl)
theorem dL_law_1718 : decode cL_law 1718 = .ok (.iadd, 1) := dc_iadd (dby_of dby_26 (j := 54) rfl)
theorem dL_law_1719 : decode cL_law 1719 = .ok (.iaload, 1) := dc_iaload (dby_of dby_26 (j := 55) rfl)
theorem dL_law_1720 : decode cL_law 1720 = .ok (.ifCond .eq 7, 3) := dc_ifCond_eq (dby_of dby_26 (j := 56) rfl) (dby_of dby_26 (j := 57) rfl) (dby_of dby_26 (j := 58) rfl) (by decide)
theorem dL_law_1723 : decode cL_law 1723 = .ok (.iconst 1, 1) := dc_iconst_1 (dby_of dby_26 (j := 59) rfl)
theorem dL_law_1724 : decode cL_law 1724 = .ok (.goto 4, 3) := dc_goto (dby_of dby_26 (j := 60) rfl) (dby_of dby_26 (j := 61) rfl) (dby_of dby_26 (j := 62) rfl) (by decide)
theorem dL_law_1727 : decode cL_law 1727 = .ok (.iconst 0, 1) := dc_iconst_0 (dby_of dby_26 (j := 63) rfl)
theorem dL_law_1728 : decode cL_law 1728 = .ok (.aload_n 3, 1) := dc_aload_n_3 (dby_of dby_27 (j := 0) rfl)
theorem dL_law_1729 : decode cL_law 1729 = .ok (.invokestatic 251, 3) := dc_invokestatic (dby_of dby_27 (j := 1) rfl) (dby_of dby_27 (j := 2) rfl) (dby_of dby_27 (j := 3) rfl) rfl
theorem dL_law_1732 : decode cL_law 1732 = .ok (.istore 5, 2) := dc_istore (dby_of dby_27 (j := 4) rfl) (dby_of dby_27 (j := 5) rfl) rfl
theorem dL_law_1734 : decode cL_law 1734 = .ok (.aload_n 2, 1) := dc_aload_n_2 (dby_of dby_27 (j := 6) rfl)
theorem dL_law_1735 : decode cL_law 1735 = .ok (.aload_n 0, 1) := dc_aload_n_0 (dby_of dby_27 (j := 7) rfl)
theorem dL_law_1736 : decode cL_law 1736 = .ok (.iload 4, 2) := dc_iload (dby_of dby_27 (j := 8) rfl) (dby_of dby_27 (j := 9) rfl) rfl
theorem dL_law_1738 : decode cL_law 1738 = .ok (.iconst 1, 1) := dc_iconst_1 (dby_of dby_27 (j := 10) rfl)
theorem dL_law_1739 : decode cL_law 1739 = .ok (.iadd, 1) := dc_iadd (dby_of dby_27 (j := 11) rfl)
theorem dL_law_1740 : decode cL_law 1740 = .ok (.iaload, 1) := dc_iaload (dby_of dby_27 (j := 12) rfl)
theorem dL_law_1741 : decode cL_law 1741 = .ok (.aload_n 0, 1) := dc_aload_n_0 (dby_of dby_27 (j := 13) rfl)
theorem dL_law_1742 : decode cL_law 1742 = .ok (.iload 4, 2) := dc_iload (dby_of dby_27 (j := 14) rfl) (dby_of dby_27 (j := 15) rfl) rfl
theorem dL_law_1744 : decode cL_law 1744 = .ok (.iconst 2, 1) := dc_iconst_2 (dby_of dby_27 (j := 16) rfl)
theorem dL_law_1745 : decode cL_law 1745 = .ok (.iadd, 1) := dc_iadd (dby_of dby_27 (j := 17) rfl)
theorem dL_law_1746 : decode cL_law 1746 = .ok (.iaload, 1) := dc_iaload (dby_of dby_27 (j := 18) rfl)
theorem dL_law_1747 : decode cL_law 1747 = .ok (.ifCond .eq 7, 3) := dc_ifCond_eq (dby_of dby_27 (j := 19) rfl) (dby_of dby_27 (j := 20) rfl) (dby_of dby_27 (j := 21) rfl) (by decide)
theorem dL_law_1750 : decode cL_law 1750 = .ok (.iconst 1, 1) := dc_iconst_1 (dby_of dby_27 (j := 22) rfl)
theorem dL_law_1751 : decode cL_law 1751 = .ok (.goto 4, 3) := dc_goto (dby_of dby_27 (j := 23) rfl) (dby_of dby_27 (j := 24) rfl) (dby_of dby_27 (j := 25) rfl) (by decide)
theorem dL_law_1754 : decode cL_law 1754 = .ok (.iconst 0, 1) := dc_iconst_0 (dby_of dby_27 (j := 26) rfl)
theorem dL_law_1755 : decode cL_law 1755 = .ok (.invokevirtual 253, 3) := dc_invokevirtual (dby_of dby_27 (j := 27) rfl) (dby_of dby_27 (j := 28) rfl) (dby_of dby_27 (j := 29) rfl) rfl
theorem dL_law_1758 : decode cL_law 1758 = .ok (.istore 6, 2) := dc_istore (dby_of dby_27 (j := 30) rfl) (dby_of dby_27 (j := 31) rfl) rfl
theorem dL_law_1760 : decode cL_law 1760 = .ok (.aload_n 2, 1) := dc_aload_n_2 (dby_of dby_27 (j := 32) rfl)
theorem dL_law_1761 : decode cL_law 1761 = .ok (.invokevirtual 183, 3) := dc_invokevirtual (dby_of dby_27 (j := 33) rfl) (dby_of dby_27 (j := 34) rfl) (dby_of dby_27 (j := 35) rfl) rfl
theorem dL_law_1764 : decode cL_law 1764 = .ok (.iload 5, 2) := dc_iload (dby_of dby_27 (j := 36) rfl) (dby_of dby_27 (j := 37) rfl) rfl
theorem dL_law_1766 : decode cL_law 1766 = .ok (.if_icmp .eq 5, 3) := dc_if_icmp_eq (dby_of dby_27 (j := 38) rfl) (dby_of dby_27 (j := 39) rfl) (dby_of dby_27 (j := 40) rfl) (by decide)
theorem dL_law_1769 : decode cL_law 1769 = .ok (.iconst 0, 1) := dc_iconst_0 (dby_of dby_27 (j := 41) rfl)
theorem dL_law_1770 : decode cL_law 1770 = .ok (.ireturn, 1) := dc_ireturn (dby_of dby_27 (j := 42) rfl)
theorem dL_law_1771 : decode cL_law 1771 = .ok (.iload 5, 2) := dc_iload (dby_of dby_27 (j := 43) rfl) (dby_of dby_27 (j := 44) rfl) rfl
theorem dL_law_1773 : decode cL_law 1773 = .ok (.ifCond .ne 15, 3) := dc_ifCond_ne (dby_of dby_27 (j := 45) rfl) (dby_of dby_27 (j := 46) rfl) (dby_of dby_27 (j := 47) rfl) (by decide)
theorem dL_law_1776 : decode cL_law 1776 = .ok (.aload_n 3, 1) := dc_aload_n_3 (dby_of dby_27 (j := 48) rfl)
theorem dL_law_1777 : decode cL_law 1777 = .ok (.iconst 0, 1) := dc_iconst_0 (dby_of dby_27 (j := 49) rfl)
theorem dL_law_1778 : decode cL_law 1778 = .ok (.laload, 1) := dc_laload (dby_of dby_27 (j := 50) rfl)
theorem dL_law_1779 : decode cL_law 1779 = .ok (.iload 6, 2) := dc_iload (dby_of dby_27 (j := 51) rfl) (dby_of dby_27 (j := 52) rfl) rfl
theorem dL_law_1781 : decode cL_law 1781 = .ok (.i2l, 1) := dc_i2l (dby_of dby_27 (j := 53) rfl)
theorem dL_law_1782 : decode cL_law 1782 = .ok (.lcmp, 1) := dc_lcmp (dby_of dby_27 (j := 54) rfl)
theorem dL_law_1783 : decode cL_law 1783 = .ok (.ifCond .eq 5, 3) := dc_ifCond_eq (dby_of dby_27 (j := 55) rfl) (dby_of dby_27 (j := 56) rfl) (dby_of dby_27 (j := 57) rfl) (by decide)
theorem dL_law_1786 : decode cL_law 1786 = .ok (.iconst 0, 1) := dc_iconst_0 (dby_of dby_27 (j := 58) rfl)
theorem dL_law_1787 : decode cL_law 1787 = .ok (.ireturn, 1) := dc_ireturn (dby_of dby_27 (j := 59) rfl)
theorem dL_law_1788 : decode cL_law 1788 = .ok (.goto 2763, 3) := dc_goto (dby_of dby_27 (j := 60) rfl) (dby_of dby_27 (j := 61) rfl) (dby_of dby_27 (j := 62) rfl) (by decide)
theorem dL_law_1791 : decode cL_law 1791 = .ok (.aload_n 1, 1) := dc_aload_n_1 (dby_of dby_27 (j := 63) rfl)
theorem dL_law_1792 : decode cL_law 1792 = .ok (.aload_n 0, 1) := dc_aload_n_0 (dby_of dby_28 (j := 0) rfl)
theorem dL_law_1793 : decode cL_law 1793 = .ok (.iload 4, 2) := dc_iload (dby_of dby_28 (j := 1) rfl) (dby_of dby_28 (j := 2) rfl) rfl
theorem dL_law_1795 : decode cL_law 1795 = .ok (.iconst 1, 1) := dc_iconst_1 (dby_of dby_28 (j := 3) rfl)
theorem dL_law_1796 : decode cL_law 1796 = .ok (.iadd, 1) := dc_iadd (dby_of dby_28 (j := 4) rfl)
theorem dL_law_1797 : decode cL_law 1797 = .ok (.iaload, 1) := dc_iaload (dby_of dby_28 (j := 5) rfl)
theorem dL_law_1798 : decode cL_law 1798 = .ok (.aload_n 0, 1) := dc_aload_n_0 (dby_of dby_28 (j := 6) rfl)
theorem dL_law_1799 : decode cL_law 1799 = .ok (.iload 4, 2) := dc_iload (dby_of dby_28 (j := 7) rfl) (dby_of dby_28 (j := 8) rfl) rfl
theorem dL_law_1801 : decode cL_law 1801 = .ok (.iconst 2, 1) := dc_iconst_2 (dby_of dby_28 (j := 9) rfl)
theorem dL_law_1802 : decode cL_law 1802 = .ok (.iadd, 1) := dc_iadd (dby_of dby_28 (j := 10) rfl)
theorem dL_law_1803 : decode cL_law 1803 = .ok (.iaload, 1) := dc_iaload (dby_of dby_28 (j := 11) rfl)
theorem dL_law_1804 : decode cL_law 1804 = .ok (.aload_n 0, 1) := dc_aload_n_0 (dby_of dby_28 (j := 12) rfl)
theorem dL_law_1805 : decode cL_law 1805 = .ok (.iload 4, 2) := dc_iload (dby_of dby_28 (j := 13) rfl) (dby_of dby_28 (j := 14) rfl) rfl
theorem dL_law_1807 : decode cL_law 1807 = .ok (.iconst 3, 1) := dc_iconst_3 (dby_of dby_28 (j := 15) rfl)
theorem dL_law_1808 : decode cL_law 1808 = .ok (.iadd, 1) := dc_iadd (dby_of dby_28 (j := 16) rfl)
theorem dL_law_1809 : decode cL_law 1809 = .ok (.iaload, 1) := dc_iaload (dby_of dby_28 (j := 17) rfl)
theorem dL_law_1810 : decode cL_law 1810 = .ok (.ifCond .eq 7, 3) := dc_ifCond_eq (dby_of dby_28 (j := 18) rfl) (dby_of dby_28 (j := 19) rfl) (dby_of dby_28 (j := 20) rfl) (by decide)
theorem dL_law_1813 : decode cL_law 1813 = .ok (.iconst 1, 1) := dc_iconst_1 (dby_of dby_28 (j := 21) rfl)
theorem dL_law_1814 : decode cL_law 1814 = .ok (.goto 4, 3) := dc_goto (dby_of dby_28 (j := 22) rfl) (dby_of dby_28 (j := 23) rfl) (dby_of dby_28 (j := 24) rfl) (by decide)
theorem dL_law_1817 : decode cL_law 1817 = .ok (.iconst 0, 1) := dc_iconst_0 (dby_of dby_28 (j := 25) rfl)
theorem dL_law_1818 : decode cL_law 1818 = .ok (.aload_n 3, 1) := dc_aload_n_3 (dby_of dby_28 (j := 26) rfl)
theorem dL_law_1819 : decode cL_law 1819 = .ok (.invokestatic 254, 3) := dc_invokestatic (dby_of dby_28 (j := 27) rfl) (dby_of dby_28 (j := 28) rfl) (dby_of dby_28 (j := 29) rfl) rfl
theorem dL_law_1822 : decode cL_law 1822 = .ok (.istore 5, 2) := dc_istore (dby_of dby_28 (j := 30) rfl) (dby_of dby_28 (j := 31) rfl) rfl
theorem dL_law_1824 : decode cL_law 1824 = .ok (.aload_n 2, 1) := dc_aload_n_2 (dby_of dby_28 (j := 32) rfl)
theorem dL_law_1825 : decode cL_law 1825 = .ok (.aload_n 0, 1) := dc_aload_n_0 (dby_of dby_28 (j := 33) rfl)
theorem dL_law_1826 : decode cL_law 1826 = .ok (.iload 4, 2) := dc_iload (dby_of dby_28 (j := 34) rfl) (dby_of dby_28 (j := 35) rfl) rfl
theorem dL_law_1828 : decode cL_law 1828 = .ok (.iconst 1, 1) := dc_iconst_1 (dby_of dby_28 (j := 36) rfl)
theorem dL_law_1829 : decode cL_law 1829 = .ok (.iadd, 1) := dc_iadd (dby_of dby_28 (j := 37) rfl)
theorem dL_law_1830 : decode cL_law 1830 = .ok (.iaload, 1) := dc_iaload (dby_of dby_28 (j := 38) rfl)
theorem dL_law_1831 : decode cL_law 1831 = .ok (.aload_n 0, 1) := dc_aload_n_0 (dby_of dby_28 (j := 39) rfl)
theorem dL_law_1832 : decode cL_law 1832 = .ok (.iload 4, 2) := dc_iload (dby_of dby_28 (j := 40) rfl) (dby_of dby_28 (j := 41) rfl) rfl
theorem dL_law_1834 : decode cL_law 1834 = .ok (.iconst 2, 1) := dc_iconst_2 (dby_of dby_28 (j := 42) rfl)
theorem dL_law_1835 : decode cL_law 1835 = .ok (.iadd, 1) := dc_iadd (dby_of dby_28 (j := 43) rfl)
theorem dL_law_1836 : decode cL_law 1836 = .ok (.iaload, 1) := dc_iaload (dby_of dby_28 (j := 44) rfl)
theorem dL_law_1837 : decode cL_law 1837 = .ok (.aload_n 0, 1) := dc_aload_n_0 (dby_of dby_28 (j := 45) rfl)
theorem dL_law_1838 : decode cL_law 1838 = .ok (.iload 4, 2) := dc_iload (dby_of dby_28 (j := 46) rfl) (dby_of dby_28 (j := 47) rfl) rfl
theorem dL_law_1840 : decode cL_law 1840 = .ok (.iconst 3, 1) := dc_iconst_3 (dby_of dby_28 (j := 48) rfl)
theorem dL_law_1841 : decode cL_law 1841 = .ok (.iadd, 1) := dc_iadd (dby_of dby_28 (j := 49) rfl)
theorem dL_law_1842 : decode cL_law 1842 = .ok (.iaload, 1) := dc_iaload (dby_of dby_28 (j := 50) rfl)
theorem dL_law_1843 : decode cL_law 1843 = .ok (.ifCond .eq 7, 3) := dc_ifCond_eq (dby_of dby_28 (j := 51) rfl) (dby_of dby_28 (j := 52) rfl) (dby_of dby_28 (j := 53) rfl) (by decide)
theorem dL_law_1846 : decode cL_law 1846 = .ok (.iconst 1, 1) := dc_iconst_1 (dby_of dby_28 (j := 54) rfl)
theorem dL_law_1847 : decode cL_law 1847 = .ok (.goto 4, 3) := dc_goto (dby_of dby_28 (j := 55) rfl) (dby_of dby_28 (j := 56) rfl) (dby_of dby_28 (j := 57) rfl) (by decide)
theorem dL_law_1850 : decode cL_law 1850 = .ok (.iconst 0, 1) := dc_iconst_0 (dby_of dby_28 (j := 58) rfl)
theorem dL_law_1851 : decode cL_law 1851 = .ok (.invokevirtual 256, 3) := dc_invokevirtual (dby_of dby_28 (j := 59) rfl) (dby_of dby_28 (j := 60) rfl) (dby_of dby_28 (j := 61) rfl) rfl
theorem dL_law_1854 : decode cL_law 1854 = .ok (.istore 6, 2) := dc_istore (dby_of dby_28 (j := 62) rfl) (dby_of dby_28 (j := 63) rfl) rfl
theorem dL_law_1856 : decode cL_law 1856 = .ok (.aload_n 2, 1) := dc_aload_n_2 (dby_of dby_29 (j := 0) rfl)
theorem dL_law_1857 : decode cL_law 1857 = .ok (.invokevirtual 183, 3) := dc_invokevirtual (dby_of dby_29 (j := 1) rfl) (dby_of dby_29 (j := 2) rfl) (dby_of dby_29 (j := 3) rfl) rfl
theorem dL_law_1860 : decode cL_law 1860 = .ok (.iload 5, 2) := dc_iload (dby_of dby_29 (j := 4) rfl) (dby_of dby_29 (j := 5) rfl) rfl
theorem dL_law_1862 : decode cL_law 1862 = .ok (.if_icmp .eq 5, 3) := dc_if_icmp_eq (dby_of dby_29 (j := 6) rfl) (dby_of dby_29 (j := 7) rfl) (dby_of dby_29 (j := 8) rfl) (by decide)
theorem dL_law_1865 : decode cL_law 1865 = .ok (.iconst 0, 1) := dc_iconst_0 (dby_of dby_29 (j := 9) rfl)
theorem dL_law_1866 : decode cL_law 1866 = .ok (.ireturn, 1) := dc_ireturn (dby_of dby_29 (j := 10) rfl)
theorem dL_law_1867 : decode cL_law 1867 = .ok (.iload 5, 2) := dc_iload (dby_of dby_29 (j := 11) rfl) (dby_of dby_29 (j := 12) rfl) rfl
theorem dL_law_1869 : decode cL_law 1869 = .ok (.ifCond .ne 15, 3) := dc_ifCond_ne (dby_of dby_29 (j := 13) rfl) (dby_of dby_29 (j := 14) rfl) (dby_of dby_29 (j := 15) rfl) (by decide)
theorem dL_law_1872 : decode cL_law 1872 = .ok (.aload_n 3, 1) := dc_aload_n_3 (dby_of dby_29 (j := 16) rfl)
theorem dL_law_1873 : decode cL_law 1873 = .ok (.iconst 0, 1) := dc_iconst_0 (dby_of dby_29 (j := 17) rfl)
theorem dL_law_1874 : decode cL_law 1874 = .ok (.laload, 1) := dc_laload (dby_of dby_29 (j := 18) rfl)
theorem dL_law_1875 : decode cL_law 1875 = .ok (.iload 6, 2) := dc_iload (dby_of dby_29 (j := 19) rfl) (dby_of dby_29 (j := 20) rfl) rfl
theorem dL_law_1877 : decode cL_law 1877 = .ok (.i2l, 1) := dc_i2l (dby_of dby_29 (j := 21) rfl)
theorem dL_law_1878 : decode cL_law 1878 = .ok (.lcmp, 1) := dc_lcmp (dby_of dby_29 (j := 22) rfl)
theorem dL_law_1879 : decode cL_law 1879 = .ok (.ifCond .eq 5, 3) := dc_ifCond_eq (dby_of dby_29 (j := 23) rfl) (dby_of dby_29 (j := 24) rfl) (dby_of dby_29 (j := 25) rfl) (by decide)
theorem dL_law_1882 : decode cL_law 1882 = .ok (.iconst 0, 1) := dc_iconst_0 (dby_of dby_29 (j := 26) rfl)
theorem dL_law_1883 : decode cL_law 1883 = .ok (.ireturn, 1) := dc_ireturn (dby_of dby_29 (j := 27) rfl)
theorem dL_law_1884 : decode cL_law 1884 = .ok (.goto 2667, 3) := dc_goto (dby_of dby_29 (j := 28) rfl) (dby_of dby_29 (j := 29) rfl) (dby_of dby_29 (j := 30) rfl) (by decide)
theorem dL_law_1887 : decode cL_law 1887 = .ok (.aload_n 1, 1) := dc_aload_n_1 (dby_of dby_29 (j := 31) rfl)
theorem dL_law_1888 : decode cL_law 1888 = .ok (.aload_n 0, 1) := dc_aload_n_0 (dby_of dby_29 (j := 32) rfl)
theorem dL_law_1889 : decode cL_law 1889 = .ok (.iload 4, 2) := dc_iload (dby_of dby_29 (j := 33) rfl) (dby_of dby_29 (j := 34) rfl) rfl
theorem dL_law_1891 : decode cL_law 1891 = .ok (.iconst 1, 1) := dc_iconst_1 (dby_of dby_29 (j := 35) rfl)
theorem dL_law_1892 : decode cL_law 1892 = .ok (.iadd, 1) := dc_iadd (dby_of dby_29 (j := 36) rfl)
theorem dL_law_1893 : decode cL_law 1893 = .ok (.iaload, 1) := dc_iaload (dby_of dby_29 (j := 37) rfl)
theorem dL_law_1894 : decode cL_law 1894 = .ok (.aload_n 0, 1) := dc_aload_n_0 (dby_of dby_29 (j := 38) rfl)
theorem dL_law_1895 : decode cL_law 1895 = .ok (.iload 4, 2) := dc_iload (dby_of dby_29 (j := 39) rfl) (dby_of dby_29 (j := 40) rfl) rfl
theorem dL_law_1897 : decode cL_law 1897 = .ok (.iconst 2, 1) := dc_iconst_2 (dby_of dby_29 (j := 41) rfl)
theorem dL_law_1898 : decode cL_law 1898 = .ok (.iadd, 1) := dc_iadd (dby_of dby_29 (j := 42) rfl)
theorem dL_law_1899 : decode cL_law 1899 = .ok (.iaload, 1) := dc_iaload (dby_of dby_29 (j := 43) rfl)
theorem dL_law_1900 : decode cL_law 1900 = .ok (.aload_n 0, 1) := dc_aload_n_0 (dby_of dby_29 (j := 44) rfl)
theorem dL_law_1901 : decode cL_law 1901 = .ok (.iload 4, 2) := dc_iload (dby_of dby_29 (j := 45) rfl) (dby_of dby_29 (j := 46) rfl) rfl
theorem dL_law_1903 : decode cL_law 1903 = .ok (.iconst 3, 1) := dc_iconst_3 (dby_of dby_29 (j := 47) rfl)
theorem dL_law_1904 : decode cL_law 1904 = .ok (.iadd, 1) := dc_iadd (dby_of dby_29 (j := 48) rfl)
theorem dL_law_1905 : decode cL_law 1905 = .ok (.iaload, 1) := dc_iaload (dby_of dby_29 (j := 49) rfl)
theorem dL_law_1906 : decode cL_law 1906 = .ok (.aload_n 0, 1) := dc_aload_n_0 (dby_of dby_29 (j := 50) rfl)
theorem dL_law_1907 : decode cL_law 1907 = .ok (.iload 4, 2) := dc_iload (dby_of dby_29 (j := 51) rfl) (dby_of dby_29 (j := 52) rfl) rfl
theorem dL_law_1909 : decode cL_law 1909 = .ok (.iconst 4, 1) := dc_iconst_4 (dby_of dby_29 (j := 53) rfl)
theorem dL_law_1910 : decode cL_law 1910 = .ok (.iadd, 1) := dc_iadd (dby_of dby_29 (j := 54) rfl)
theorem dL_law_1911 : decode cL_law 1911 = .ok (.iaload, 1) := dc_iaload (dby_of dby_29 (j := 55) rfl)
theorem dL_law_1912 : decode cL_law 1912 = .ok (.ifCond .eq 7, 3) := dc_ifCond_eq (dby_of dby_29 (j := 56) rfl) (dby_of dby_29 (j := 57) rfl) (dby_of dby_29 (j := 58) rfl) (by decide)
theorem dL_law_1915 : decode cL_law 1915 = .ok (.iconst 1, 1) := dc_iconst_1 (dby_of dby_29 (j := 59) rfl)
theorem dL_law_1916 : decode cL_law 1916 = .ok (.goto 4, 3) := dc_goto (dby_of dby_29 (j := 60) rfl) (dby_of dby_29 (j := 61) rfl) (dby_of dby_29 (j := 62) rfl) (by decide)
theorem dL_law_1919 : decode cL_law 1919 = .ok (.iconst 0, 1) := dc_iconst_0 (dby_of dby_29 (j := 63) rfl)
theorem dL_law_1920 : decode cL_law 1920 = .ok (.aload_n 3, 1) := dc_aload_n_3 (dby_of dby_30 (j := 0) rfl)
theorem dL_law_1921 : decode cL_law 1921 = .ok (.invokestatic 257, 3) := dc_invokestatic (dby_of dby_30 (j := 1) rfl) (dby_of dby_30 (j := 2) rfl) (dby_of dby_30 (j := 3) rfl) rfl
theorem dL_law_1924 : decode cL_law 1924 = .ok (.istore 5, 2) := dc_istore (dby_of dby_30 (j := 4) rfl) (dby_of dby_30 (j := 5) rfl) rfl
theorem dL_law_1926 : decode cL_law 1926 = .ok (.aload_n 2, 1) := dc_aload_n_2 (dby_of dby_30 (j := 6) rfl)
theorem dL_law_1927 : decode cL_law 1927 = .ok (.aload_n 0, 1) := dc_aload_n_0 (dby_of dby_30 (j := 7) rfl)
theorem dL_law_1928 : decode cL_law 1928 = .ok (.iload 4, 2) := dc_iload (dby_of dby_30 (j := 8) rfl) (dby_of dby_30 (j := 9) rfl) rfl
theorem dL_law_1930 : decode cL_law 1930 = .ok (.iconst 1, 1) := dc_iconst_1 (dby_of dby_30 (j := 10) rfl)
theorem dL_law_1931 : decode cL_law 1931 = .ok (.iadd, 1) := dc_iadd (dby_of dby_30 (j := 11) rfl)
theorem dL_law_1932 : decode cL_law 1932 = .ok (.iaload, 1) := dc_iaload (dby_of dby_30 (j := 12) rfl)
theorem dL_law_1933 : decode cL_law 1933 = .ok (.aload_n 0, 1) := dc_aload_n_0 (dby_of dby_30 (j := 13) rfl)
theorem dL_law_1934 : decode cL_law 1934 = .ok (.iload 4, 2) := dc_iload (dby_of dby_30 (j := 14) rfl) (dby_of dby_30 (j := 15) rfl) rfl
theorem dL_law_1936 : decode cL_law 1936 = .ok (.iconst 2, 1) := dc_iconst_2 (dby_of dby_30 (j := 16) rfl)
theorem dL_law_1937 : decode cL_law 1937 = .ok (.iadd, 1) := dc_iadd (dby_of dby_30 (j := 17) rfl)
theorem dL_law_1938 : decode cL_law 1938 = .ok (.iaload, 1) := dc_iaload (dby_of dby_30 (j := 18) rfl)
theorem dL_law_1939 : decode cL_law 1939 = .ok (.aload_n 0, 1) := dc_aload_n_0 (dby_of dby_30 (j := 19) rfl)
theorem dL_law_1940 : decode cL_law 1940 = .ok (.iload 4, 2) := dc_iload (dby_of dby_30 (j := 20) rfl) (dby_of dby_30 (j := 21) rfl) rfl
theorem dL_law_1942 : decode cL_law 1942 = .ok (.iconst 3, 1) := dc_iconst_3 (dby_of dby_30 (j := 22) rfl)
theorem dL_law_1943 : decode cL_law 1943 = .ok (.iadd, 1) := dc_iadd (dby_of dby_30 (j := 23) rfl)
theorem dL_law_1944 : decode cL_law 1944 = .ok (.iaload, 1) := dc_iaload (dby_of dby_30 (j := 24) rfl)
theorem dL_law_1945 : decode cL_law 1945 = .ok (.aload_n 0, 1) := dc_aload_n_0 (dby_of dby_30 (j := 25) rfl)
theorem dL_law_1946 : decode cL_law 1946 = .ok (.iload 4, 2) := dc_iload (dby_of dby_30 (j := 26) rfl) (dby_of dby_30 (j := 27) rfl) rfl
theorem dL_law_1948 : decode cL_law 1948 = .ok (.iconst 4, 1) := dc_iconst_4 (dby_of dby_30 (j := 28) rfl)
theorem dL_law_1949 : decode cL_law 1949 = .ok (.iadd, 1) := dc_iadd (dby_of dby_30 (j := 29) rfl)
theorem dL_law_1950 : decode cL_law 1950 = .ok (.iaload, 1) := dc_iaload (dby_of dby_30 (j := 30) rfl)
theorem dL_law_1951 : decode cL_law 1951 = .ok (.ifCond .eq 7, 3) := dc_ifCond_eq (dby_of dby_30 (j := 31) rfl) (dby_of dby_30 (j := 32) rfl) (dby_of dby_30 (j := 33) rfl) (by decide)
theorem dL_law_1954 : decode cL_law 1954 = .ok (.iconst 1, 1) := dc_iconst_1 (dby_of dby_30 (j := 34) rfl)
theorem dL_law_1955 : decode cL_law 1955 = .ok (.goto 4, 3) := dc_goto (dby_of dby_30 (j := 35) rfl) (dby_of dby_30 (j := 36) rfl) (dby_of dby_30 (j := 37) rfl) (by decide)
theorem dL_law_1958 : decode cL_law 1958 = .ok (.iconst 0, 1) := dc_iconst_0 (dby_of dby_30 (j := 38) rfl)
theorem dL_law_1959 : decode cL_law 1959 = .ok (.invokevirtual 260, 3) := dc_invokevirtual (dby_of dby_30 (j := 39) rfl) (dby_of dby_30 (j := 40) rfl) (dby_of dby_30 (j := 41) rfl) rfl
theorem dL_law_1962 : decode cL_law 1962 = .ok (.istore 6, 2) := dc_istore (dby_of dby_30 (j := 42) rfl) (dby_of dby_30 (j := 43) rfl) rfl
theorem dL_law_1964 : decode cL_law 1964 = .ok (.aload_n 2, 1) := dc_aload_n_2 (dby_of dby_30 (j := 44) rfl)
theorem dL_law_1965 : decode cL_law 1965 = .ok (.invokevirtual 183, 3) := dc_invokevirtual (dby_of dby_30 (j := 45) rfl) (dby_of dby_30 (j := 46) rfl) (dby_of dby_30 (j := 47) rfl) rfl
theorem dL_law_1968 : decode cL_law 1968 = .ok (.iload 5, 2) := dc_iload (dby_of dby_30 (j := 48) rfl) (dby_of dby_30 (j := 49) rfl) rfl
theorem dL_law_1970 : decode cL_law 1970 = .ok (.if_icmp .eq 5, 3) := dc_if_icmp_eq (dby_of dby_30 (j := 50) rfl) (dby_of dby_30 (j := 51) rfl) (dby_of dby_30 (j := 52) rfl) (by decide)
theorem dL_law_1973 : decode cL_law 1973 = .ok (.iconst 0, 1) := dc_iconst_0 (dby_of dby_30 (j := 53) rfl)
theorem dL_law_1974 : decode cL_law 1974 = .ok (.ireturn, 1) := dc_ireturn (dby_of dby_30 (j := 54) rfl)
theorem dL_law_1975 : decode cL_law 1975 = .ok (.iload 5, 2) := dc_iload (dby_of dby_30 (j := 55) rfl) (dby_of dby_30 (j := 56) rfl) rfl
theorem dL_law_1977 : decode cL_law 1977 = .ok (.ifCond .ne 15, 3) := dc_ifCond_ne (dby_of dby_30 (j := 57) rfl) (dby_of dby_30 (j := 58) rfl) (dby_of dby_30 (j := 59) rfl) (by decide)
theorem dL_law_1980 : decode cL_law 1980 = .ok (.aload_n 3, 1) := dc_aload_n_3 (dby_of dby_30 (j := 60) rfl)
theorem dL_law_1981 : decode cL_law 1981 = .ok (.iconst 0, 1) := dc_iconst_0 (dby_of dby_30 (j := 61) rfl)
theorem dL_law_1982 : decode cL_law 1982 = .ok (.laload, 1) := dc_laload (dby_of dby_30 (j := 62) rfl)
theorem dL_law_1983 : decode cL_law 1983 = .ok (.iload 6, 2) := dc_iload (dby_of dby_30 (j := 63) rfl) (dby_of dby_31 (j := 0) rfl) rfl
theorem dL_law_1985 : decode cL_law 1985 = .ok (.i2l, 1) := dc_i2l (dby_of dby_31 (j := 1) rfl)
theorem dL_law_1986 : decode cL_law 1986 = .ok (.lcmp, 1) := dc_lcmp (dby_of dby_31 (j := 2) rfl)
theorem dL_law_1987 : decode cL_law 1987 = .ok (.ifCond .eq 5, 3) := dc_ifCond_eq (dby_of dby_31 (j := 3) rfl) (dby_of dby_31 (j := 4) rfl) (dby_of dby_31 (j := 5) rfl) (by decide)
theorem dL_law_1990 : decode cL_law 1990 = .ok (.iconst 0, 1) := dc_iconst_0 (dby_of dby_31 (j := 6) rfl)
theorem dL_law_1991 : decode cL_law 1991 = .ok (.ireturn, 1) := dc_ireturn (dby_of dby_31 (j := 7) rfl)
theorem dL_law_1992 : decode cL_law 1992 = .ok (.goto 2559, 3) := dc_goto (dby_of dby_31 (j := 8) rfl) (dby_of dby_31 (j := 9) rfl) (dby_of dby_31 (j := 10) rfl) (by decide)
theorem dL_law_1995 : decode cL_law 1995 = .ok (.aload_n 1, 1) := dc_aload_n_1 (dby_of dby_31 (j := 11) rfl)
theorem dL_law_1996 : decode cL_law 1996 = .ok (.aload_n 0, 1) := dc_aload_n_0 (dby_of dby_31 (j := 12) rfl)
theorem dL_law_1997 : decode cL_law 1997 = .ok (.iload 4, 2) := dc_iload (dby_of dby_31 (j := 13) rfl) (dby_of dby_31 (j := 14) rfl) rfl
theorem dL_law_1999 : decode cL_law 1999 = .ok (.iconst 1, 1) := dc_iconst_1 (dby_of dby_31 (j := 15) rfl)
theorem dL_law_2000 : decode cL_law 2000 = .ok (.iadd, 1) := dc_iadd (dby_of dby_31 (j := 16) rfl)
theorem dL_law_2001 : decode cL_law 2001 = .ok (.iaload, 1) := dc_iaload (dby_of dby_31 (j := 17) rfl)
theorem dL_law_2002 : decode cL_law 2002 = .ok (.i2l, 1) := dc_i2l (dby_of dby_31 (j := 18) rfl)
theorem dL_law_2003 : decode cL_law 2003 = .ok (.bipush 32, 2) := dc_bipush (dby_of dby_31 (j := 19) rfl) (dby_of dby_31 (j := 20) rfl) (by decide)
theorem dL_law_2005 : decode cL_law 2005 = .ok (.lshl, 1) := dc_lshl (dby_of dby_31 (j := 21) rfl)
theorem dL_law_2006 : decode cL_law 2006 = .ok (.aload_n 0, 1) := dc_aload_n_0 (dby_of dby_31 (j := 22) rfl)
theorem dL_law_2007 : decode cL_law 2007 = .ok (.iload 4, 2) := dc_iload (dby_of dby_31 (j := 23) rfl) (dby_of dby_31 (j := 24) rfl) rfl
theorem dL_law_2009 : decode cL_law 2009 = .ok (.iconst 2, 1) := dc_iconst_2 (dby_of dby_31 (j := 25) rfl)
theorem dL_law_2010 : decode cL_law 2010 = .ok (.iadd, 1) := dc_iadd (dby_of dby_31 (j := 26) rfl)
theorem dL_law_2011 : decode cL_law 2011 = .ok (.iaload, 1) := dc_iaload (dby_of dby_31 (j := 27) rfl)
theorem dL_law_2012 : decode cL_law 2012 = .ok (.i2l, 1) := dc_i2l (dby_of dby_31 (j := 28) rfl)
theorem dL_law_2013 : decode cL_law 2013 = .ok (.ldc2_w 261, 3) := dc_ldc2_w (dby_of dby_31 (j := 29) rfl) (dby_of dby_31 (j := 30) rfl) (dby_of dby_31 (j := 31) rfl) rfl
theorem dL_law_2016 : decode cL_law 2016 = .ok (.land, 1) := dc_land (dby_of dby_31 (j := 32) rfl)
theorem dL_law_2017 : decode cL_law 2017 = .ok (.lor, 1) := dc_lor (dby_of dby_31 (j := 33) rfl)
theorem dL_law_2018 : decode cL_law 2018 = .ok (.aload_n 0, 1) := dc_aload_n_0 (dby_of dby_31 (j := 34) rfl)
theorem dL_law_2019 : decode cL_law 2019 = .ok (.iload 4, 2) := dc_iload (dby_of dby_31 (j := 35) rfl) (dby_of dby_31 (j := 36) rfl) rfl
theorem dL_law_2021 : decode cL_law 2021 = .ok (.iconst 3, 1) := dc_iconst_3 (dby_of dby_31 (j := 37) rfl)
theorem dL_law_2022 : decode cL_law 2022 = .ok (.iadd, 1) := dc_iadd (dby_of dby_31 (j := 38) rfl)
theorem dL_law_2023 : decode cL_law 2023 = .ok (.iaload, 1) := dc_iaload (dby_of dby_31 (j := 39) rfl)
theorem dL_law_2024 : decode cL_law 2024 = .ok (.ifCond .eq 7, 3) := dc_ifCond_eq (dby_of dby_31 (j := 40) rfl) (dby_of dby_31 (j := 41) rfl) (dby_of dby_31 (j := 42) rfl) (by decide)
theorem dL_law_2027 : decode cL_law 2027 = .ok (.iconst 1, 1) := dc_iconst_1 (dby_of dby_31 (j := 43) rfl)
theorem dL_law_2028 : decode cL_law 2028 = .ok (.goto 4, 3) := dc_goto (dby_of dby_31 (j := 44) rfl) (dby_of dby_31 (j := 45) rfl) (dby_of dby_31 (j := 46) rfl) (by decide)
theorem dL_law_2031 : decode cL_law 2031 = .ok (.iconst 0, 1) := dc_iconst_0 (dby_of dby_31 (j := 47) rfl)
theorem dL_law_2032 : decode cL_law 2032 = .ok (.aload_n 3, 1) := dc_aload_n_3 (dby_of dby_31 (j := 48) rfl)
theorem dL_law_2033 : decode cL_law 2033 = .ok (.invokestatic 263, 3) := dc_invokestatic (dby_of dby_31 (j := 49) rfl) (dby_of dby_31 (j := 50) rfl) (dby_of dby_31 (j := 51) rfl) rfl
theorem dL_law_2036 : decode cL_law 2036 = .ok (.istore 5, 2) := dc_istore (dby_of dby_31 (j := 52) rfl) (dby_of dby_31 (j := 53) rfl) rfl
theorem dL_law_2038 : decode cL_law 2038 = .ok (.aload_n 2, 1) := dc_aload_n_2 (dby_of dby_31 (j := 54) rfl)
theorem dL_law_2039 : decode cL_law 2039 = .ok (.aload_n 0, 1) := dc_aload_n_0 (dby_of dby_31 (j := 55) rfl)
theorem dL_law_2040 : decode cL_law 2040 = .ok (.iload 4, 2) := dc_iload (dby_of dby_31 (j := 56) rfl) (dby_of dby_31 (j := 57) rfl) rfl
theorem dL_law_2042 : decode cL_law 2042 = .ok (.iconst 1, 1) := dc_iconst_1 (dby_of dby_31 (j := 58) rfl)
theorem dL_law_2043 : decode cL_law 2043 = .ok (.iadd, 1) := dc_iadd (dby_of dby_31 (j := 59) rfl)
theorem dL_law_2044 : decode cL_law 2044 = .ok (.iaload, 1) := dc_iaload (dby_of dby_31 (j := 60) rfl)
theorem dL_law_2045 : decode cL_law 2045 = .ok (.i2l, 1) := dc_i2l (dby_of dby_31 (j := 61) rfl)
theorem dL_law_2046 : decode cL_law 2046 = .ok (.bipush 32, 2) := dc_bipush (dby_of dby_31 (j := 62) rfl) (dby_of dby_31 (j := 63) rfl) (by decide)
theorem dL_law_2048 : decode cL_law 2048 = .ok (.lshl, 1) := dc_lshl (dby_of dby_32 (j := 0) rfl)
theorem dL_law_2049 : decode cL_law 2049 = .ok (.aload_n 0, 1) := dc_aload_n_0 (dby_of dby_32 (j := 1) rfl)
theorem dL_law_2050 : decode cL_law 2050 = .ok (.iload 4, 2) := dc_iload (dby_of dby_32 (j := 2) rfl) (dby_of dby_32 (j := 3) rfl) rfl
theorem dL_law_2052 : decode cL_law 2052 = .ok (.iconst 2, 1) := dc_iconst_2 (dby_of dby_32 (j := 4) rfl)
theorem dL_law_2053 : decode cL_law 2053 = .ok (.iadd, 1) := dc_iadd (dby_of dby_32 (j := 5) rfl)
theorem dL_law_2054 : decode cL_law 2054 = .ok (.iaload, 1) := dc_iaload (dby_of dby_32 (j := 6) rfl)
theorem dL_law_2055 : decode cL_law 2055 = .ok (.i2l, 1) := dc_i2l (dby_of dby_32 (j := 7) rfl)
theorem dL_law_2056 : decode cL_law 2056 = .ok (.ldc2_w 261, 3) := dc_ldc2_w (dby_of dby_32 (j := 8) rfl) (dby_of dby_32 (j := 9) rfl) (dby_of dby_32 (j := 10) rfl) rfl
theorem dL_law_2059 : decode cL_law 2059 = .ok (.land, 1) := dc_land (dby_of dby_32 (j := 11) rfl)
theorem dL_law_2060 : decode cL_law 2060 = .ok (.lor, 1) := dc_lor (dby_of dby_32 (j := 12) rfl)
theorem dL_law_2061 : decode cL_law 2061 = .ok (.aload_n 0, 1) := dc_aload_n_0 (dby_of dby_32 (j := 13) rfl)
theorem dL_law_2062 : decode cL_law 2062 = .ok (.iload 4, 2) := dc_iload (dby_of dby_32 (j := 14) rfl) (dby_of dby_32 (j := 15) rfl) rfl
theorem dL_law_2064 : decode cL_law 2064 = .ok (.iconst 3, 1) := dc_iconst_3 (dby_of dby_32 (j := 16) rfl)
theorem dL_law_2065 : decode cL_law 2065 = .ok (.iadd, 1) := dc_iadd (dby_of dby_32 (j := 17) rfl)
theorem dL_law_2066 : decode cL_law 2066 = .ok (.iaload, 1) := dc_iaload (dby_of dby_32 (j := 18) rfl)
theorem dL_law_2067 : decode cL_law 2067 = .ok (.ifCond .eq 7, 3) := dc_ifCond_eq (dby_of dby_32 (j := 19) rfl) (dby_of dby_32 (j := 20) rfl) (dby_of dby_32 (j := 21) rfl) (by decide)
theorem dL_law_2070 : decode cL_law 2070 = .ok (.iconst 1, 1) := dc_iconst_1 (dby_of dby_32 (j := 22) rfl)
theorem dL_law_2071 : decode cL_law 2071 = .ok (.goto 4, 3) := dc_goto (dby_of dby_32 (j := 23) rfl) (dby_of dby_32 (j := 24) rfl) (dby_of dby_32 (j := 25) rfl) (by decide)
theorem dL_law_2074 : decode cL_law 2074 = .ok (.iconst 0, 1) := dc_iconst_0 (dby_of dby_32 (j := 26) rfl)
theorem dL_law_2075 : decode cL_law 2075 = .ok (.invokevirtual 266, 3) := dc_invokevirtual (dby_of dby_32 (j := 27) rfl) (dby_of dby_32 (j := 28) rfl) (dby_of dby_32 (j := 29) rfl) rfl
theorem dL_law_2078 : decode cL_law 2078 = .ok (.istore 6, 2) := dc_istore (dby_of dby_32 (j := 30) rfl) (dby_of dby_32 (j := 31) rfl) rfl
theorem dL_law_2080 : decode cL_law 2080 = .ok (.aload_n 2, 1) := dc_aload_n_2 (dby_of dby_32 (j := 32) rfl)
theorem dL_law_2081 : decode cL_law 2081 = .ok (.invokevirtual 183, 3) := dc_invokevirtual (dby_of dby_32 (j := 33) rfl) (dby_of dby_32 (j := 34) rfl) (dby_of dby_32 (j := 35) rfl) rfl
theorem dL_law_2084 : decode cL_law 2084 = .ok (.iload 5, 2) := dc_iload (dby_of dby_32 (j := 36) rfl) (dby_of dby_32 (j := 37) rfl) rfl
theorem dL_law_2086 : decode cL_law 2086 = .ok (.if_icmp .eq 5, 3) := dc_if_icmp_eq (dby_of dby_32 (j := 38) rfl) (dby_of dby_32 (j := 39) rfl) (dby_of dby_32 (j := 40) rfl) (by decide)
theorem dL_law_2089 : decode cL_law 2089 = .ok (.iconst 0, 1) := dc_iconst_0 (dby_of dby_32 (j := 41) rfl)
theorem dL_law_2090 : decode cL_law 2090 = .ok (.ireturn, 1) := dc_ireturn (dby_of dby_32 (j := 42) rfl)
theorem dL_law_2091 : decode cL_law 2091 = .ok (.iload 5, 2) := dc_iload (dby_of dby_32 (j := 43) rfl) (dby_of dby_32 (j := 44) rfl) rfl
theorem dL_law_2093 : decode cL_law 2093 = .ok (.ifCond .ne 15, 3) := dc_ifCond_ne (dby_of dby_32 (j := 45) rfl) (dby_of dby_32 (j := 46) rfl) (dby_of dby_32 (j := 47) rfl) (by decide)
theorem dL_law_2096 : decode cL_law 2096 = .ok (.aload_n 3, 1) := dc_aload_n_3 (dby_of dby_32 (j := 48) rfl)
theorem dL_law_2097 : decode cL_law 2097 = .ok (.iconst 0, 1) := dc_iconst_0 (dby_of dby_32 (j := 49) rfl)
theorem dL_law_2098 : decode cL_law 2098 = .ok (.laload, 1) := dc_laload (dby_of dby_32 (j := 50) rfl)
theorem dL_law_2099 : decode cL_law 2099 = .ok (.iload 6, 2) := dc_iload (dby_of dby_32 (j := 51) rfl) (dby_of dby_32 (j := 52) rfl) rfl
theorem dL_law_2101 : decode cL_law 2101 = .ok (.i2l, 1) := dc_i2l (dby_of dby_32 (j := 53) rfl)
theorem dL_law_2102 : decode cL_law 2102 = .ok (.lcmp, 1) := dc_lcmp (dby_of dby_32 (j := 54) rfl)
theorem dL_law_2103 : decode cL_law 2103 = .ok (.ifCond .eq 5, 3) := dc_ifCond_eq (dby_of dby_32 (j := 55) rfl) (dby_of dby_32 (j := 56) rfl) (dby_of dby_32 (j := 57) rfl) (by decide)
theorem dL_law_2106 : decode cL_law 2106 = .ok (.iconst 0, 1) := dc_iconst_0 (dby_of dby_32 (j := 58) rfl)
theorem dL_law_2107 : decode cL_law 2107 = .ok (.ireturn, 1) := dc_ireturn (dby_of dby_32 (j := 59) rfl)
theorem dL_law_2108 : decode cL_law 2108 = .ok (.goto 2443, 3) := dc_goto (dby_of dby_32 (j := 60) rfl) (dby_of dby_32 (j := 61) rfl) (dby_of dby_32 (j := 62) rfl) (by decide)
theorem dL_law_2111 : decode cL_law 2111 = .ok (.aload_n 1, 1) := dc_aload_n_1 (dby_of dby_32 (j := 63) rfl)
theorem dL_law_2112 : decode cL_law 2112 = .ok (.aload_n 0, 1) := dc_aload_n_0 (dby_of dby_33 (j := 0) rfl)
theorem dL_law_2113 : decode cL_law 2113 = .ok (.iload 4, 2) := dc_iload (dby_of dby_33 (j := 1) rfl) (dby_of dby_33 (j := 2) rfl) rfl
theorem dL_law_2115 : decode cL_law 2115 = .ok (.iconst 1, 1) := dc_iconst_1 (dby_of dby_33 (j := 3) rfl)
theorem dL_law_2116 : decode cL_law 2116 = .ok (.iadd, 1) := dc_iadd (dby_of dby_33 (j := 4) rfl)
theorem dL_law_2117 : decode cL_law 2117 = .ok (.iaload, 1) := dc_iaload (dby_of dby_33 (j := 5) rfl)
theorem dL_law_2118 : decode cL_law 2118 = .ok (.i2l, 1) := dc_i2l (dby_of dby_33 (j := 6) rfl)
theorem dL_law_2119 : decode cL_law 2119 = .ok (.bipush 32, 2) := dc_bipush (dby_of dby_33 (j := 7) rfl) (dby_of dby_33 (j := 8) rfl) (by decide)
theorem dL_law_2121 : decode cL_law 2121 = .ok (.lshl, 1) := dc_lshl (dby_of dby_33 (j := 9) rfl)
theorem dL_law_2122 : decode cL_law 2122 = .ok (.aload_n 0, 1) := dc_aload_n_0 (dby_of dby_33 (j := 10) rfl)
theorem dL_law_2123 : decode cL_law 2123 = .ok (.iload 4, 2) := dc_iload (dby_of dby_33 (j := 11) rfl) (dby_of dby_33 (j := 12) rfl) rfl
theorem dL_law_2125 : decode cL_law 2125 = .ok (.iconst 2, 1) := dc_iconst_2 (dby_of dby_33 (j := 13) rfl)
theorem dL_law_2126 : decode cL_law 2126 = .ok (.iadd, 1) := dc_iadd (dby_of dby_33 (j := 14) rfl)
theorem dL_law_2127 : decode cL_law 2127 = .ok (.iaload, 1) := dc_iaload (dby_of dby_33 (j := 15) rfl)
theorem dL_law_2128 : decode cL_law 2128 = .ok (.i2l, 1) := dc_i2l (dby_of dby_33 (j := 16) rfl)
theorem dL_law_2129 : decode cL_law 2129 = .ok (.ldc2_w 261, 3) := dc_ldc2_w (dby_of dby_33 (j := 17) rfl) (dby_of dby_33 (j := 18) rfl) (dby_of dby_33 (j := 19) rfl) rfl
theorem dL_law_2132 : decode cL_law 2132 = .ok (.land, 1) := dc_land (dby_of dby_33 (j := 20) rfl)
theorem dL_law_2133 : decode cL_law 2133 = .ok (.lor, 1) := dc_lor (dby_of dby_33 (j := 21) rfl)
theorem dL_law_2134 : decode cL_law 2134 = .ok (.aload_n 0, 1) := dc_aload_n_0 (dby_of dby_33 (j := 22) rfl)
theorem dL_law_2135 : decode cL_law 2135 = .ok (.iload 4, 2) := dc_iload (dby_of dby_33 (j := 23) rfl) (dby_of dby_33 (j := 24) rfl) rfl
theorem dL_law_2137 : decode cL_law 2137 = .ok (.iconst 3, 1) := dc_iconst_3 (dby_of dby_33 (j := 25) rfl)
theorem dL_law_2138 : decode cL_law 2138 = .ok (.iadd, 1) := dc_iadd (dby_of dby_33 (j := 26) rfl)
theorem dL_law_2139 : decode cL_law 2139 = .ok (.iaload, 1) := dc_iaload (dby_of dby_33 (j := 27) rfl)
theorem dL_law_2140 : decode cL_law 2140 = .ok (.ifCond .eq 7, 3) := dc_ifCond_eq (dby_of dby_33 (j := 28) rfl) (dby_of dby_33 (j := 29) rfl) (dby_of dby_33 (j := 30) rfl) (by decide)
theorem dL_law_2143 : decode cL_law 2143 = .ok (.iconst 1, 1) := dc_iconst_1 (dby_of dby_33 (j := 31) rfl)
theorem dL_law_2144 : decode cL_law 2144 = .ok (.goto 4, 3) := dc_goto (dby_of dby_33 (j := 32) rfl) (dby_of dby_33 (j := 33) rfl) (dby_of dby_33 (j := 34) rfl) (by decide)
theorem dL_law_2147 : decode cL_law 2147 = .ok (.iconst 0, 1) := dc_iconst_0 (dby_of dby_33 (j := 35) rfl)
theorem dL_law_2148 : decode cL_law 2148 = .ok (.aload_n 0, 1) := dc_aload_n_0 (dby_of dby_33 (j := 36) rfl)
theorem dL_law_2149 : decode cL_law 2149 = .ok (.iload 4, 2) := dc_iload (dby_of dby_33 (j := 37) rfl) (dby_of dby_33 (j := 38) rfl) rfl
theorem dL_law_2151 : decode cL_law 2151 = .ok (.iconst 4, 1) := dc_iconst_4 (dby_of dby_33 (j := 39) rfl)
theorem dL_law_2152 : decode cL_law 2152 = .ok (.iadd, 1) := dc_iadd (dby_of dby_33 (j := 40) rfl)
theorem dL_law_2153 : decode cL_law 2153 = .ok (.iaload, 1) := dc_iaload (dby_of dby_33 (j := 41) rfl)
theorem dL_law_2154 : decode cL_law 2154 = .ok (.aload_n 3, 1) := dc_aload_n_3 (dby_of dby_33 (j := 42) rfl)
theorem dL_law_2155 : decode cL_law 2155 = .ok (.invokestatic 267, 3) := dc_invokestatic (dby_of dby_33 (j := 43) rfl) (dby_of dby_33 (j := 44) rfl) (dby_of dby_33 (j := 45) rfl) rfl
theorem dL_law_2158 : decode cL_law 2158 = .ok (.istore 5, 2) := dc_istore (dby_of dby_33 (j := 46) rfl) (dby_of dby_33 (j := 47) rfl) rfl
theorem dL_law_2160 : decode cL_law 2160 = .ok (.aload_n 2, 1) := dc_aload_n_2 (dby_of dby_33 (j := 48) rfl)
theorem dL_law_2161 : decode cL_law 2161 = .ok (.aload_n 0, 1) := dc_aload_n_0 (dby_of dby_33 (j := 49) rfl)
theorem dL_law_2162 : decode cL_law 2162 = .ok (.iload 4, 2) := dc_iload (dby_of dby_33 (j := 50) rfl) (dby_of dby_33 (j := 51) rfl) rfl
theorem dL_law_2164 : decode cL_law 2164 = .ok (.iconst 1, 1) := dc_iconst_1 (dby_of dby_33 (j := 52) rfl)
theorem dL_law_2165 : decode cL_law 2165 = .ok (.iadd, 1) := dc_iadd (dby_of dby_33 (j := 53) rfl)
theorem dL_law_2166 : decode cL_law 2166 = .ok (.iaload, 1) := dc_iaload (dby_of dby_33 (j := 54) rfl)
theorem dL_law_2167 : decode cL_law 2167 = .ok (.i2l, 1) := dc_i2l (dby_of dby_33 (j := 55) rfl)
theorem dL_law_2168 : decode cL_law 2168 = .ok (.bipush 32, 2) := dc_bipush (dby_of dby_33 (j := 56) rfl) (dby_of dby_33 (j := 57) rfl) (by decide)
theorem dL_law_2170 : decode cL_law 2170 = .ok (.lshl, 1) := dc_lshl (dby_of dby_33 (j := 58) rfl)
theorem dL_law_2171 : decode cL_law 2171 = .ok (.aload_n 0, 1) := dc_aload_n_0 (dby_of dby_33 (j := 59) rfl)
theorem dL_law_2172 : decode cL_law 2172 = .ok (.iload 4, 2) := dc_iload (dby_of dby_33 (j := 60) rfl) (dby_of dby_33 (j := 61) rfl) rfl
theorem dL_law_2174 : decode cL_law 2174 = .ok (.iconst 2, 1) := dc_iconst_2 (dby_of dby_33 (j := 62) rfl)
theorem dL_law_2175 : decode cL_law 2175 = .ok (.iadd, 1) := dc_iadd (dby_of dby_33 (j := 63) rfl)
theorem dL_law_2176 : decode cL_law 2176 = .ok (.iaload, 1) := dc_iaload (dby_of dby_34 (j := 0) rfl)
theorem dL_law_2177 : decode cL_law 2177 = .ok (.i2l, 1) := dc_i2l (dby_of dby_34 (j := 1) rfl)
theorem dL_law_2178 : decode cL_law 2178 = .ok (.ldc2_w 261, 3) := dc_ldc2_w (dby_of dby_34 (j := 2) rfl) (dby_of dby_34 (j := 3) rfl) (dby_of dby_34 (j := 4) rfl) rfl
theorem dL_law_2181 : decode cL_law 2181 = .ok (.land, 1) := dc_land (dby_of dby_34 (j := 5) rfl)
theorem dL_law_2182 : decode cL_law 2182 = .ok (.lor, 1) := dc_lor (dby_of dby_34 (j := 6) rfl)
theorem dL_law_2183 : decode cL_law 2183 = .ok (.aload_n 0, 1) := dc_aload_n_0 (dby_of dby_34 (j := 7) rfl)
theorem dL_law_2184 : decode cL_law 2184 = .ok (.iload 4, 2) := dc_iload (dby_of dby_34 (j := 8) rfl) (dby_of dby_34 (j := 9) rfl) rfl
theorem dL_law_2186 : decode cL_law 2186 = .ok (.iconst 3, 1) := dc_iconst_3 (dby_of dby_34 (j := 10) rfl)
theorem dL_law_2187 : decode cL_law 2187 = .ok (.iadd, 1) := dc_iadd (dby_of dby_34 (j := 11) rfl)
theorem dL_law_2188 : decode cL_law 2188 = .ok (.iaload, 1) := dc_iaload (dby_of dby_34 (j := 12) rfl)
theorem dL_law_2189 : decode cL_law 2189 = .ok (.ifCond .eq 7, 3) := dc_ifCond_eq (dby_of dby_34 (j := 13) rfl) (dby_of dby_34 (j := 14) rfl) (dby_of dby_34 (j := 15) rfl) (by decide)
theorem dL_law_2192 : decode cL_law 2192 = .ok (.iconst 1, 1) := dc_iconst_1 (dby_of dby_34 (j := 16) rfl)
theorem dL_law_2193 : decode cL_law 2193 = .ok (.goto 4, 3) := dc_goto (dby_of dby_34 (j := 17) rfl) (dby_of dby_34 (j := 18) rfl) (dby_of dby_34 (j := 19) rfl) (by decide)
theorem dL_law_2196 : decode cL_law 2196 = .ok (.iconst 0, 1) := dc_iconst_0 (dby_of dby_34 (j := 20) rfl)
theorem dL_law_2197 : decode cL_law 2197 = .ok (.aload_n 0, 1) := dc_aload_n_0 (dby_of dby_34 (j := 21) rfl)
theorem dL_law_2198 : decode cL_law 2198 = .ok (.iload 4, 2) := dc_iload (dby_of dby_34 (j := 22) rfl) (dby_of dby_34 (j := 23) rfl) rfl
theorem dL_law_2200 : decode cL_law 2200 = .ok (.iconst 4, 1) := dc_iconst_4 (dby_of dby_34 (j := 24) rfl)
theorem dL_law_2201 : decode cL_law 2201 = .ok (.iadd, 1) := dc_iadd (dby_of dby_34 (j := 25) rfl)
theorem dL_law_2202 : decode cL_law 2202 = .ok (.iaload, 1) := dc_iaload (dby_of dby_34 (j := 26) rfl)
theorem dL_law_2203 : decode cL_law 2203 = .ok (.invokevirtual 270, 3) := dc_invokevirtual (dby_of dby_34 (j := 27) rfl) (dby_of dby_34 (j := 28) rfl) (dby_of dby_34 (j := 29) rfl) rfl
theorem dL_law_2206 : decode cL_law 2206 = .ok (.istore 6, 2) := dc_istore (dby_of dby_34 (j := 30) rfl) (dby_of dby_34 (j := 31) rfl) rfl
theorem dL_law_2208 : decode cL_law 2208 = .ok (.aload_n 2, 1) := dc_aload_n_2 (dby_of dby_34 (j := 32) rfl)
theorem dL_law_2209 : decode cL_law 2209 = .ok (.invokevirtual 183, 3) := dc_invokevirtual (dby_of dby_34 (j := 33) rfl) (dby_of dby_34 (j := 34) rfl) (dby_of dby_34 (j := 35) rfl) rfl
theorem dL_law_2212 : decode cL_law 2212 = .ok (.iload 5, 2) := dc_iload (dby_of dby_34 (j := 36) rfl) (dby_of dby_34 (j := 37) rfl) rfl
theorem dL_law_2214 : decode cL_law 2214 = .ok (.if_icmp .eq 5, 3) := dc_if_icmp_eq (dby_of dby_34 (j := 38) rfl) (dby_of dby_34 (j := 39) rfl) (dby_of dby_34 (j := 40) rfl) (by decide)
theorem dL_law_2217 : decode cL_law 2217 = .ok (.iconst 0, 1) := dc_iconst_0 (dby_of dby_34 (j := 41) rfl)
theorem dL_law_2218 : decode cL_law 2218 = .ok (.ireturn, 1) := dc_ireturn (dby_of dby_34 (j := 42) rfl)
theorem dL_law_2219 : decode cL_law 2219 = .ok (.iload 5, 2) := dc_iload (dby_of dby_34 (j := 43) rfl) (dby_of dby_34 (j := 44) rfl) rfl
theorem dL_law_2221 : decode cL_law 2221 = .ok (.ifCond .ne 15, 3) := dc_ifCond_ne (dby_of dby_34 (j := 45) rfl) (dby_of dby_34 (j := 46) rfl) (dby_of dby_34 (j := 47) rfl) (by decide)
theorem dL_law_2224 : decode cL_law 2224 = .ok (.aload_n 3, 1) := dc_aload_n_3 (dby_of dby_34 (j := 48) rfl)
theorem dL_law_2225 : decode cL_law 2225 = .ok (.iconst 0, 1) := dc_iconst_0 (dby_of dby_34 (j := 49) rfl)
theorem dL_law_2226 : decode cL_law 2226 = .ok (.laload, 1) := dc_laload (dby_of dby_34 (j := 50) rfl)
theorem dL_law_2227 : decode cL_law 2227 = .ok (.iload 6, 2) := dc_iload (dby_of dby_34 (j := 51) rfl) (dby_of dby_34 (j := 52) rfl) rfl
theorem dL_law_2229 : decode cL_law 2229 = .ok (.i2l, 1) := dc_i2l (dby_of dby_34 (j := 53) rfl)
theorem dL_law_2230 : decode cL_law 2230 = .ok (.lcmp, 1) := dc_lcmp (dby_of dby_34 (j := 54) rfl)
theorem dL_law_2231 : decode cL_law 2231 = .ok (.ifCond .eq 5, 3) := dc_ifCond_eq (dby_of dby_34 (j := 55) rfl) (dby_of dby_34 (j := 56) rfl) (dby_of dby_34 (j := 57) rfl) (by decide)
theorem dL_law_2234 : decode cL_law 2234 = .ok (.iconst 0, 1) := dc_iconst_0 (dby_of dby_34 (j := 58) rfl)
theorem dL_law_2235 : decode cL_law 2235 = .ok (.ireturn, 1) := dc_ireturn (dby_of dby_34 (j := 59) rfl)
theorem dL_law_2236 : decode cL_law 2236 = .ok (.goto 2315, 3) := dc_goto (dby_of dby_34 (j := 60) rfl) (dby_of dby_34 (j := 61) rfl) (dby_of dby_34 (j := 62) rfl) (by decide)
theorem dL_law_2239 : decode cL_law 2239 = .ok (.aload_n 1, 1) := dc_aload_n_1 (dby_of dby_34 (j := 63) rfl)
theorem dL_law_2240 : decode cL_law 2240 = .ok (.aload_n 0, 1) := dc_aload_n_0 (dby_of dby_35 (j := 0) rfl)
theorem dL_law_2241 : decode cL_law 2241 = .ok (.iload 4, 2) := dc_iload (dby_of dby_35 (j := 1) rfl) (dby_of dby_35 (j := 2) rfl) rfl
theorem dL_law_2243 : decode cL_law 2243 = .ok (.iconst 1, 1) := dc_iconst_1 (dby_of dby_35 (j := 3) rfl)
theorem dL_law_2244 : decode cL_law 2244 = .ok (.iadd, 1) := dc_iadd (dby_of dby_35 (j := 4) rfl)
theorem dL_law_2245 : decode cL_law 2245 = .ok (.iaload, 1) := dc_iaload (dby_of dby_35 (j := 5) rfl)
theorem dL_law_2246 : decode cL_law 2246 = .ok (.i2l, 1) := dc_i2l (dby_of dby_35 (j := 6) rfl)
theorem dL_law_2247 : decode cL_law 2247 = .ok (.bipush 32, 2) := dc_bipush (dby_of dby_35 (j := 7) rfl) (dby_of dby_35 (j := 8) rfl) (by decide)
theorem dL_law_2249 : decode cL_law 2249 = .ok (.lshl, 1) := dc_lshl (dby_of dby_35 (j := 9) rfl)
theorem dL_law_2250 : decode cL_law 2250 = .ok (.aload_n 0, 1) := dc_aload_n_0 (dby_of dby_35 (j := 10) rfl)
theorem dL_law_2251 : decode cL_law 2251 = .ok (.iload 4, 2) := dc_iload (dby_of dby_35 (j := 11) rfl) (dby_of dby_35 (j := 12) rfl) rfl
theorem dL_law_2253 : decode cL_law 2253 = .ok (.iconst 2, 1) := dc_iconst_2 (dby_of dby_35 (j := 13) rfl)
theorem dL_law_2254 : decode cL_law 2254 = .ok (.iadd, 1) := dc_iadd (dby_of dby_35 (j := 14) rfl)
theorem dL_law_2255 : decode cL_law 2255 = .ok (.iaload, 1) := dc_iaload (dby_of dby_35 (j := 15) rfl)
theorem dL_law_2256 : decode cL_law 2256 = .ok (.i2l, 1) := dc_i2l (dby_of dby_35 (j := 16) rfl)
theorem dL_law_2257 : decode cL_law 2257 = .ok (.ldc2_w 261, 3) := dc_ldc2_w (dby_of dby_35 (j := 17) rfl) (dby_of dby_35 (j := 18) rfl) (dby_of dby_35 (j := 19) rfl) rfl
theorem dL_law_2260 : decode cL_law 2260 = .ok (.land, 1) := dc_land (dby_of dby_35 (j := 20) rfl)
theorem dL_law_2261 : decode cL_law 2261 = .ok (.lor, 1) := dc_lor (dby_of dby_35 (j := 21) rfl)
theorem dL_law_2262 : decode cL_law 2262 = .ok (.aload_n 0, 1) := dc_aload_n_0 (dby_of dby_35 (j := 22) rfl)
theorem dL_law_2263 : decode cL_law 2263 = .ok (.iload 4, 2) := dc_iload (dby_of dby_35 (j := 23) rfl) (dby_of dby_35 (j := 24) rfl) rfl
theorem dL_law_2265 : decode cL_law 2265 = .ok (.iconst 3, 1) := dc_iconst_3 (dby_of dby_35 (j := 25) rfl)
theorem dL_law_2266 : decode cL_law 2266 = .ok (.iadd, 1) := dc_iadd (dby_of dby_35 (j := 26) rfl)
theorem dL_law_2267 : decode cL_law 2267 = .ok (.iaload, 1) := dc_iaload (dby_of dby_35 (j := 27) rfl)
theorem dL_law_2268 : decode cL_law 2268 = .ok (.ifCond .eq 7, 3) := dc_ifCond_eq (dby_of dby_35 (j := 28) rfl) (dby_of dby_35 (j := 29) rfl) (dby_of dby_35 (j := 30) rfl) (by decide)
theorem dL_law_2271 : decode cL_law 2271 = .ok (.iconst 1, 1) := dc_iconst_1 (dby_of dby_35 (j := 31) rfl)
theorem dL_law_2272 : decode cL_law 2272 = .ok (.goto 4, 3) := dc_goto (dby_of dby_35 (j := 32) rfl) (dby_of dby_35 (j := 33) rfl) (dby_of dby_35 (j := 34) rfl) (by decide)
theorem dL_law_2275 : decode cL_law 2275 = .ok (.iconst 0, 1) := dc_iconst_0 (dby_of dby_35 (j := 35) rfl)
theorem dL_law_2276 : decode cL_law 2276 = .ok (.aload_n 0, 1) := dc_aload_n_0 (dby_of dby_35 (j := 36) rfl)
theorem dL_law_2277 : decode cL_law 2277 = .ok (.iload 4, 2) := dc_iload (dby_of dby_35 (j := 37) rfl) (dby_of dby_35 (j := 38) rfl) rfl
theorem dL_law_2279 : decode cL_law 2279 = .ok (.iconst 4, 1) := dc_iconst_4 (dby_of dby_35 (j := 39) rfl)
theorem dL_law_2280 : decode cL_law 2280 = .ok (.iadd, 1) := dc_iadd (dby_of dby_35 (j := 40) rfl)
theorem dL_law_2281 : decode cL_law 2281 = .ok (.iaload, 1) := dc_iaload (dby_of dby_35 (j := 41) rfl)
theorem dL_law_2282 : decode cL_law 2282 = .ok (.aload_n 3, 1) := dc_aload_n_3 (dby_of dby_35 (j := 42) rfl)
theorem dL_law_2283 : decode cL_law 2283 = .ok (.invokestatic 271, 3) := dc_invokestatic (dby_of dby_35 (j := 43) rfl) (dby_of dby_35 (j := 44) rfl) (dby_of dby_35 (j := 45) rfl) rfl
theorem dL_law_2286 : decode cL_law 2286 = .ok (.istore 5, 2) := dc_istore (dby_of dby_35 (j := 46) rfl) (dby_of dby_35 (j := 47) rfl) rfl
theorem dL_law_2288 : decode cL_law 2288 = .ok (.aload_n 2, 1) := dc_aload_n_2 (dby_of dby_35 (j := 48) rfl)
theorem dL_law_2289 : decode cL_law 2289 = .ok (.aload_n 0, 1) := dc_aload_n_0 (dby_of dby_35 (j := 49) rfl)
theorem dL_law_2290 : decode cL_law 2290 = .ok (.iload 4, 2) := dc_iload (dby_of dby_35 (j := 50) rfl) (dby_of dby_35 (j := 51) rfl) rfl
theorem dL_law_2292 : decode cL_law 2292 = .ok (.iconst 1, 1) := dc_iconst_1 (dby_of dby_35 (j := 52) rfl)
theorem dL_law_2293 : decode cL_law 2293 = .ok (.iadd, 1) := dc_iadd (dby_of dby_35 (j := 53) rfl)
theorem dL_law_2294 : decode cL_law 2294 = .ok (.iaload, 1) := dc_iaload (dby_of dby_35 (j := 54) rfl)
theorem dL_law_2295 : decode cL_law 2295 = .ok (.i2l, 1) := dc_i2l (dby_of dby_35 (j := 55) rfl)
theorem dL_law_2296 : decode cL_law 2296 = .ok (.bipush 32, 2) := dc_bipush (dby_of dby_35 (j := 56) rfl) (dby_of dby_35 (j := 57) rfl) (by decide)
theorem dL_law_2298 : decode cL_law 2298 = .ok (.lshl, 1) := dc_lshl (dby_of dby_35 (j := 58) rfl)
theorem dL_law_2299 : decode cL_law 2299 = .ok (.aload_n 0, 1) := dc_aload_n_0 (dby_of dby_35 (j := 59) rfl)
theorem dL_law_2300 : decode cL_law 2300 = .ok (.iload 4, 2) := dc_iload (dby_of dby_35 (j := 60) rfl) (dby_of dby_35 (j := 61) rfl) rfl
theorem dL_law_2302 : decode cL_law 2302 = .ok (.iconst 2, 1) := dc_iconst_2 (dby_of dby_35 (j := 62) rfl)
theorem dL_law_2303 : decode cL_law 2303 = .ok (.iadd, 1) := dc_iadd (dby_of dby_35 (j := 63) rfl)
theorem dL_law_2304 : decode cL_law 2304 = .ok (.iaload, 1) := dc_iaload (dby_of dby_36 (j := 0) rfl)
theorem dL_law_2305 : decode cL_law 2305 = .ok (.i2l, 1) := dc_i2l (dby_of dby_36 (j := 1) rfl)
theorem dL_law_2306 : decode cL_law 2306 = .ok (.ldc2_w 261, 3) := dc_ldc2_w (dby_of dby_36 (j := 2) rfl) (dby_of dby_36 (j := 3) rfl) (dby_of dby_36 (j := 4) rfl) rfl
theorem dL_law_2309 : decode cL_law 2309 = .ok (.land, 1) := dc_land (dby_of dby_36 (j := 5) rfl)
theorem dL_law_2310 : decode cL_law 2310 = .ok (.lor, 1) := dc_lor (dby_of dby_36 (j := 6) rfl)
theorem dL_law_2311 : decode cL_law 2311 = .ok (.aload_n 0, 1) := dc_aload_n_0 (dby_of dby_36 (j := 7) rfl)
theorem dL_law_2312 : decode cL_law 2312 = .ok (.iload 4, 2) := dc_iload (dby_of dby_36 (j := 8) rfl) (dby_of dby_36 (j := 9) rfl) rfl
theorem dL_law_2314 : decode cL_law 2314 = .ok (.iconst 3, 1) := dc_iconst_3 (dby_of dby_36 (j := 10) rfl)
theorem dL_law_2315 : decode cL_law 2315 = .ok (.iadd, 1) := dc_iadd (dby_of dby_36 (j := 11) rfl)
theorem dL_law_2316 : decode cL_law 2316 = .ok (.iaload, 1) := dc_iaload (dby_of dby_36 (j := 12) rfl)
theorem dL_law_2317 : decode cL_law 2317 = .ok (.ifCond .eq 7, 3) := dc_ifCond_eq (dby_of dby_36 (j := 13) rfl) (dby_of dby_36 (j := 14) rfl) (dby_of dby_36 (j := 15) rfl) (by decide)
theorem dL_law_2320 : decode cL_law 2320 = .ok (.iconst 1, 1) := dc_iconst_1 (dby_of dby_36 (j := 16) rfl)
theorem dL_law_2321 : decode cL_law 2321 = .ok (.goto 4, 3) := dc_goto (dby_of dby_36 (j := 17) rfl) (dby_of dby_36 (j := 18) rfl) (dby_of dby_36 (j := 19) rfl) (by decide)
theorem dL_law_2324 : decode cL_law 2324 = .ok (.iconst 0, 1) := dc_iconst_0 (dby_of dby_36 (j := 20) rfl)
theorem dL_law_2325 : decode cL_law 2325 = .ok (.aload_n 0, 1) := dc_aload_n_0 (dby_of dby_36 (j := 21) rfl)
theorem dL_law_2326 : decode cL_law 2326 = .ok (.iload 4, 2) := dc_iload (dby_of dby_36 (j := 22) rfl) (dby_of dby_36 (j := 23) rfl) rfl
theorem dL_law_2328 : decode cL_law 2328 = .ok (.iconst 4, 1) := dc_iconst_4 (dby_of dby_36 (j := 24) rfl)
theorem dL_law_2329 : decode cL_law 2329 = .ok (.iadd, 1) := dc_iadd (dby_of dby_36 (j := 25) rfl)
theorem dL_law_2330 : decode cL_law 2330 = .ok (.iaload, 1) := dc_iaload (dby_of dby_36 (j := 26) rfl)
theorem dL_law_2331 : decode cL_law 2331 = .ok (.invokevirtual 273, 3) := dc_invokevirtual (dby_of dby_36 (j := 27) rfl) (dby_of dby_36 (j := 28) rfl) (dby_of dby_36 (j := 29) rfl) rfl
theorem dL_law_2334 : decode cL_law 2334 = .ok (.istore 6, 2) := dc_istore (dby_of dby_36 (j := 30) rfl) (dby_of dby_36 (j := 31) rfl) rfl
theorem dL_law_2336 : decode cL_law 2336 = .ok (.aload_n 2, 1) := dc_aload_n_2 (dby_of dby_36 (j := 32) rfl)
theorem dL_law_2337 : decode cL_law 2337 = .ok (.invokevirtual 183, 3) := dc_invokevirtual (dby_of dby_36 (j := 33) rfl) (dby_of dby_36 (j := 34) rfl) (dby_of dby_36 (j := 35) rfl) rfl
theorem dL_law_2340 : decode cL_law 2340 = .ok (.iload 5, 2) := dc_iload (dby_of dby_36 (j := 36) rfl) (dby_of dby_36 (j := 37) rfl) rfl
theorem dL_law_2342 : decode cL_law 2342 = .ok (.if_icmp .eq 5, 3) := dc_if_icmp_eq (dby_of dby_36 (j := 38) rfl) (dby_of dby_36 (j := 39) rfl) (dby_of dby_36 (j := 40) rfl) (by decide)
theorem dL_law_2345 : decode cL_law 2345 = .ok (.iconst 0, 1) := dc_iconst_0 (dby_of dby_36 (j := 41) rfl)
theorem dL_law_2346 : decode cL_law 2346 = .ok (.ireturn, 1) := dc_ireturn (dby_of dby_36 (j := 42) rfl)
theorem dL_law_2347 : decode cL_law 2347 = .ok (.iload 5, 2) := dc_iload (dby_of dby_36 (j := 43) rfl) (dby_of dby_36 (j := 44) rfl) rfl
theorem dL_law_2349 : decode cL_law 2349 = .ok (.ifCond .ne 15, 3) := dc_ifCond_ne (dby_of dby_36 (j := 45) rfl) (dby_of dby_36 (j := 46) rfl) (dby_of dby_36 (j := 47) rfl) (by decide)
theorem dL_law_2352 : decode cL_law 2352 = .ok (.aload_n 3, 1) := dc_aload_n_3 (dby_of dby_36 (j := 48) rfl)
theorem dL_law_2353 : decode cL_law 2353 = .ok (.iconst 0, 1) := dc_iconst_0 (dby_of dby_36 (j := 49) rfl)
theorem dL_law_2354 : decode cL_law 2354 = .ok (.laload, 1) := dc_laload (dby_of dby_36 (j := 50) rfl)
theorem dL_law_2355 : decode cL_law 2355 = .ok (.iload 6, 2) := dc_iload (dby_of dby_36 (j := 51) rfl) (dby_of dby_36 (j := 52) rfl) rfl
theorem dL_law_2357 : decode cL_law 2357 = .ok (.i2l, 1) := dc_i2l (dby_of dby_36 (j := 53) rfl)
theorem dL_law_2358 : decode cL_law 2358 = .ok (.lcmp, 1) := dc_lcmp (dby_of dby_36 (j := 54) rfl)
theorem dL_law_2359 : decode cL_law 2359 = .ok (.ifCond .eq 5, 3) := dc_ifCond_eq (dby_of dby_36 (j := 55) rfl) (dby_of dby_36 (j := 56) rfl) (dby_of dby_36 (j := 57) rfl) (by decide)
theorem dL_law_2362 : decode cL_law 2362 = .ok (.iconst 0, 1) := dc_iconst_0 (dby_of dby_36 (j := 58) rfl)
theorem dL_law_2363 : decode cL_law 2363 = .ok (.ireturn, 1) := dc_ireturn (dby_of dby_36 (j := 59) rfl)
theorem dL_law_2364 : decode cL_law 2364 = .ok (.goto 2187, 3) := dc_goto (dby_of dby_36 (j := 60) rfl) (dby_of dby_36 (j := 61) rfl) (dby_of dby_36 (j := 62) rfl) (by decide)
theorem dL_law_2367 : decode cL_law 2367 = .ok (.aload_n 1, 1) := dc_aload_n_1 (dby_of dby_36 (j := 63) rfl)
theorem dL_law_2368 : decode cL_law 2368 = .ok (.aload_n 0, 1) := dc_aload_n_0 (dby_of dby_37 (j := 0) rfl)
theorem dL_law_2369 : decode cL_law 2369 = .ok (.iload 4, 2) := dc_iload (dby_of dby_37 (j := 1) rfl) (dby_of dby_37 (j := 2) rfl) rfl
theorem dL_law_2371 : decode cL_law 2371 = .ok (.iconst 1, 1) := dc_iconst_1 (dby_of dby_37 (j := 3) rfl)
theorem dL_law_2372 : decode cL_law 2372 = .ok (.iadd, 1) := dc_iadd (dby_of dby_37 (j := 4) rfl)
theorem dL_law_2373 : decode cL_law 2373 = .ok (.iaload, 1) := dc_iaload (dby_of dby_37 (j := 5) rfl)
theorem dL_law_2374 : decode cL_law 2374 = .ok (.i2l, 1) := dc_i2l (dby_of dby_37 (j := 6) rfl)
theorem dL_law_2375 : decode cL_law 2375 = .ok (.bipush 32, 2) := dc_bipush (dby_of dby_37 (j := 7) rfl) (dby_of dby_37 (j := 8) rfl) (by decide)
theorem dL_law_2377 : decode cL_law 2377 = .ok (.lshl, 1) := dc_lshl (dby_of dby_37 (j := 9) rfl)
theorem dL_law_2378 : decode cL_law 2378 = .ok (.aload_n 0, 1) := dc_aload_n_0 (dby_of dby_37 (j := 10) rfl)
theorem dL_law_2379 : decode cL_law 2379 = .ok (.iload 4, 2) := dc_iload (dby_of dby_37 (j := 11) rfl) (dby_of dby_37 (j := 12) rfl) rfl
theorem dL_law_2381 : decode cL_law 2381 = .ok (.iconst 2, 1) := dc_iconst_2 (dby_of dby_37 (j := 13) rfl)
theorem dL_law_2382 : decode cL_law 2382 = .ok (.iadd, 1) := dc_iadd (dby_of dby_37 (j := 14) rfl)
theorem dL_law_2383 : decode cL_law 2383 = .ok (.iaload, 1) := dc_iaload (dby_of dby_37 (j := 15) rfl)
theorem dL_law_2384 : decode cL_law 2384 = .ok (.i2l, 1) := dc_i2l (dby_of dby_37 (j := 16) rfl)
theorem dL_law_2385 : decode cL_law 2385 = .ok (.ldc2_w 261, 3) := dc_ldc2_w (dby_of dby_37 (j := 17) rfl) (dby_of dby_37 (j := 18) rfl) (dby_of dby_37 (j := 19) rfl) rfl
theorem dL_law_2388 : decode cL_law 2388 = .ok (.land, 1) := dc_land (dby_of dby_37 (j := 20) rfl)
theorem dL_law_2389 : decode cL_law 2389 = .ok (.lor, 1) := dc_lor (dby_of dby_37 (j := 21) rfl)
theorem dL_law_2390 : decode cL_law 2390 = .ok (.aload_n 0, 1) := dc_aload_n_0 (dby_of dby_37 (j := 22) rfl)
theorem dL_law_2391 : decode cL_law 2391 = .ok (.iload 4, 2) := dc_iload (dby_of dby_37 (j := 23) rfl) (dby_of dby_37 (j := 24) rfl) rfl
theorem dL_law_2393 : decode cL_law 2393 = .ok (.iconst 3, 1) := dc_iconst_3 (dby_of dby_37 (j := 25) rfl)
theorem dL_law_2394 : decode cL_law 2394 = .ok (.iadd, 1) := dc_iadd (dby_of dby_37 (j := 26) rfl)
theorem dL_law_2395 : decode cL_law 2395 = .ok (.iaload, 1) := dc_iaload (dby_of dby_37 (j := 27) rfl)
theorem dL_law_2396 : decode cL_law 2396 = .ok (.ifCond .eq 7, 3) := dc_ifCond_eq (dby_of dby_37 (j := 28) rfl) (dby_of dby_37 (j := 29) rfl) (dby_of dby_37 (j := 30) rfl) (by decide)
theorem dL_law_2399 : decode cL_law 2399 = .ok (.iconst 1, 1) := dc_iconst_1 (dby_of dby_37 (j := 31) rfl)
theorem dL_law_2400 : decode cL_law 2400 = .ok (.goto 4, 3) := dc_goto (dby_of dby_37 (j := 32) rfl) (dby_of dby_37 (j := 33) rfl) (dby_of dby_37 (j := 34) rfl) (by decide)
theorem dL_law_2403 : decode cL_law 2403 = .ok (.iconst 0, 1) := dc_iconst_0 (dby_of dby_37 (j := 35) rfl)
theorem dL_law_2404 : decode cL_law 2404 = .ok (.aload_n 0, 1) := dc_aload_n_0 (dby_of dby_37 (j := 36) rfl)
theorem dL_law_2405 : decode cL_law 2405 = .ok (.iload 4, 2) := dc_iload (dby_of dby_37 (j := 37) rfl) (dby_of dby_37 (j := 38) rfl) rfl
theorem dL_law_2407 : decode cL_law 2407 = .ok (.iconst 4, 1) := dc_iconst_4 (dby_of dby_37 (j := 39) rfl)
theorem dL_law_2408 : decode cL_law 2408 = .ok (.iadd, 1) := dc_iadd (dby_of dby_37 (j := 40) rfl)
theorem dL_law_2409 : decode cL_law 2409 = .ok (.iaload, 1) := dc_iaload (dby_of dby_37 (j := 41) rfl)
theorem dL_law_2410 : decode cL_law 2410 = .ok (.aload_n 0, 1) := dc_aload_n_0 (dby_of dby_37 (j := 42) rfl)
theorem dL_law_2411 : decode cL_law 2411 = .ok (.iload 4, 2) := dc_iload (dby_of dby_37 (j := 43) rfl) (dby_of dby_37 (j := 44) rfl) rfl
theorem dL_law_2413 : decode cL_law 2413 = .ok (.iconst 5, 1) := dc_iconst_5 (dby_of dby_37 (j := 45) rfl)
theorem dL_law_2414 : decode cL_law 2414 = .ok (.iadd, 1) := dc_iadd (dby_of dby_37 (j := 46) rfl)
theorem dL_law_2415 : decode cL_law 2415 = .ok (.iaload, 1) := dc_iaload (dby_of dby_37 (j := 47) rfl)
theorem dL_law_2416 : decode cL_law 2416 = .ok (.aload_n 0, 1) := dc_aload_n_0 (dby_of dby_37 (j := 48) rfl)
theorem dL_law_2417 : decode cL_law 2417 = .ok (.iload 4, 2) := dc_iload (dby_of dby_37 (j := 49) rfl) (dby_of dby_37 (j := 50) rfl) rfl
theorem dL_law_2419 : decode cL_law 2419 = .ok (.bipush 6, 2) := dc_bipush (dby_of dby_37 (j := 51) rfl) (dby_of dby_37 (j := 52) rfl) (by decide)
theorem dL_law_2421 : decode cL_law 2421 = .ok (.iadd, 1) := dc_iadd (dby_of dby_37 (j := 53) rfl)
theorem dL_law_2422 : decode cL_law 2422 = .ok (.iaload, 1) := dc_iaload (dby_of dby_37 (j := 54) rfl)
theorem dL_law_2423 : decode cL_law 2423 = .ok (.aload_n 3, 1) := dc_aload_n_3 (dby_of dby_37 (j := 55) rfl)
theorem dL_law_2424 : decode cL_law 2424 = .ok (.invokestatic 274, 3) := dc_invokestatic (dby_of dby_37 (j := 56) rfl) (dby_of dby_37 (j := 57) rfl) (dby_of dby_37 (j := 58) rfl) rfl
theorem dL_law_2427 : decode cL_law 2427 = .ok (.istore 5, 2) := dc_istore (dby_of dby_37 (j := 59) rfl) (dby_of dby_37 (j := 60) rfl) rfl
theorem dL_law_2429 : decode cL_law 2429 = .ok (.aload_n 2, 1) := dc_aload_n_2 (dby_of dby_37 (j := 61) rfl)
theorem dL_law_2430 : decode cL_law 2430 = .ok (.aload_n 0, 1) := dc_aload_n_0 (dby_of dby_37 (j := 62) rfl)
theorem dL_law_2431 : decode cL_law 2431 = .ok (.iload 4, 2) := dc_iload (dby_of dby_37 (j := 63) rfl) (dby_of dby_38 (j := 0) rfl) rfl
theorem dL_law_2433 : decode cL_law 2433 = .ok (.iconst 1, 1) := dc_iconst_1 (dby_of dby_38 (j := 1) rfl)
theorem dL_law_2434 : decode cL_law 2434 = .ok (.iadd, 1) := dc_iadd (dby_of dby_38 (j := 2) rfl)
theorem dL_law_2435 : decode cL_law 2435 = .ok (.iaload, 1) := dc_iaload (dby_of dby_38 (j := 3) rfl)
theorem dL_law_2436 : decode cL_law 2436 = .ok (.i2l, 1) := dc_i2l (dby_of dby_38 (j := 4) rfl)
theorem dL_law_2437 : decode cL_law 2437 = .ok (.bipush 32, 2) := dc_bipush (dby_of dby_38 (j := 5) rfl) (dby_of dby_38 (j := 6) rfl) (by decide)
theorem dL_law_2439 : decode cL_law 2439 = .ok (.lshl, 1) := dc_lshl (dby_of dby_38 (j := 7) rfl)
theorem dL_law_2440 : decode cL_law 2440 = .ok (.aload_n 0, 1) := dc_aload_n_0 (dby_of dby_38 (j := 8) rfl)
theorem dL_law_2441 : decode cL_law 2441 = .ok (.iload 4, 2) := dc_iload (dby_of dby_38 (j := 9) rfl) (dby_of dby_38 (j := 10) rfl) rfl
theorem dL_law_2443 : decode cL_law 2443 = .ok (.iconst 2, 1) := dc_iconst_2 (dby_of dby_38 (j := 11) rfl)
theorem dL_law_2444 : decode cL_law 2444 = .ok (.iadd, 1) := dc_iadd (dby_of dby_38 (j := 12) rfl)
theorem dL_law_2445 : decode cL_law 2445 = .ok (.iaload, 1) := dc_iaload (dby_of dby_38 (j := 13) rfl)
theorem dL_law_2446 : decode cL_law 2446 = .ok (.i2l, 1) := dc_i2l (dby_of dby_38 (j := 14) rfl)
theorem dL_law_2447 : decode cL_law 2447 = .ok (.ldc2_w 261, 3) := dc_ldc2_w (dby_of dby_38 (j := 15) rfl) (dby_of dby_38 (j := 16) rfl) (dby_of dby_38 (j := 17) rfl) rfl
theorem dL_law_2450 : decode cL_law 2450 = .ok (.land, 1) := dc_land (dby_of dby_38 (j := 18) rfl)
theorem dL_law_2451 : decode cL_law 2451 = .ok (.lor, 1) := dc_lor (dby_of dby_38 (j := 19) rfl)
theorem dL_law_2452 : decode cL_law 2452 = .ok (.aload_n 0, 1) := dc_aload_n_0 (dby_of dby_38 (j := 20) rfl)
theorem dL_law_2453 : decode cL_law 2453 = .ok (.iload 4, 2) := dc_iload (dby_of dby_38 (j := 21) rfl) (dby_of dby_38 (j := 22) rfl) rfl
theorem dL_law_2455 : decode cL_law 2455 = .ok (.iconst 3, 1) := dc_iconst_3 (dby_of dby_38 (j := 23) rfl)
theorem dL_law_2456 : decode cL_law 2456 = .ok (.iadd, 1) := dc_iadd (dby_of dby_38 (j := 24) rfl)
theorem dL_law_2457 : decode cL_law 2457 = .ok (.iaload, 1) := dc_iaload (dby_of dby_38 (j := 25) rfl)
theorem dL_law_2458 : decode cL_law 2458 = .ok (.ifCond .eq 7, 3) := dc_ifCond_eq (dby_of dby_38 (j := 26) rfl) (dby_of dby_38 (j := 27) rfl) (dby_of dby_38 (j := 28) rfl) (by decide)
theorem dL_law_2461 : decode cL_law 2461 = .ok (.iconst 1, 1) := dc_iconst_1 (dby_of dby_38 (j := 29) rfl)
theorem dL_law_2462 : decode cL_law 2462 = .ok (.goto 4, 3) := dc_goto (dby_of dby_38 (j := 30) rfl) (dby_of dby_38 (j := 31) rfl) (dby_of dby_38 (j := 32) rfl) (by decide)
theorem dL_law_2465 : decode cL_law 2465 = .ok (.iconst 0, 1) := dc_iconst_0 (dby_of dby_38 (j := 33) rfl)
theorem dL_law_2466 : decode cL_law 2466 = .ok (.aload_n 0, 1) := dc_aload_n_0 (dby_of dby_38 (j := 34) rfl)
theorem dL_law_2467 : decode cL_law 2467 = .ok (.iload 4, 2) := dc_iload (dby_of dby_38 (j := 35) rfl) (dby_of dby_38 (j := 36) rfl) rfl
theorem dL_law_2469 : decode cL_law 2469 = .ok (.iconst 4, 1) := dc_iconst_4 (dby_of dby_38 (j := 37) rfl)
theorem dL_law_2470 : decode cL_law 2470 = .ok (.iadd, 1) := dc_iadd (dby_of dby_38 (j := 38) rfl)
theorem dL_law_2471 : decode cL_law 2471 = .ok (.iaload, 1) := dc_iaload (dby_of dby_38 (j := 39) rfl)
theorem dL_law_2472 : decode cL_law 2472 = .ok (.aload_n 0, 1) := dc_aload_n_0 (dby_of dby_38 (j := 40) rfl)
theorem dL_law_2473 : decode cL_law 2473 = .ok (.iload 4, 2) := dc_iload (dby_of dby_38 (j := 41) rfl) (dby_of dby_38 (j := 42) rfl) rfl
theorem dL_law_2475 : decode cL_law 2475 = .ok (.iconst 5, 1) := dc_iconst_5 (dby_of dby_38 (j := 43) rfl)
theorem dL_law_2476 : decode cL_law 2476 = .ok (.iadd, 1) := dc_iadd (dby_of dby_38 (j := 44) rfl)
theorem dL_law_2477 : decode cL_law 2477 = .ok (.iaload, 1) := dc_iaload (dby_of dby_38 (j := 45) rfl)
theorem dL_law_2478 : decode cL_law 2478 = .ok (.aload_n 0, 1) := dc_aload_n_0 (dby_of dby_38 (j := 46) rfl)
theorem dL_law_2479 : decode cL_law 2479 = .ok (.iload 4, 2) := dc_iload (dby_of dby_38 (j := 47) rfl) (dby_of dby_38 (j := 48) rfl) rfl
theorem dL_law_2481 : decode cL_law 2481 = .ok (.bipush 6, 2) := dc_bipush (dby_of dby_38 (j := 49) rfl) (dby_of dby_38 (j := 50) rfl) (by decide)
theorem dL_law_2483 : decode cL_law 2483 = .ok (.iadd, 1) := dc_iadd (dby_of dby_38 (j := 51) rfl)
theorem dL_law_2484 : decode cL_law 2484 = .ok (.iaload, 1) := dc_iaload (dby_of dby_38 (j := 52) rfl)
theorem dL_law_2485 : decode cL_law 2485 = .ok (.invokevirtual 277, 3) := dc_invokevirtual (dby_of dby_38 (j := 53) rfl) (dby_of dby_38 (j := 54) rfl) (dby_of dby_38 (j := 55) rfl) rfl
theorem dL_law_2488 : decode cL_law 2488 = .ok (.istore 6, 2) := dc_istore (dby_of dby_38 (j := 56) rfl) (dby_of dby_38 (j := 57) rfl) rfl
theorem dL_law_2490 : decode cL_law 2490 = .ok (.aload_n 2, 1) := dc_aload_n_2 (dby_of dby_38 (j := 58) rfl)
theorem dL_law_2491 : decode cL_law 2491 = .ok (.invokevirtual 183, 3) := dc_invokevirtual (dby_of dby_38 (j := 59) rfl) (dby_of dby_38 (j := 60) rfl) (dby_of dby_38 (j := 61) rfl) rfl
theorem dL_law_2494 : decode cL_law 2494 = .ok (.iload 5, 2) := dc_iload (dby_of dby_38 (j := 62) rfl) (dby_of dby_38 (j := 63) rfl) rfl
theorem dL_law_2496 : decode cL_law 2496 = .ok (.if_icmp .eq 5, 3) := dc_if_icmp_eq (dby_of dby_39 (j := 0) rfl) (dby_of dby_39 (j := 1) rfl) (dby_of dby_39 (j := 2) rfl) (by decide)
theorem dL_law_2499 : decode cL_law 2499 = .ok (.iconst 0, 1) := dc_iconst_0 (dby_of dby_39 (j := 3) rfl)
theorem dL_law_2500 : decode cL_law 2500 = .ok (.ireturn, 1) := dc_ireturn (dby_of dby_39 (j := 4) rfl)
theorem dL_law_2501 : decode cL_law 2501 = .ok (.iload 5, 2) := dc_iload (dby_of dby_39 (j := 5) rfl) (dby_of dby_39 (j := 6) rfl) rfl
theorem dL_law_2503 : decode cL_law 2503 = .ok (.ifCond .ne 15, 3) := dc_ifCond_ne (dby_of dby_39 (j := 7) rfl) (dby_of dby_39 (j := 8) rfl) (dby_of dby_39 (j := 9) rfl) (by decide)
theorem dL_law_2506 : decode cL_law 2506 = .ok (.aload_n 3, 1) := dc_aload_n_3 (dby_of dby_39 (j := 10) rfl)
theorem dL_law_2507 : decode cL_law 2507 = .ok (.iconst 0, 1) := dc_iconst_0 (dby_of dby_39 (j := 11) rfl)
theorem dL_law_2508 : decode cL_law 2508 = .ok (.laload, 1) := dc_laload (dby_of dby_39 (j := 12) rfl)
theorem dL_law_2509 : decode cL_law 2509 = .ok (.iload 6, 2) := dc_iload (dby_of dby_39 (j := 13) rfl) (dby_of dby_39 (j := 14) rfl) rfl
theorem dL_law_2511 : decode cL_law 2511 = .ok (.i2l, 1) := dc_i2l (dby_of dby_39 (j := 15) rfl)
theorem dL_law_2512 : decode cL_law 2512 = .ok (.lcmp, 1) := dc_lcmp (dby_of dby_39 (j := 16) rfl)
theorem dL_law_2513 : decode cL_law 2513 = .ok (.ifCond .eq 5, 3) := dc_ifCond_eq (dby_of dby_39 (j := 17) rfl) (dby_of dby_39 (j := 18) rfl) (dby_of dby_39 (j := 19) rfl) (by decide)
theorem dL_law_2516 : decode cL_law 2516 = .ok (.iconst 0, 1) := dc_iconst_0 (dby_of dby_39 (j := 20) rfl)
theorem dL_law_2517 : decode cL_law 2517 = .ok (.ireturn, 1) := dc_ireturn (dby_of dby_39 (j := 21) rfl)
theorem dL_law_2518 : decode cL_law 2518 = .ok (.goto 2033, 3) := dc_goto (dby_of dby_39 (j := 22) rfl) (dby_of dby_39 (j := 23) rfl) (dby_of dby_39 (j := 24) rfl) (by decide)
theorem dL_law_2521 : decode cL_law 2521 = .ok (.aload_n 1, 1) := dc_aload_n_1 (dby_of dby_39 (j := 25) rfl)
theorem dL_law_2522 : decode cL_law 2522 = .ok (.aload_n 0, 1) := dc_aload_n_0 (dby_of dby_39 (j := 26) rfl)
theorem dL_law_2523 : decode cL_law 2523 = .ok (.iload 4, 2) := dc_iload (dby_of dby_39 (j := 27) rfl) (dby_of dby_39 (j := 28) rfl) rfl
theorem dL_law_2525 : decode cL_law 2525 = .ok (.iconst 1, 1) := dc_iconst_1 (dby_of dby_39 (j := 29) rfl)
theorem dL_law_2526 : decode cL_law 2526 = .ok (.iadd, 1) := dc_iadd (dby_of dby_39 (j := 30) rfl)
theorem dL_law_2527 : decode cL_law 2527 = .ok (.iaload, 1) := dc_iaload (dby_of dby_39 (j := 31) rfl)
theorem dL_law_2528 : decode cL_law 2528 = .ok (.aload_n 0, 1) := dc_aload_n_0 (dby_of dby_39 (j := 32) rfl)
theorem dL_law_2529 : decode cL_law 2529 = .ok (.iload 4, 2) := dc_iload (dby_of dby_39 (j := 33) rfl) (dby_of dby_39 (j := 34) rfl) rfl
theorem dL_law_2531 : decode cL_law 2531 = .ok (.iconst 2, 1) := dc_iconst_2 (dby_of dby_39 (j := 35) rfl)
theorem dL_law_2532 : decode cL_law 2532 = .ok (.iadd, 1) := dc_iadd (dby_of dby_39 (j := 36) rfl)
theorem dL_law_2533 : decode cL_law 2533 = .ok (.iaload, 1) := dc_iaload (dby_of dby_39 (j := 37) rfl)
theorem dL_law_2534 : decode cL_law 2534 = .ok (.ifCond .eq 7, 3) := dc_ifCond_eq (dby_of dby_39 (j := 38) rfl) (dby_of dby_39 (j := 39) rfl) (dby_of dby_39 (j := 40) rfl) (by decide)
theorem dL_law_2537 : decode cL_law 2537 = .ok (.iconst 1, 1) := dc_iconst_1 (dby_of dby_39 (j := 41) rfl)
theorem dL_law_2538 : decode cL_law 2538 = .ok (.goto 4, 3) := dc_goto (dby_of dby_39 (j := 42) rfl) (dby_of dby_39 (j := 43) rfl) (dby_of dby_39 (j := 44) rfl) (by decide)
theorem dL_law_2541 : decode cL_law 2541 = .ok (.iconst 0, 1) := dc_iconst_0 (dby_of dby_39 (j := 45) rfl)
theorem dL_law_2542 : decode cL_law 2542 = .ok (.aload_n 3, 1) := dc_aload_n_3 (dby_of dby_39 (j := 46) rfl)
theorem dL_law_2543 : decode cL_law 2543 = .ok (.invokestatic 278, 3) := dc_invokestatic (dby_of dby_39 (j := 47) rfl) (dby_of dby_39 (j := 48) rfl) (dby_of dby_39 (j := 49) rfl) rfl
theorem dL_law_2546 : decode cL_law 2546 = .ok (.istore 5, 2) := dc_istore (dby_of dby_39 (j := 50) rfl) (dby_of dby_39 (j := 51) rfl) rfl
theorem dL_law_2548 : decode cL_law 2548 = .ok (.aload_n 2, 1) := dc_aload_n_2 (dby_of dby_39 (j := 52) rfl)
theorem dL_law_2549 : decode cL_law 2549 = .ok (.aload_n 0, 1) := dc_aload_n_0 (dby_of dby_39 (j := 53) rfl)
theorem dL_law_2550 : decode cL_law 2550 = .ok (.iload 4, 2) := dc_iload (dby_of dby_39 (j := 54) rfl) (dby_of dby_39 (j := 55) rfl) rfl
theorem dL_law_2552 : decode cL_law 2552 = .ok (.iconst 1, 1) := dc_iconst_1 (dby_of dby_39 (j := 56) rfl)
theorem dL_law_2553 : decode cL_law 2553 = .ok (.iadd, 1) := dc_iadd (dby_of dby_39 (j := 57) rfl)
theorem dL_law_2554 : decode cL_law 2554 = .ok (.iaload, 1) := dc_iaload (dby_of dby_39 (j := 58) rfl)
theorem dL_law_2555 : decode cL_law 2555 = .ok (.aload_n 0, 1) := dc_aload_n_0 (dby_of dby_39 (j := 59) rfl)
theorem dL_law_2556 : decode cL_law 2556 = .ok (.iload 4, 2) := dc_iload (dby_of dby_39 (j := 60) rfl) (dby_of dby_39 (j := 61) rfl) rfl
theorem dL_law_2558 : decode cL_law 2558 = .ok (.iconst 2, 1) := dc_iconst_2 (dby_of dby_39 (j := 62) rfl)
theorem dL_law_2559 : decode cL_law 2559 = .ok (.iadd, 1) := dc_iadd (dby_of dby_39 (j := 63) rfl)
theorem dL_law_2560 : decode cL_law 2560 = .ok (.iaload, 1) := dc_iaload (dby_of dby_40 (j := 0) rfl)
theorem dL_law_2561 : decode cL_law 2561 = .ok (.ifCond .eq 7, 3) := dc_ifCond_eq (dby_of dby_40 (j := 1) rfl) (dby_of dby_40 (j := 2) rfl) (dby_of dby_40 (j := 3) rfl) (by decide)
theorem dL_law_2564 : decode cL_law 2564 = .ok (.iconst 1, 1) := dc_iconst_1 (dby_of dby_40 (j := 4) rfl)
theorem dL_law_2565 : decode cL_law 2565 = .ok (.goto 4, 3) := dc_goto (dby_of dby_40 (j := 5) rfl) (dby_of dby_40 (j := 6) rfl) (dby_of dby_40 (j := 7) rfl) (by decide)
theorem dL_law_2568 : decode cL_law 2568 = .ok (.iconst 0, 1) := dc_iconst_0 (dby_of dby_40 (j := 8) rfl)
theorem dL_law_2569 : decode cL_law 2569 = .ok (.invokevirtual 280, 3) := dc_invokevirtual (dby_of dby_40 (j := 9) rfl) (dby_of dby_40 (j := 10) rfl) (dby_of dby_40 (j := 11) rfl) rfl
theorem dL_law_2572 : decode cL_law 2572 = .ok (.istore 6, 2) := dc_istore (dby_of dby_40 (j := 12) rfl) (dby_of dby_40 (j := 13) rfl) rfl
theorem dL_law_2574 : decode cL_law 2574 = .ok (.aload_n 2, 1) := dc_aload_n_2 (dby_of dby_40 (j := 14) rfl)
theorem dL_law_2575 : decode cL_law 2575 = .ok (.invokevirtual 183, 3) := dc_invokevirtual (dby_of dby_40 (j := 15) rfl) (dby_of dby_40 (j := 16) rfl) (dby_of dby_40 (j := 17) rfl) rfl
theorem dL_law_2578 : decode cL_law 2578 = .ok (.iload 5, 2) := dc_iload (dby_of dby_40 (j := 18) rfl) (dby_of dby_40 (j := 19) rfl) rfl
theorem dL_law_2580 : decode cL_law 2580 = .ok (.if_icmp .eq 5, 3) := dc_if_icmp_eq (dby_of dby_40 (j := 20) rfl) (dby_of dby_40 (j := 21) rfl) (dby_of dby_40 (j := 22) rfl) (by decide)
theorem dL_law_2583 : decode cL_law 2583 = .ok (.iconst 0, 1) := dc_iconst_0 (dby_of dby_40 (j := 23) rfl)
theorem dL_law_2584 : decode cL_law 2584 = .ok (.ireturn, 1) := dc_ireturn (dby_of dby_40 (j := 24) rfl)
theorem dL_law_2585 : decode cL_law 2585 = .ok (.iload 5, 2) := dc_iload (dby_of dby_40 (j := 25) rfl) (dby_of dby_40 (j := 26) rfl) rfl
theorem dL_law_2587 : decode cL_law 2587 = .ok (.ifCond .ne 15, 3) := dc_ifCond_ne (dby_of dby_40 (j := 27) rfl) (dby_of dby_40 (j := 28) rfl) (dby_of dby_40 (j := 29) rfl) (by decide)
theorem dL_law_2590 : decode cL_law 2590 = .ok (.aload_n 3, 1) := dc_aload_n_3 (dby_of dby_40 (j := 30) rfl)
theorem dL_law_2591 : decode cL_law 2591 = .ok (.iconst 0, 1) := dc_iconst_0 (dby_of dby_40 (j := 31) rfl)
theorem dL_law_2592 : decode cL_law 2592 = .ok (.laload, 1) := dc_laload (dby_of dby_40 (j := 32) rfl)
theorem dL_law_2593 : decode cL_law 2593 = .ok (.iload 6, 2) := dc_iload (dby_of dby_40 (j := 33) rfl) (dby_of dby_40 (j := 34) rfl) rfl
theorem dL_law_2595 : decode cL_law 2595 = .ok (.i2l, 1) := dc_i2l (dby_of dby_40 (j := 35) rfl)
theorem dL_law_2596 : decode cL_law 2596 = .ok (.lcmp, 1) := dc_lcmp (dby_of dby_40 (j := 36) rfl)
theorem dL_law_2597 : decode cL_law 2597 = .ok (.ifCond .eq 5, 3) := dc_ifCond_eq (dby_of dby_40 (j := 37) rfl) (dby_of dby_40 (j := 38) rfl) (dby_of dby_40 (j := 39) rfl) (by decide)
theorem dL_law_2600 : decode cL_law 2600 = .ok (.iconst 0, 1) := dc_iconst_0 (dby_of dby_40 (j := 40) rfl)
theorem dL_law_2601 : decode cL_law 2601 = .ok (.ireturn, 1) := dc_ireturn (dby_of dby_40 (j := 41) rfl)
theorem dL_law_2602 : decode cL_law 2602 = .ok (.goto 1949, 3) := dc_goto (dby_of dby_40 (j := 42) rfl) (dby_of dby_40 (j := 43) rfl) (dby_of dby_40 (j := 44) rfl) (by decide)
theorem dL_law_2605 : decode cL_law 2605 = .ok (.aload_n 1, 1) := dc_aload_n_1 (dby_of dby_40 (j := 45) rfl)
theorem dL_law_2606 : decode cL_law 2606 = .ok (.aload_n 0, 1) := dc_aload_n_0 (dby_of dby_40 (j := 46) rfl)
theorem dL_law_2607 : decode cL_law 2607 = .ok (.iload 4, 2) := dc_iload (dby_of dby_40 (j := 47) rfl) (dby_of dby_40 (j := 48) rfl) rfl
theorem dL_law_2609 : decode cL_law 2609 = .ok (.iconst 1, 1) := dc_iconst_1 (dby_of dby_40 (j := 49) rfl)
theorem dL_law_2610 : decode cL_law 2610 = .ok (.iadd, 1) := dc_iadd (dby_of dby_40 (j := 50) rfl)
theorem dL_law_2611 : decode cL_law 2611 = .ok (.iaload, 1) := dc_iaload (dby_of dby_40 (j := 51) rfl)
theorem dL_law_2612 : decode cL_law 2612 = .ok (.ifCond .eq 7, 3) := dc_ifCond_eq (dby_of dby_40 (j := 52) rfl) (dby_of dby_40 (j := 53) rfl) (dby_of dby_40 (j := 54) rfl) (by decide)
theorem dL_law_2615 : decode cL_law 2615 = .ok (.iconst 1, 1) := dc_iconst_1 (dby_of dby_40 (j := 55) rfl)
theorem dL_law_2616 : decode cL_law 2616 = .ok (.goto 4, 3) := dc_goto (dby_of dby_40 (j := 56) rfl) (dby_of dby_40 (j := 57) rfl) (dby_of dby_40 (j := 58) rfl) (by decide)
theorem dL_law_2619 : decode cL_law 2619 = .ok (.iconst 0, 1) := dc_iconst_0 (dby_of dby_40 (j := 59) rfl)
theorem dL_law_2620 : decode cL_law 2620 = .ok (.invokevirtual 281, 3) := dc_invokevirtual (dby_of dby_40 (j := 60) rfl) (dby_of dby_40 (j := 61) rfl) (dby_of dby_40 (j := 62) rfl) rfl
theorem dL_law_2623 : decode cL_law 2623 = .ok (.aload_n 2, 1) := dc_aload_n_2 (dby_of dby_40 (j := 63) rfl)
theorem dL_law_2624 : decode cL_law 2624 = .ok (.aload_n 0, 1) := dc_aload_n_0 (dby_of dby_41 (j := 0) rfl)
theorem dL_law_2625 : decode cL_law 2625 = .ok (.iload 4, 2) := dc_iload (dby_of dby_41 (j := 1) rfl) (dby_of dby_41 (j := 2) rfl) rfl
theorem dL_law_2627 : decode cL_law 2627 = .ok (.iconst 1, 1) := dc_iconst_1 (dby_of dby_41 (j := 3) rfl)
theorem dL_law_2628 : decode cL_law 2628 = .ok (.iadd, 1) := dc_iadd (dby_of dby_41 (j := 4) rfl)
theorem dL_law_2629 : decode cL_law 2629 = .ok (.iaload, 1) := dc_iaload (dby_of dby_41 (j := 5) rfl)
theorem dL_law_2630 : decode cL_law 2630 = .ok (.ifCond .eq 7, 3) := dc_ifCond_eq (dby_of dby_41 (j := 6) rfl) (dby_of dby_41 (j := 7) rfl) (dby_of dby_41 (j := 8) rfl) (by decide)
theorem dL_law_2633 : decode cL_law 2633 = .ok (.iconst 1, 1) := dc_iconst_1 (dby_of dby_41 (j := 9) rfl)
theorem dL_law_2634 : decode cL_law 2634 = .ok (.goto 4, 3) := dc_goto (dby_of dby_41 (j := 10) rfl) (dby_of dby_41 (j := 11) rfl) (dby_of dby_41 (j := 12) rfl) (by decide)
theorem dL_law_2637 : decode cL_law 2637 = .ok (.iconst 0, 1) := dc_iconst_0 (dby_of dby_41 (j := 13) rfl)
theorem dL_law_2638 : decode cL_law 2638 = .ok (.invokevirtual 285, 3) := dc_invokevirtual (dby_of dby_41 (j := 14) rfl) (dby_of dby_41 (j := 15) rfl) (dby_of dby_41 (j := 16) rfl) rfl
theorem dL_law_2641 : decode cL_law 2641 = .ok (.if_icmp .eq 1910, 3) := dc_if_icmp_eq (dby_of dby_41 (j := 17) rfl) (dby_of dby_41 (j := 18) rfl) (dby_of dby_41 (j := 19) rfl) (by decide)
theorem dL_law_2644 : decode cL_law 2644 = .ok (.iconst 0, 1) := dc_iconst_0 (dby_of dby_41 (j := 20) rfl)
theorem dL_law_2645 : decode cL_law 2645 = .ok (.ireturn, 1) := dc_ireturn (dby_of dby_41 (j := 21) rfl)
theorem dL_law_2646 : decode cL_law 2646 = .ok (.aload_n 1, 1) := dc_aload_n_1 (dby_of dby_41 (j := 22) rfl)
theorem dL_law_2647 : decode cL_law 2647 = .ok (.aload_n 0, 1) := dc_aload_n_0 (dby_of dby_41 (j := 23) rfl)
theorem dL_law_2648 : decode cL_law 2648 = .ok (.iload 4, 2) := dc_iload (dby_of dby_41 (j := 24) rfl) (dby_of dby_41 (j := 25) rfl) rfl
theorem dL_law_2650 : decode cL_law 2650 = .ok (.iconst 1, 1) := dc_iconst_1 (dby_of dby_41 (j := 26) rfl)
theorem dL_law_2651 : decode cL_law 2651 = .ok (.iadd, 1) := dc_iadd (dby_of dby_41 (j := 27) rfl)
theorem dL_law_2652 : decode cL_law 2652 = .ok (.iaload, 1) := dc_iaload (dby_of dby_41 (j := 28) rfl)
theorem dL_law_2653 : decode cL_law 2653 = .ok (.aload_n 0, 1) := dc_aload_n_0 (dby_of dby_41 (j := 29) rfl)
theorem dL_law_2654 : decode cL_law 2654 = .ok (.iload 4, 2) := dc_iload (dby_of dby_41 (j := 30) rfl) (dby_of dby_41 (j := 31) rfl) rfl
theorem dL_law_2656 : decode cL_law 2656 = .ok (.iconst 2, 1) := dc_iconst_2 (dby_of dby_41 (j := 32) rfl)
theorem dL_law_2657 : decode cL_law 2657 = .ok (.iadd, 1) := dc_iadd (dby_of dby_41 (j := 33) rfl)
theorem dL_law_2658 : decode cL_law 2658 = .ok (.iaload, 1) := dc_iaload (dby_of dby_41 (j := 34) rfl)
theorem dL_law_2659 : decode cL_law 2659 = .ok (.aload_n 3, 1) := dc_aload_n_3 (dby_of dby_41 (j := 35) rfl)
theorem dL_law_2660 : decode cL_law 2660 = .ok (.invokestatic 286, 3) := dc_invokestatic (dby_of dby_41 (j := 36) rfl) (dby_of dby_41 (j := 37) rfl) (dby_of dby_41 (j := 38) rfl) rfl
theorem dL_law_2663 : decode cL_law 2663 = .ok (.istore 5, 2) := dc_istore (dby_of dby_41 (j := 39) rfl) (dby_of dby_41 (j := 40) rfl) rfl
theorem dL_law_2665 : decode cL_law 2665 = .ok (.aload_n 2, 1) := dc_aload_n_2 (dby_of dby_41 (j := 41) rfl)
theorem dL_law_2666 : decode cL_law 2666 = .ok (.aload_n 0, 1) := dc_aload_n_0 (dby_of dby_41 (j := 42) rfl)
theorem dL_law_2667 : decode cL_law 2667 = .ok (.iload 4, 2) := dc_iload (dby_of dby_41 (j := 43) rfl) (dby_of dby_41 (j := 44) rfl) rfl
theorem dL_law_2669 : decode cL_law 2669 = .ok (.iconst 1, 1) := dc_iconst_1 (dby_of dby_41 (j := 45) rfl)
theorem dL_law_2670 : decode cL_law 2670 = .ok (.iadd, 1) := dc_iadd (dby_of dby_41 (j := 46) rfl)
theorem dL_law_2671 : decode cL_law 2671 = .ok (.iaload, 1) := dc_iaload (dby_of dby_41 (j := 47) rfl)
theorem dL_law_2672 : decode cL_law 2672 = .ok (.aload_n 0, 1) := dc_aload_n_0 (dby_of dby_41 (j := 48) rfl)
theorem dL_law_2673 : decode cL_law 2673 = .ok (.iload 4, 2) := dc_iload (dby_of dby_41 (j := 49) rfl) (dby_of dby_41 (j := 50) rfl) rfl
theorem dL_law_2675 : decode cL_law 2675 = .ok (.iconst 2, 1) := dc_iconst_2 (dby_of dby_41 (j := 51) rfl)
theorem dL_law_2676 : decode cL_law 2676 = .ok (.iadd, 1) := dc_iadd (dby_of dby_41 (j := 52) rfl)
theorem dL_law_2677 : decode cL_law 2677 = .ok (.iaload, 1) := dc_iaload (dby_of dby_41 (j := 53) rfl)
theorem dL_law_2678 : decode cL_law 2678 = .ok (.invokevirtual 288, 3) := dc_invokevirtual (dby_of dby_41 (j := 54) rfl) (dby_of dby_41 (j := 55) rfl) (dby_of dby_41 (j := 56) rfl) rfl
theorem dL_law_2681 : decode cL_law 2681 = .ok (.istore 6, 2) := dc_istore (dby_of dby_41 (j := 57) rfl) (dby_of dby_41 (j := 58) rfl) rfl
theorem dL_law_2683 : decode cL_law 2683 = .ok (.aload_n 2, 1) := dc_aload_n_2 (dby_of dby_41 (j := 59) rfl)
theorem dL_law_2684 : decode cL_law 2684 = .ok (.invokevirtual 183, 3) := dc_invokevirtual (dby_of dby_41 (j := 60) rfl) (dby_of dby_41 (j := 61) rfl) (dby_of dby_41 (j := 62) rfl) rfl
theorem dL_law_2687 : decode cL_law 2687 = .ok (.iload 5, 2) := dc_iload (dby_of dby_41 (j := 63) rfl) (dby_of dby_42 (j := 0) rfl) rfl
theorem dL_law_2689 : decode cL_law 2689 = .ok (.if_icmp .eq 5, 3) := dc_if_icmp_eq (dby_of dby_42 (j := 1) rfl) (dby_of dby_42 (j := 2) rfl) (dby_of dby_42 (j := 3) rfl) (by decide)
theorem dL_law_2692 : decode cL_law 2692 = .ok (.iconst 0, 1) := dc_iconst_0 (dby_of dby_42 (j := 4) rfl)
theorem dL_law_2693 : decode cL_law 2693 = .ok (.ireturn, 1) := dc_ireturn (dby_of dby_42 (j := 5) rfl)
theorem dL_law_2694 : decode cL_law 2694 = .ok (.iload 5, 2) := dc_iload (dby_of dby_42 (j := 6) rfl) (dby_of dby_42 (j := 7) rfl) rfl
theorem dL_law_2696 : decode cL_law 2696 = .ok (.ifCond .ne 15, 3) := dc_ifCond_ne (dby_of dby_42 (j := 8) rfl) (dby_of dby_42 (j := 9) rfl) (dby_of dby_42 (j := 10) rfl) (by decide)
theorem dL_law_2699 : decode cL_law 2699 = .ok (.aload_n 3, 1) := dc_aload_n_3 (dby_of dby_42 (j := 11) rfl)
theorem dL_law_2700 : decode cL_law 2700 = .ok (.iconst 0, 1) := dc_iconst_0 (dby_of dby_42 (j := 12) rfl)
theorem dL_law_2701 : decode cL_law 2701 = .ok (.laload, 1) := dc_laload (dby_of dby_42 (j := 13) rfl)
theorem dL_law_2702 : decode cL_law 2702 = .ok (.iload 6, 2) := dc_iload (dby_of dby_42 (j := 14) rfl) (dby_of dby_42 (j := 15) rfl) rfl
theorem dL_law_2704 : decode cL_law 2704 = .ok (.i2l, 1) := dc_i2l (dby_of dby_42 (j := 16) rfl)
theorem dL_law_2705 : decode cL_law 2705 = .ok (.lcmp, 1) := dc_lcmp (dby_of dby_42 (j := 17) rfl)
theorem dL_law_2706 : decode cL_law 2706 = .ok (.ifCond .eq 5, 3) := dc_ifCond_eq (dby_of dby_42 (j := 18) rfl) (dby_of dby_42 (j := 19) rfl) (dby_of dby_42 (j := 20) rfl) (by decide)
theorem dL_law_2709 : decode cL_law 2709 = .ok (.iconst 0, 1) := dc_iconst_0 (dby_of dby_42 (j := 21) rfl)
theorem dL_law_2710 : decode cL_law 2710 = .ok (.ireturn, 1) := dc_ireturn (dby_of dby_42 (j := 22) rfl)
theorem dL_law_2711 : decode cL_law 2711 = .ok (.goto 1840, 3) := dc_goto (dby_of dby_42 (j := 23) rfl) (dby_of dby_42 (j := 24) rfl) (dby_of dby_42 (j := 25) rfl) (by decide)
theorem dL_law_2714 : decode cL_law 2714 = .ok (.aload_n 1, 1) := dc_aload_n_1 (dby_of dby_42 (j := 26) rfl)
theorem dL_law_2715 : decode cL_law 2715 = .ok (.aload_n 0, 1) := dc_aload_n_0 (dby_of dby_42 (j := 27) rfl)
theorem dL_law_2716 : decode cL_law 2716 = .ok (.iload 4, 2) := dc_iload (dby_of dby_42 (j := 28) rfl) (dby_of dby_42 (j := 29) rfl) rfl
theorem dL_law_2718 : decode cL_law 2718 = .ok (.iconst 1, 1) := dc_iconst_1 (dby_of dby_42 (j := 30) rfl)
theorem dL_law_2719 : decode cL_law 2719 = .ok (.iadd, 1) := dc_iadd (dby_of dby_42 (j := 31) rfl)
theorem dL_law_2720 : decode cL_law 2720 = .ok (.iaload, 1) := dc_iaload (dby_of dby_42 (j := 32) rfl)
theorem dL_law_2721 : decode cL_law 2721 = .ok (.aload_n 0, 1) := dc_aload_n_0 (dby_of dby_42 (j := 33) rfl)
theorem dL_law_2722 : decode cL_law 2722 = .ok (.iload 4, 2) := dc_iload (dby_of dby_42 (j := 34) rfl) (dby_of dby_42 (j := 35) rfl) rfl
theorem dL_law_2724 : decode cL_law 2724 = .ok (.iconst 2, 1) := dc_iconst_2 (dby_of dby_42 (j := 36) rfl)
theorem dL_law_2725 : decode cL_law 2725 = .ok (.iadd, 1) := dc_iadd (dby_of dby_42 (j := 37) rfl)
theorem dL_law_2726 : decode cL_law 2726 = .ok (.iaload, 1) := dc_iaload (dby_of dby_42 (j := 38) rfl)
theorem dL_law_2727 : decode cL_law 2727 = .ok (.aload_n 0, 1) := dc_aload_n_0 (dby_of dby_42 (j := 39) rfl)
theorem dL_law_2728 : decode cL_law 2728 = .ok (.iload 4, 2) := dc_iload (dby_of dby_42 (j := 40) rfl) (dby_of dby_42 (j := 41) rfl) rfl
theorem dL_law_2730 : decode cL_law 2730 = .ok (.iconst 3, 1) := dc_iconst_3 (dby_of dby_42 (j := 42) rfl)
theorem dL_law_2731 : decode cL_law 2731 = .ok (.iadd, 1) := dc_iadd (dby_of dby_42 (j := 43) rfl)
theorem dL_law_2732 : decode cL_law 2732 = .ok (.iaload, 1) := dc_iaload (dby_of dby_42 (j := 44) rfl)
theorem dL_law_2733 : decode cL_law 2733 = .ok (.aload_n 0, 1) := dc_aload_n_0 (dby_of dby_42 (j := 45) rfl)
theorem dL_law_2734 : decode cL_law 2734 = .ok (.iload 4, 2) := dc_iload (dby_of dby_42 (j := 46) rfl) (dby_of dby_42 (j := 47) rfl) rfl
theorem dL_law_2736 : decode cL_law 2736 = .ok (.iconst 4, 1) := dc_iconst_4 (dby_of dby_42 (j := 48) rfl)
theorem dL_law_2737 : decode cL_law 2737 = .ok (.iadd, 1) := dc_iadd (dby_of dby_42 (j := 49) rfl)
theorem dL_law_2738 : decode cL_law 2738 = .ok (.iaload, 1) := dc_iaload (dby_of dby_42 (j := 50) rfl)
theorem dL_law_2739 : decode cL_law 2739 = .ok (.ifCond .eq 7, 3) := dc_ifCond_eq (dby_of dby_42 (j := 51) rfl) (dby_of dby_42 (j := 52) rfl) (dby_of dby_42 (j := 53) rfl) (by decide)
theorem dL_law_2742 : decode cL_law 2742 = .ok (.iconst 1, 1) := dc_iconst_1 (dby_of dby_42 (j := 54) rfl)
theorem dL_law_2743 : decode cL_law 2743 = .ok (.goto 4, 3) := dc_goto (dby_of dby_42 (j := 55) rfl) (dby_of dby_42 (j := 56) rfl) (dby_of dby_42 (j := 57) rfl) (by decide)
theorem dL_law_2746 : decode cL_law 2746 = .ok (.iconst 0, 1) := dc_iconst_0 (dby_of dby_42 (j := 58) rfl)
theorem dL_law_2747 : decode cL_law 2747 = .ok (.aload_n 3, 1) := dc_aload_n_3 (dby_of dby_42 (j := 59) rfl)
theorem dL_law_2748 : decode cL_law 2748 = .ok (.invokestatic 289, 3) := dc_invokestatic (dby_of dby_42 (j := 60) rfl) (dby_of dby_42 (j := 61) rfl) (dby_of dby_42 (j := 62) rfl) rfl
theorem dL_law_2751 : decode cL_law 2751 = .ok (.istore 5, 2) := dc_istore (dby_of dby_42 (j := 63) rfl) (dby_of dby_43 (j := 0) rfl) rfl
theorem dL_law_2753 : decode cL_law 2753 = .ok (.aload_n 2, 1) := dc_aload_n_2 (dby_of dby_43 (j := 1) rfl)
theorem dL_law_2754 : decode cL_law 2754 = .ok (.aload_n 0, 1) := dc_aload_n_0 (dby_of dby_43 (j := 2) rfl)
theorem dL_law_2755 : decode cL_law 2755 = .ok (.iload 4, 2) := dc_iload (dby_of dby_43 (j := 3) rfl) (dby_of dby_43 (j := 4) rfl) rfl
theorem dL_law_2757 : decode cL_law 2757 = .ok (.iconst 1, 1) := dc_iconst_1 (dby_of dby_43 (j := 5) rfl)
theorem dL_law_2758 : decode cL_law 2758 = .ok (.iadd, 1) := dc_iadd (dby_of dby_43 (j := 6) rfl)
theorem dL_law_2759 : decode cL_law 2759 = .ok (.iaload, 1) := dc_iaload (dby_of dby_43 (j := 7) rfl)
theorem dL_law_2760 : decode cL_law 2760 = .ok (.aload_n 0, 1) := dc_aload_n_0 (dby_of dby_43 (j := 8) rfl)
theorem dL_law_2761 : decode cL_law 2761 = .ok (.iload 4, 2) := dc_iload (dby_of dby_43 (j := 9) rfl) (dby_of dby_43 (j := 10) rfl) rfl
theorem dL_law_2763 : decode cL_law 2763 = .ok (.iconst 2, 1) := dc_iconst_2 (dby_of dby_43 (j := 11) rfl)
theorem dL_law_2764 : decode cL_law 2764 = .ok (.iadd, 1) := dc_iadd (dby_of dby_43 (j := 12) rfl)
theorem dL_law_2765 : decode cL_law 2765 = .ok (.iaload, 1) := dc_iaload (dby_of dby_43 (j := 13) rfl)
theorem dL_law_2766 : decode cL_law 2766 = .ok (.aload_n 0, 1) := dc_aload_n_0 (dby_of dby_43 (j := 14) rfl)
theorem dL_law_2767 : decode cL_law 2767 = .ok (.iload 4, 2) := dc_iload (dby_of dby_43 (j := 15) rfl) (dby_of dby_43 (j := 16) rfl) rfl
theorem dL_law_2769 : decode cL_law 2769 = .ok (.iconst 3, 1) := dc_iconst_3 (dby_of dby_43 (j := 17) rfl)
theorem dL_law_2770 : decode cL_law 2770 = .ok (.iadd, 1) := dc_iadd (dby_of dby_43 (j := 18) rfl)
theorem dL_law_2771 : decode cL_law 2771 = .ok (.iaload, 1) := dc_iaload (dby_of dby_43 (j := 19) rfl)
theorem dL_law_2772 : decode cL_law 2772 = .ok (.aload_n 0, 1) := dc_aload_n_0 (dby_of dby_43 (j := 20) rfl)
theorem dL_law_2773 : decode cL_law 2773 = .ok (.iload 4, 2) := dc_iload (dby_of dby_43 (j := 21) rfl) (dby_of dby_43 (j := 22) rfl) rfl
theorem dL_law_2775 : decode cL_law 2775 = .ok (.iconst 4, 1) := dc_iconst_4 (dby_of dby_43 (j := 23) rfl)
theorem dL_law_2776 : decode cL_law 2776 = .ok (.iadd, 1) := dc_iadd (dby_of dby_43 (j := 24) rfl)
theorem dL_law_2777 : decode cL_law 2777 = .ok (.iaload, 1) := dc_iaload (dby_of dby_43 (j := 25) rfl)
theorem dL_law_2778 : decode cL_law 2778 = .ok (.ifCond .eq 7, 3) := dc_ifCond_eq (dby_of dby_43 (j := 26) rfl) (dby_of dby_43 (j := 27) rfl) (dby_of dby_43 (j := 28) rfl) (by decide)
theorem dL_law_2781 : decode cL_law 2781 = .ok (.iconst 1, 1) := dc_iconst_1 (dby_of dby_43 (j := 29) rfl)
theorem dL_law_2782 : decode cL_law 2782 = .ok (.goto 4, 3) := dc_goto (dby_of dby_43 (j := 30) rfl) (dby_of dby_43 (j := 31) rfl) (dby_of dby_43 (j := 32) rfl) (by decide)
theorem dL_law_2785 : decode cL_law 2785 = .ok (.iconst 0, 1) := dc_iconst_0 (dby_of dby_43 (j := 33) rfl)
theorem dL_law_2786 : decode cL_law 2786 = .ok (.invokevirtual 291, 3) := dc_invokevirtual (dby_of dby_43 (j := 34) rfl) (dby_of dby_43 (j := 35) rfl) (dby_of dby_43 (j := 36) rfl) rfl
theorem dL_law_2789 : decode cL_law 2789 = .ok (.istore 6, 2) := dc_istore (dby_of dby_43 (j := 37) rfl) (dby_of dby_43 (j := 38) rfl) rfl
theorem dL_law_2791 : decode cL_law 2791 = .ok (.aload_n 2, 1) := dc_aload_n_2 (dby_of dby_43 (j := 39) rfl)
theorem dL_law_2792 : decode cL_law 2792 = .ok (.invokevirtual 183, 3) := dc_invokevirtual (dby_of dby_43 (j := 40) rfl) (dby_of dby_43 (j := 41) rfl) (dby_of dby_43 (j := 42) rfl) rfl
theorem dL_law_2795 : decode cL_law 2795 = .ok (.iload 5, 2) := dc_iload (dby_of dby_43 (j := 43) rfl) (dby_of dby_43 (j := 44) rfl) rfl
theorem dL_law_2797 : decode cL_law 2797 = .ok (.if_icmp .eq 5, 3) := dc_if_icmp_eq (dby_of dby_43 (j := 45) rfl) (dby_of dby_43 (j := 46) rfl) (dby_of dby_43 (j := 47) rfl) (by decide)
theorem dL_law_2800 : decode cL_law 2800 = .ok (.iconst 0, 1) := dc_iconst_0 (dby_of dby_43 (j := 48) rfl)
theorem dL_law_2801 : decode cL_law 2801 = .ok (.ireturn, 1) := dc_ireturn (dby_of dby_43 (j := 49) rfl)
theorem dL_law_2802 : decode cL_law 2802 = .ok (.iload 5, 2) := dc_iload (dby_of dby_43 (j := 50) rfl) (dby_of dby_43 (j := 51) rfl) rfl
theorem dL_law_2804 : decode cL_law 2804 = .ok (.ifCond .ne 15, 3) := dc_ifCond_ne (dby_of dby_43 (j := 52) rfl) (dby_of dby_43 (j := 53) rfl) (dby_of dby_43 (j := 54) rfl) (by decide)
theorem dL_law_2807 : decode cL_law 2807 = .ok (.aload_n 3, 1) := dc_aload_n_3 (dby_of dby_43 (j := 55) rfl)
theorem dL_law_2808 : decode cL_law 2808 = .ok (.iconst 0, 1) := dc_iconst_0 (dby_of dby_43 (j := 56) rfl)
theorem dL_law_2809 : decode cL_law 2809 = .ok (.laload, 1) := dc_laload (dby_of dby_43 (j := 57) rfl)
theorem dL_law_2810 : decode cL_law 2810 = .ok (.iload 6, 2) := dc_iload (dby_of dby_43 (j := 58) rfl) (dby_of dby_43 (j := 59) rfl) rfl
theorem dL_law_2812 : decode cL_law 2812 = .ok (.i2l, 1) := dc_i2l (dby_of dby_43 (j := 60) rfl)
theorem dL_law_2813 : decode cL_law 2813 = .ok (.lcmp, 1) := dc_lcmp (dby_of dby_43 (j := 61) rfl)
theorem dL_law_2814 : decode cL_law 2814 = .ok (.ifCond .eq 5, 3) := dc_ifCond_eq (dby_of dby_43 (j := 62) rfl) (dby_of dby_43 (j := 63) rfl) (dby_of dby_44 (j := 0) rfl) (by decide)
theorem dL_law_2817 : decode cL_law 2817 = .ok (.iconst 0, 1) := dc_iconst_0 (dby_of dby_44 (j := 1) rfl)
theorem dL_law_2818 : decode cL_law 2818 = .ok (.ireturn, 1) := dc_ireturn (dby_of dby_44 (j := 2) rfl)
theorem dL_law_2819 : decode cL_law 2819 = .ok (.goto 1732, 3) := dc_goto (dby_of dby_44 (j := 3) rfl) (dby_of dby_44 (j := 4) rfl) (dby_of dby_44 (j := 5) rfl) (by decide)
theorem dL_law_2822 : decode cL_law 2822 = .ok (.aload_n 1, 1) := dc_aload_n_1 (dby_of dby_44 (j := 6) rfl)
theorem dL_law_2823 : decode cL_law 2823 = .ok (.aload_n 0, 1) := dc_aload_n_0 (dby_of dby_44 (j := 7) rfl)
theorem dL_law_2824 : decode cL_law 2824 = .ok (.iload 4, 2) := dc_iload (dby_of dby_44 (j := 8) rfl) (dby_of dby_44 (j := 9) rfl) rfl
theorem dL_law_2826 : decode cL_law 2826 = .ok (.iconst 1, 1) := dc_iconst_1 (dby_of dby_44 (j := 10) rfl)
theorem dL_law_2827 : decode cL_law 2827 = .ok (.iadd, 1) := dc_iadd (dby_of dby_44 (j := 11) rfl)
theorem dL_law_2828 : decode cL_law 2828 = .ok (.iaload, 1) := dc_iaload (dby_of dby_44 (j := 12) rfl)
theorem dL_law_2829 : decode cL_law 2829 = .ok (.aload_n 0, 1) := dc_aload_n_0 (dby_of dby_44 (j := 13) rfl)
theorem dL_law_2830 : decode cL_law 2830 = .ok (.iload 4, 2) := dc_iload (dby_of dby_44 (j := 14) rfl) (dby_of dby_44 (j := 15) rfl) rfl
theorem dL_law_2832 : decode cL_law 2832 = .ok (.iconst 2, 1) := dc_iconst_2 (dby_of dby_44 (j := 16) rfl)
theorem dL_law_2833 : decode cL_law 2833 = .ok (.iadd, 1) := dc_iadd (dby_of dby_44 (j := 17) rfl)
theorem dL_law_2834 : decode cL_law 2834 = .ok (.iaload, 1) := dc_iaload (dby_of dby_44 (j := 18) rfl)
theorem dL_law_2835 : decode cL_law 2835 = .ok (.aload_n 0, 1) := dc_aload_n_0 (dby_of dby_44 (j := 19) rfl)
theorem dL_law_2836 : decode cL_law 2836 = .ok (.iload 4, 2) := dc_iload (dby_of dby_44 (j := 20) rfl) (dby_of dby_44 (j := 21) rfl) rfl
theorem dL_law_2838 : decode cL_law 2838 = .ok (.iconst 3, 1) := dc_iconst_3 (dby_of dby_44 (j := 22) rfl)
theorem dL_law_2839 : decode cL_law 2839 = .ok (.iadd, 1) := dc_iadd (dby_of dby_44 (j := 23) rfl)
theorem dL_law_2840 : decode cL_law 2840 = .ok (.iaload, 1) := dc_iaload (dby_of dby_44 (j := 24) rfl)
theorem dL_law_2841 : decode cL_law 2841 = .ok (.aload_n 3, 1) := dc_aload_n_3 (dby_of dby_44 (j := 25) rfl)
theorem dL_law_2842 : decode cL_law 2842 = .ok (.invokestatic 292, 3) := dc_invokestatic (dby_of dby_44 (j := 26) rfl) (dby_of dby_44 (j := 27) rfl) (dby_of dby_44 (j := 28) rfl) rfl
theorem dL_law_2845 : decode cL_law 2845 = .ok (.istore 5, 2) := dc_istore (dby_of dby_44 (j := 29) rfl) (dby_of dby_44 (j := 30) rfl) rfl
theorem dL_law_2847 : decode cL_law 2847 = .ok (.aload_n 2, 1) := dc_aload_n_2 (dby_of dby_44 (j := 31) rfl)
theorem dL_law_2848 : decode cL_law 2848 = .ok (.aload_n 0, 1) := dc_aload_n_0 (dby_of dby_44 (j := 32) rfl)
theorem dL_law_2849 : decode cL_law 2849 = .ok (.iload 4, 2) := dc_iload (dby_of dby_44 (j := 33) rfl) (dby_of dby_44 (j := 34) rfl) rfl
theorem dL_law_2851 : decode cL_law 2851 = .ok (.iconst 1, 1) := dc_iconst_1 (dby_of dby_44 (j := 35) rfl)
theorem dL_law_2852 : decode cL_law 2852 = .ok (.iadd, 1) := dc_iadd (dby_of dby_44 (j := 36) rfl)
theorem dL_law_2853 : decode cL_law 2853 = .ok (.iaload, 1) := dc_iaload (dby_of dby_44 (j := 37) rfl)
theorem dL_law_2854 : decode cL_law 2854 = .ok (.aload_n 0, 1) := dc_aload_n_0 (dby_of dby_44 (j := 38) rfl)
theorem dL_law_2855 : decode cL_law 2855 = .ok (.iload 4, 2) := dc_iload (dby_of dby_44 (j := 39) rfl) (dby_of dby_44 (j := 40) rfl) rfl
theorem dL_law_2857 : decode cL_law 2857 = .ok (.iconst 2, 1) := dc_iconst_2 (dby_of dby_44 (j := 41) rfl)
theorem dL_law_2858 : decode cL_law 2858 = .ok (.iadd, 1) := dc_iadd (dby_of dby_44 (j := 42) rfl)
theorem dL_law_2859 : decode cL_law 2859 = .ok (.iaload, 1) := dc_iaload (dby_of dby_44 (j := 43) rfl)
theorem dL_law_2860 : decode cL_law 2860 = .ok (.aload_n 0, 1) := dc_aload_n_0 (dby_of dby_44 (j := 44) rfl)
theorem dL_law_2861 : decode cL_law 2861 = .ok (.iload 4, 2) := dc_iload (dby_of dby_44 (j := 45) rfl) (dby_of dby_44 (j := 46) rfl) rfl
theorem dL_law_2863 : decode cL_law 2863 = .ok (.iconst 3, 1) := dc_iconst_3 (dby_of dby_44 (j := 47) rfl)
theorem dL_law_2864 : decode cL_law 2864 = .ok (.iadd, 1) := dc_iadd (dby_of dby_44 (j := 48) rfl)
theorem dL_law_2865 : decode cL_law 2865 = .ok (.iaload, 1) := dc_iaload (dby_of dby_44 (j := 49) rfl)
theorem dL_law_2866 : decode cL_law 2866 = .ok (.invokevirtual 294, 3) := dc_invokevirtual (dby_of dby_44 (j := 50) rfl) (dby_of dby_44 (j := 51) rfl) (dby_of dby_44 (j := 52) rfl) rfl
theorem dL_law_2869 : decode cL_law 2869 = .ok (.istore 6, 2) := dc_istore (dby_of dby_44 (j := 53) rfl) (dby_of dby_44 (j := 54) rfl) rfl
theorem dL_law_2871 : decode cL_law 2871 = .ok (.aload_n 2, 1) := dc_aload_n_2 (dby_of dby_44 (j := 55) rfl)
theorem dL_law_2872 : decode cL_law 2872 = .ok (.invokevirtual 183, 3) := dc_invokevirtual (dby_of dby_44 (j := 56) rfl) (dby_of dby_44 (j := 57) rfl) (dby_of dby_44 (j := 58) rfl) rfl
theorem dL_law_2875 : decode cL_law 2875 = .ok (.iload 5, 2) := dc_iload (dby_of dby_44 (j := 59) rfl) (dby_of dby_44 (j := 60) rfl) rfl
theorem dL_law_2877 : decode cL_law 2877 = .ok (.if_icmp .eq 5, 3) := dc_if_icmp_eq (dby_of dby_44 (j := 61) rfl) (dby_of dby_44 (j := 62) rfl) (dby_of dby_44 (j := 63) rfl) (by decide)
theorem dL_law_2880 : decode cL_law 2880 = .ok (.iconst 0, 1) := dc_iconst_0 (dby_of dby_45 (j := 0) rfl)
theorem dL_law_2881 : decode cL_law 2881 = .ok (.ireturn, 1) := dc_ireturn (dby_of dby_45 (j := 1) rfl)
theorem dL_law_2882 : decode cL_law 2882 = .ok (.iload 5, 2) := dc_iload (dby_of dby_45 (j := 2) rfl) (dby_of dby_45 (j := 3) rfl) rfl
theorem dL_law_2884 : decode cL_law 2884 = .ok (.ifCond .ne 15, 3) := dc_ifCond_ne (dby_of dby_45 (j := 4) rfl) (dby_of dby_45 (j := 5) rfl) (dby_of dby_45 (j := 6) rfl) (by decide)
theorem dL_law_2887 : decode cL_law 2887 = .ok (.aload_n 3, 1) := dc_aload_n_3 (dby_of dby_45 (j := 7) rfl)
theorem dL_law_2888 : decode cL_law 2888 = .ok (.iconst 0, 1) := dc_iconst_0 (dby_of dby_45 (j := 8) rfl)
theorem dL_law_2889 : decode cL_law 2889 = .ok (.laload, 1) := dc_laload (dby_of dby_45 (j := 9) rfl)
theorem dL_law_2890 : decode cL_law 2890 = .ok (.iload 6, 2) := dc_iload (dby_of dby_45 (j := 10) rfl) (dby_of dby_45 (j := 11) rfl) rfl
theorem dL_law_2892 : decode cL_law 2892 = .ok (.i2l, 1) := dc_i2l (dby_of dby_45 (j := 12) rfl)
theorem dL_law_2893 : decode cL_law 2893 = .ok (.lcmp, 1) := dc_lcmp (dby_of dby_45 (j := 13) rfl)
theorem dL_law_2894 : decode cL_law 2894 = .ok (.ifCond .eq 5, 3) := dc_ifCond_eq (dby_of dby_45 (j := 14) rfl) (dby_of dby_45 (j := 15) rfl) (dby_of dby_45 (j := 16) rfl) (by decide)
theorem dL_law_2897 : decode cL_law 2897 = .ok (.iconst 0, 1) := dc_iconst_0 (dby_of dby_45 (j := 17) rfl)
theorem dL_law_2898 : decode cL_law 2898 = .ok (.ireturn, 1) := dc_ireturn (dby_of dby_45 (j := 18) rfl)
theorem dL_law_2899 : decode cL_law 2899 = .ok (.goto 1652, 3) := dc_goto (dby_of dby_45 (j := 19) rfl) (dby_of dby_45 (j := 20) rfl) (dby_of dby_45 (j := 21) rfl) (by decide)
theorem dL_law_2902 : decode cL_law 2902 = .ok (.aload_n 1, 1) := dc_aload_n_1 (dby_of dby_45 (j := 22) rfl)
theorem dL_law_2903 : decode cL_law 2903 = .ok (.aload_n 0, 1) := dc_aload_n_0 (dby_of dby_45 (j := 23) rfl)
theorem dL_law_2904 : decode cL_law 2904 = .ok (.iload 4, 2) := dc_iload (dby_of dby_45 (j := 24) rfl) (dby_of dby_45 (j := 25) rfl) rfl
theorem dL_law_2906 : decode cL_law 2906 = .ok (.iconst 1, 1) := dc_iconst_1 (dby_of dby_45 (j := 26) rfl)
theorem dL_law_2907 : decode cL_law 2907 = .ok (.iadd, 1) := dc_iadd (dby_of dby_45 (j := 27) rfl)
theorem dL_law_2908 : decode cL_law 2908 = .ok (.iaload, 1) := dc_iaload (dby_of dby_45 (j := 28) rfl)
theorem dL_law_2909 : decode cL_law 2909 = .ok (.aload_n 0, 1) := dc_aload_n_0 (dby_of dby_45 (j := 29) rfl)
theorem dL_law_2910 : decode cL_law 2910 = .ok (.iload 4, 2) := dc_iload (dby_of dby_45 (j := 30) rfl) (dby_of dby_45 (j := 31) rfl) rfl
theorem dL_law_2912 : decode cL_law 2912 = .ok (.iconst 2, 1) := dc_iconst_2 (dby_of dby_45 (j := 32) rfl)
theorem dL_law_2913 : decode cL_law 2913 = .ok (.iadd, 1) := dc_iadd (dby_of dby_45 (j := 33) rfl)
theorem dL_law_2914 : decode cL_law 2914 = .ok (.iaload, 1) := dc_iaload (dby_of dby_45 (j := 34) rfl)
theorem dL_law_2915 : decode cL_law 2915 = .ok (.aload_n 0, 1) := dc_aload_n_0 (dby_of dby_45 (j := 35) rfl)
theorem dL_law_2916 : decode cL_law 2916 = .ok (.iload 4, 2) := dc_iload (dby_of dby_45 (j := 36) rfl) (dby_of dby_45 (j := 37) rfl) rfl
theorem dL_law_2918 : decode cL_law 2918 = .ok (.iconst 3, 1) := dc_iconst_3 (dby_of dby_45 (j := 38) rfl)
theorem dL_law_2919 : decode cL_law 2919 = .ok (.iadd, 1) := dc_iadd (dby_of dby_45 (j := 39) rfl)
theorem dL_law_2920 : decode cL_law 2920 = .ok (.iaload, 1) := dc_iaload (dby_of dby_45 (j := 40) rfl)
theorem dL_law_2921 : decode cL_law 2921 = .ok (.aload_n 3, 1) := dc_aload_n_3 (dby_of dby_45 (j := 41) rfl)
theorem dL_law_2922 : decode cL_law 2922 = .ok (.invokestatic 295, 3) := dc_invokestatic (dby_of dby_45 (j := 42) rfl) (dby_of dby_45 (j := 43) rfl) (dby_of dby_45 (j := 44) rfl) rfl
theorem dL_law_2925 : decode cL_law 2925 = .ok (.istore 5, 2) := dc_istore (dby_of dby_45 (j := 45) rfl) (dby_of dby_45 (j := 46) rfl) rfl
theorem dL_law_2927 : decode cL_law 2927 = .ok (.aload_n 2, 1) := dc_aload_n_2 (dby_of dby_45 (j := 47) rfl)
theorem dL_law_2928 : decode cL_law 2928 = .ok (.aload_n 0, 1) := dc_aload_n_0 (dby_of dby_45 (j := 48) rfl)
theorem dL_law_2929 : decode cL_law 2929 = .ok (.iload 4, 2) := dc_iload (dby_of dby_45 (j := 49) rfl) (dby_of dby_45 (j := 50) rfl) rfl
theorem dL_law_2931 : decode cL_law 2931 = .ok (.iconst 1, 1) := dc_iconst_1 (dby_of dby_45 (j := 51) rfl)
theorem dL_law_2932 : decode cL_law 2932 = .ok (.iadd, 1) := dc_iadd (dby_of dby_45 (j := 52) rfl)
theorem dL_law_2933 : decode cL_law 2933 = .ok (.iaload, 1) := dc_iaload (dby_of dby_45 (j := 53) rfl)
theorem dL_law_2934 : decode cL_law 2934 = .ok (.aload_n 0, 1) := dc_aload_n_0 (dby_of dby_45 (j := 54) rfl)
theorem dL_law_2935 : decode cL_law 2935 = .ok (.iload 4, 2) := dc_iload (dby_of dby_45 (j := 55) rfl) (dby_of dby_45 (j := 56) rfl) rfl
theorem dL_law_2937 : decode cL_law 2937 = .ok (.iconst 2, 1) := dc_iconst_2 (dby_of dby_45 (j := 57) rfl)
theorem dL_law_2938 : decode cL_law 2938 = .ok (.iadd, 1) := dc_iadd (dby_of dby_45 (j := 58) rfl)
theorem dL_law_2939 : decode cL_law 2939 = .ok (.iaload, 1) := dc_iaload (dby_of dby_45 (j := 59) rfl)
theorem dL_law_2940 : decode cL_law 2940 = .ok (.aload_n 0, 1) := dc_aload_n_0 (dby_of dby_45 (j := 60) rfl)
theorem dL_law_2941 : decode cL_law 2941 = .ok (.iload 4, 2) := dc_iload (dby_of dby_45 (j := 61) rfl) (dby_of dby_45 (j := 62) rfl) rfl
theorem dL_law_2943 : decode cL_law 2943 = .ok (.iconst 3, 1) := dc_iconst_3 (dby_of dby_45 (j := 63) rfl)
theorem dL_law_2944 : decode cL_law 2944 = .ok (.iadd, 1) := dc_iadd (dby_of dby_46 (j := 0) rfl)
theorem dL_law_2945 : decode cL_law 2945 = .ok (.iaload, 1) := dc_iaload (dby_of dby_46 (j := 1) rfl)
theorem dL_law_2946 : decode cL_law 2946 = .ok (.invokevirtual 297, 3) := dc_invokevirtual (dby_of dby_46 (j := 2) rfl) (dby_of dby_46 (j := 3) rfl) (dby_of dby_46 (j := 4) rfl) rfl
theorem dL_law_2949 : decode cL_law 2949 = .ok (.istore 6, 2) := dc_istore (dby_of dby_46 (j := 5) rfl) (dby_of dby_46 (j := 6) rfl) rfl
theorem dL_law_2951 : decode cL_law 2951 = .ok (.aload_n 2, 1) := dc_aload_n_2 (dby_of dby_46 (j := 7) rfl)
theorem dL_law_2952 : decode cL_law 2952 = .ok (.invokevirtual 183, 3) := dc_invokevirtual (dby_of dby_46 (j := 8) rfl) (dby_of dby_46 (j := 9) rfl) (dby_of dby_46 (j := 10) rfl) rfl
theorem dL_law_2955 : decode cL_law 2955 = .ok (.iload 5, 2) := dc_iload (dby_of dby_46 (j := 11) rfl) (dby_of dby_46 (j := 12) rfl) rfl
theorem dL_law_2957 : decode cL_law 2957 = .ok (.if_icmp .eq 5, 3) := dc_if_icmp_eq (dby_of dby_46 (j := 13) rfl) (dby_of dby_46 (j := 14) rfl) (dby_of dby_46 (j := 15) rfl) (by decide)
theorem dL_law_2960 : decode cL_law 2960 = .ok (.iconst 0, 1) := dc_iconst_0 (dby_of dby_46 (j := 16) rfl)
theorem dL_law_2961 : decode cL_law 2961 = .ok (.ireturn, 1) := dc_ireturn (dby_of dby_46 (j := 17) rfl)
theorem dL_law_2962 : decode cL_law 2962 = .ok (.iload 5, 2) := dc_iload (dby_of dby_46 (j := 18) rfl) (dby_of dby_46 (j := 19) rfl) rfl
theorem dL_law_2964 : decode cL_law 2964 = .ok (.ifCond .ne 15, 3) := dc_ifCond_ne (dby_of dby_46 (j := 20) rfl) (dby_of dby_46 (j := 21) rfl) (dby_of dby_46 (j := 22) rfl) (by decide)
theorem dL_law_2967 : decode cL_law 2967 = .ok (.aload_n 3, 1) := dc_aload_n_3 (dby_of dby_46 (j := 23) rfl)
theorem dL_law_2968 : decode cL_law 2968 = .ok (.iconst 0, 1) := dc_iconst_0 (dby_of dby_46 (j := 24) rfl)
theorem dL_law_2969 : decode cL_law 2969 = .ok (.laload, 1) := dc_laload (dby_of dby_46 (j := 25) rfl)
theorem dL_law_2970 : decode cL_law 2970 = .ok (.iload 6, 2) := dc_iload (dby_of dby_46 (j := 26) rfl) (dby_of dby_46 (j := 27) rfl) rfl
theorem dL_law_2972 : decode cL_law 2972 = .ok (.i2l, 1) := dc_i2l (dby_of dby_46 (j := 28) rfl)
theorem dL_law_2973 : decode cL_law 2973 = .ok (.lcmp, 1) := dc_lcmp (dby_of dby_46 (j := 29) rfl)
theorem dL_law_2974 : decode cL_law 2974 = .ok (.ifCond .eq 5, 3) := dc_ifCond_eq (dby_of dby_46 (j := 30) rfl) (dby_of dby_46 (j := 31) rfl) (dby_of dby_46 (j := 32) rfl) (by decide)
theorem dL_law_2977 : decode cL_law 2977 = .ok (.iconst 0, 1) := dc_iconst_0 (dby_of dby_46 (j := 33) rfl)
theorem dL_law_2978 : decode cL_law 2978 = .ok (.ireturn, 1) := dc_ireturn (dby_of dby_46 (j := 34) rfl)
theorem dL_law_2979 : decode cL_law 2979 = .ok (.goto 1572, 3) := dc_goto (dby_of dby_46 (j := 35) rfl) (dby_of dby_46 (j := 36) rfl) (dby_of dby_46 (j := 37) rfl) (by decide)
theorem dL_law_2982 : decode cL_law 2982 = .ok (.aload_n 1, 1) := dc_aload_n_1 (dby_of dby_46 (j := 38) rfl)
theorem dL_law_2983 : decode cL_law 2983 = .ok (.aload_n 0, 1) := dc_aload_n_0 (dby_of dby_46 (j := 39) rfl)
theorem dL_law_2984 : decode cL_law 2984 = .ok (.iload 4, 2) := dc_iload (dby_of dby_46 (j := 40) rfl) (dby_of dby_46 (j := 41) rfl) rfl
theorem dL_law_2986 : decode cL_law 2986 = .ok (.iconst 1, 1) := dc_iconst_1 (dby_of dby_46 (j := 42) rfl)
theorem dL_law_2987 : decode cL_law 2987 = .ok (.iadd, 1) := dc_iadd (dby_of dby_46 (j := 43) rfl)
theorem dL_law_2988 : decode cL_law 2988 = .ok (.iaload, 1) := dc_iaload (dby_of dby_46 (j := 44) rfl)
theorem dL_law_2989 : decode cL_law 2989 = .ok (.aload_n 0, 1) := dc_aload_n_0 (dby_of dby_46 (j := 45) rfl)
theorem dL_law_2990 : decode cL_law 2990 = .ok (.iload 4, 2) := dc_iload (dby_of dby_46 (j := 46) rfl) (dby_of dby_46 (j := 47) rfl) rfl
theorem dL_law_2992 : decode cL_law 2992 = .ok (.iconst 2, 1) := dc_iconst_2 (dby_of dby_46 (j := 48) rfl)
theorem dL_law_2993 : decode cL_law 2993 = .ok (.iadd, 1) := dc_iadd (dby_of dby_46 (j := 49) rfl)
theorem dL_law_2994 : decode cL_law 2994 = .ok (.iaload, 1) := dc_iaload (dby_of dby_46 (j := 50) rfl)
theorem dL_law_2995 : decode cL_law 2995 = .ok (.aload_n 0, 1) := dc_aload_n_0 (dby_of dby_46 (j := 51) rfl)
theorem dL_law_2996 : decode cL_law 2996 = .ok (.iload 4, 2) := dc_iload (dby_of dby_46 (j := 52) rfl) (dby_of dby_46 (j := 53) rfl) rfl
theorem dL_law_2998 : decode cL_law 2998 = .ok (.iconst 3, 1) := dc_iconst_3 (dby_of dby_46 (j := 54) rfl)
theorem dL_law_2999 : decode cL_law 2999 = .ok (.iadd, 1) := dc_iadd (dby_of dby_46 (j := 55) rfl)
theorem dL_law_3000 : decode cL_law 3000 = .ok (.iaload, 1) := dc_iaload (dby_of dby_46 (j := 56) rfl)
theorem dL_law_3001 : decode cL_law 3001 = .ok (.aload_n 3, 1) := dc_aload_n_3 (dby_of dby_46 (j := 57) rfl)
theorem dL_law_3002 : decode cL_law 3002 = .ok (.invokestatic 298, 3) := dc_invokestatic (dby_of dby_46 (j := 58) rfl) (dby_of dby_46 (j := 59) rfl) (dby_of dby_46 (j := 60) rfl) rfl
theorem dL_law_3005 : decode cL_law 3005 = .ok (.istore 5, 2) := dc_istore (dby_of dby_46 (j := 61) rfl) (dby_of dby_46 (j := 62) rfl) rfl
theorem dL_law_3007 : decode cL_law 3007 = .ok (.aload_n 2, 1) := dc_aload_n_2 (dby_of dby_46 (j := 63) rfl)
theorem dL_law_3008 : decode cL_law 3008 = .ok (.aload_n 0, 1) := dc_aload_n_0 (dby_of dby_47 (j := 0) rfl)
theorem dL_law_3009 : decode cL_law 3009 = .ok (.iload 4, 2) := dc_iload (dby_of dby_47 (j := 1) rfl) (dby_of dby_47 (j := 2) rfl) rfl
theorem dL_law_3011 : decode cL_law 3011 = .ok (.iconst 1, 1) := dc_iconst_1 (dby_of dby_47 (j := 3) rfl)
theorem dL_law_3012 : decode cL_law 3012 = .ok (.iadd, 1) := dc_iadd (dby_of dby_47 (j := 4) rfl)
theorem dL_law_3013 : decode cL_law 3013 = .ok (.iaload, 1) := dc_iaload (dby_of dby_47 (j := 5) rfl)
theorem dL_law_3014 : decode cL_law 3014 = .ok (.aload_n 0, 1) := dc_aload_n_0 (dby_of dby_47 (j := 6) rfl)
theorem dL_law_3015 : decode cL_law 3015 = .ok (.iload 4, 2) := dc_iload (dby_of dby_47 (j := 7) rfl) (dby_of dby_47 (j := 8) rfl) rfl
theorem dL_law_3017 : decode cL_law 3017 = .ok (.iconst 2, 1) := dc_iconst_2 (dby_of dby_47 (j := 9) rfl)
theorem dL_law_3018 : decode cL_law 3018 = .ok (.iadd, 1) := dc_iadd (dby_of dby_47 (j := 10) rfl)
theorem dL_law_3019 : decode cL_law 3019 = .ok (.iaload, 1) := dc_iaload (dby_of dby_47 (j := 11) rfl)
theorem dL_law_3020 : decode cL_law 3020 = .ok (.aload_n 0, 1) := dc_aload_n_0 (dby_of dby_47 (j := 12) rfl)
theorem dL_law_3021 : decode cL_law 3021 = .ok (.iload 4, 2) := dc_iload (dby_of dby_47 (j := 13) rfl) (dby_of dby_47 (j := 14) rfl) rfl
theorem dL_law_3023 : decode cL_law 3023 = .ok (.iconst 3, 1) := dc_iconst_3 (dby_of dby_47 (j := 15) rfl)
theorem dL_law_3024 : decode cL_law 3024 = .ok (.iadd, 1) := dc_iadd (dby_of dby_47 (j := 16) rfl)
theorem dL_law_3025 : decode cL_law 3025 = .ok (.iaload, 1) := dc_iaload (dby_of dby_47 (j := 17) rfl)
theorem dL_law_3026 : decode cL_law 3026 = .ok (.invokevirtual 300, 3) := dc_invokevirtual (dby_of dby_47 (j := 18) rfl) (dby_of dby_47 (j := 19) rfl) (dby_of dby_47 (j := 20) rfl) rfl
theorem dL_law_3029 : decode cL_law 3029 = .ok (.istore 6, 2) := dc_istore (dby_of dby_47 (j := 21) rfl) (dby_of dby_47 (j := 22) rfl) rfl
theorem dL_law_3031 : decode cL_law 3031 = .ok (.aload_n 2, 1) := dc_aload_n_2 (dby_of dby_47 (j := 23) rfl)
theorem dL_law_3032 : decode cL_law 3032 = .ok (.invokevirtual 183, 3) := dc_invokevirtual (dby_of dby_47 (j := 24) rfl) (dby_of dby_47 (j := 25) rfl) (dby_of dby_47 (j := 26) rfl) rfl
theorem dL_law_3035 : decode cL_law 3035 = .ok (.iload 5, 2) := dc_iload (dby_of dby_47 (j := 27) rfl) (dby_of dby_47 (j := 28) rfl) rfl
theorem dL_law_3037 : decode cL_law 3037 = .ok (.if_icmp .eq 5, 3) := dc_if_icmp_eq (dby_of dby_47 (j := 29) rfl) (dby_of dby_47 (j := 30) rfl) (dby_of dby_47 (j := 31) rfl) (by decide)
theorem dL_law_3040 : decode cL_law 3040 = .ok (.iconst 0, 1) := dc_iconst_0 (dby_of dby_47 (j := 32) rfl)
theorem dL_law_3041 : decode cL_law 3041 = .ok (.ireturn, 1) := dc_ireturn (dby_of dby_47 (j := 33) rfl)
theorem dL_law_3042 : decode cL_law 3042 = .ok (.iload 5, 2) := dc_iload (dby_of dby_47 (j := 34) rfl) (dby_of dby_47 (j := 35) rfl) rfl
theorem dL_law_3044 : decode cL_law 3044 = .ok (.ifCond .ne 15, 3) := dc_ifCond_ne (dby_of dby_47 (j := 36) rfl) (dby_of dby_47 (j := 37) rfl) (dby_of dby_47 (j := 38) rfl) (by decide)
theorem dL_law_3047 : decode cL_law 3047 = .ok (.aload_n 3, 1) := dc_aload_n_3 (dby_of dby_47 (j := 39) rfl)
theorem dL_law_3048 : decode cL_law 3048 = .ok (.iconst 0, 1) := dc_iconst_0 (dby_of dby_47 (j := 40) rfl)
theorem dL_law_3049 : decode cL_law 3049 = .ok (.laload, 1) := dc_laload (dby_of dby_47 (j := 41) rfl)
theorem dL_law_3050 : decode cL_law 3050 = .ok (.iload 6, 2) := dc_iload (dby_of dby_47 (j := 42) rfl) (dby_of dby_47 (j := 43) rfl) rfl
theorem dL_law_3052 : decode cL_law 3052 = .ok (.i2l, 1) := dc_i2l (dby_of dby_47 (j := 44) rfl)
theorem dL_law_3053 : decode cL_law 3053 = .ok (.lcmp, 1) := dc_lcmp (dby_of dby_47 (j := 45) rfl)
theorem dL_law_3054 : decode cL_law 3054 = .ok (.ifCond .eq 5, 3) := dc_ifCond_eq (dby_of dby_47 (j := 46) rfl) (dby_of dby_47 (j := 47) rfl) (dby_of dby_47 (j := 48) rfl) (by decide)
theorem dL_law_3057 : decode cL_law 3057 = .ok (.iconst 0, 1) := dc_iconst_0 (dby_of dby_47 (j := 49) rfl)
theorem dL_law_3058 : decode cL_law 3058 = .ok (.ireturn, 1) := dc_ireturn (dby_of dby_47 (j := 50) rfl)
theorem dL_law_3059 : decode cL_law 3059 = .ok (.goto 1492, 3) := dc_goto (dby_of dby_47 (j := 51) rfl) (dby_of dby_47 (j := 52) rfl) (dby_of dby_47 (j := 53) rfl) (by decide)
theorem dL_law_3062 : decode cL_law 3062 = .ok (.aload_n 1, 1) := dc_aload_n_1 (dby_of dby_47 (j := 54) rfl)
theorem dL_law_3063 : decode cL_law 3063 = .ok (.aload_n 0, 1) := dc_aload_n_0 (dby_of dby_47 (j := 55) rfl)
theorem dL_law_3064 : decode cL_law 3064 = .ok (.iload 4, 2) := dc_iload (dby_of dby_47 (j := 56) rfl) (dby_of dby_47 (j := 57) rfl) rfl
theorem dL_law_3066 : decode cL_law 3066 = .ok (.iconst 1, 1) := dc_iconst_1 (dby_of dby_47 (j := 58) rfl)
theorem dL_law_3067 : decode cL_law 3067 = .ok (.iadd, 1) := dc_iadd (dby_of dby_47 (j := 59) rfl)
theorem dL_law_3068 : decode cL_law 3068 = .ok (.iaload, 1) := dc_iaload (dby_of dby_47 (j := 60) rfl)
theorem dL_law_3069 : decode cL_law 3069 = .ok (.aload_n 0, 1) := dc_aload_n_0 (dby_of dby_47 (j := 61) rfl)
theorem dL_law_3070 : decode cL_law 3070 = .ok (.iload 4, 2) := dc_iload (dby_of dby_47 (j := 62) rfl) (dby_of dby_47 (j := 63) rfl) rfl
theorem dL_law_3072 : decode cL_law 3072 = .ok (.iconst 2, 1) := dc_iconst_2 (dby_of dby_48 (j := 0) rfl)
theorem dL_law_3073 : decode cL_law 3073 = .ok (.iadd, 1) := dc_iadd (dby_of dby_48 (j := 1) rfl)
theorem dL_law_3074 : decode cL_law 3074 = .ok (.iaload, 1) := dc_iaload (dby_of dby_48 (j := 2) rfl)
theorem dL_law_3075 : decode cL_law 3075 = .ok (.aload_n 3, 1) := dc_aload_n_3 (dby_of dby_48 (j := 3) rfl)
theorem dL_law_3076 : decode cL_law 3076 = .ok (.invokestatic 301, 3) := dc_invokestatic (dby_of dby_48 (j := 4) rfl) (dby_of dby_48 (j := 5) rfl) (dby_of dby_48 (j := 6) rfl) rfl
theorem dL_law_3079 : decode cL_law 3079 = .ok (.istore 5, 2) := dc_istore (dby_of dby_48 (j := 7) rfl) (dby_of dby_48 (j := 8) rfl) rfl
theorem dL_law_3081 : decode cL_law 3081 = .ok (.aload_n 2, 1) := dc_aload_n_2 (dby_of dby_48 (j := 9) rfl)
theorem dL_law_3082 : decode cL_law 3082 = .ok (.aload_n 0, 1) := dc_aload_n_0 (dby_of dby_48 (j := 10) rfl)
theorem dL_law_3083 : decode cL_law 3083 = .ok (.iload 4, 2) := dc_iload (dby_of dby_48 (j := 11) rfl) (dby_of dby_48 (j := 12) rfl) rfl
theorem dL_law_3085 : decode cL_law 3085 = .ok (.iconst 1, 1) := dc_iconst_1 (dby_of dby_48 (j := 13) rfl)
theorem dL_law_3086 : decode cL_law 3086 = .ok (.iadd, 1) := dc_iadd (dby_of dby_48 (j := 14) rfl)
theorem dL_law_3087 : decode cL_law 3087 = .ok (.iaload, 1) := dc_iaload (dby_of dby_48 (j := 15) rfl)
theorem dL_law_3088 : decode cL_law 3088 = .ok (.aload_n 0, 1) := dc_aload_n_0 (dby_of dby_48 (j := 16) rfl)
theorem dL_law_3089 : decode cL_law 3089 = .ok (.iload 4, 2) := dc_iload (dby_of dby_48 (j := 17) rfl) (dby_of dby_48 (j := 18) rfl) rfl
theorem dL_law_3091 : decode cL_law 3091 = .ok (.iconst 2, 1) := dc_iconst_2 (dby_of dby_48 (j := 19) rfl)
theorem dL_law_3092 : decode cL_law 3092 = .ok (.iadd, 1) := dc_iadd (dby_of dby_48 (j := 20) rfl)
theorem dL_law_3093 : decode cL_law 3093 = .ok (.iaload, 1) := dc_iaload (dby_of dby_48 (j := 21) rfl)
theorem dL_law_3094 : decode cL_law 3094 = .ok (.invokevirtual 303, 3) := dc_invokevirtual (dby_of dby_48 (j := 22) rfl) (dby_of dby_48 (j := 23) rfl) (dby_of dby_48 (j := 24) rfl) rfl
theorem dL_law_3097 : decode cL_law 3097 = .ok (.istore 6, 2) := dc_istore (dby_of dby_48 (j := 25) rfl) (dby_of dby_48 (j := 26) rfl) rfl
theorem dL_law_3099 : decode cL_law 3099 = .ok (.aload_n 2, 1) := dc_aload_n_2 (dby_of dby_48 (j := 27) rfl)
theorem dL_law_3100 : decode cL_law 3100 = .ok (.invokevirtual 183, 3) := dc_invokevirtual (dby_of dby_48 (j := 28) rfl) (dby_of dby_48 (j := 29) rfl) (dby_of dby_48 (j := 30) rfl) rfl
theorem dL_law_3103 : decode cL_law 3103 = .ok (.iload 5, 2) := dc_iload (dby_of dby_48 (j := 31) rfl) (dby_of dby_48 (j := 32) rfl) rfl
theorem dL_law_3105 : decode cL_law 3105 = .ok (.if_icmp .eq 5, 3) := dc_if_icmp_eq (dby_of dby_48 (j := 33) rfl) (dby_of dby_48 (j := 34) rfl) (dby_of dby_48 (j := 35) rfl) (by decide)
theorem dL_law_3108 : decode cL_law 3108 = .ok (.iconst 0, 1) := dc_iconst_0 (dby_of dby_48 (j := 36) rfl)
theorem dL_law_3109 : decode cL_law 3109 = .ok (.ireturn, 1) := dc_ireturn (dby_of dby_48 (j := 37) rfl)
theorem dL_law_3110 : decode cL_law 3110 = .ok (.iload 5, 2) := dc_iload (dby_of dby_48 (j := 38) rfl) (dby_of dby_48 (j := 39) rfl) rfl
theorem dL_law_3112 : decode cL_law 3112 = .ok (.ifCond .ne 22, 3) := dc_ifCond_ne (dby_of dby_48 (j := 40) rfl) (dby_of dby_48 (j := 41) rfl) (dby_of dby_48 (j := 42) rfl) (by decide)
theorem dL_law_3115 : decode cL_law 3115 = .ok (.aload_n 3, 1) := dc_aload_n_3 (dby_of dby_48 (j := 43) rfl)
theorem dL_law_3116 : decode cL_law 3116 = .ok (.iconst 0, 1) := dc_iconst_0 (dby_of dby_48 (j := 44) rfl)
theorem dL_law_3117 : decode cL_law 3117 = .ok (.laload, 1) := dc_laload (dby_of dby_48 (j := 45) rfl)
theorem dL_law_3118 : decode cL_law 3118 = .ok (.iload 6, 2) := dc_iload (dby_of dby_48 (j := 46) rfl) (dby_of dby_48 (j := 47) rfl) rfl
theorem dL_law_3120 : decode cL_law 3120 = .ok (.ifCond .eq 7, 3) := dc_ifCond_eq (dby_of dby_48 (j := 48) rfl) (dby_of dby_48 (j := 49) rfl) (dby_of dby_48 (j := 50) rfl) (by decide)
theorem dL_law_3123 : decode cL_law 3123 = .ok (.lconst 1, 1) := dc_lconst_1 (dby_of dby_48 (j := 51) rfl)
theorem dL_law_3124 : decode cL_law 3124 = .ok (.goto 4, 3) := dc_goto (dby_of dby_48 (j := 52) rfl) (dby_of dby_48 (j := 53) rfl) (dby_of dby_48 (j := 54) rfl) (by decide)
theorem dL_law_3127 : decode cL_law 3127 = .ok (.lconst 0, 1) := dc_lconst_0 (dby_of dby_48 (j := 55) rfl)
theorem dL_law_3128 : decode cL_law 3128 = .ok (.lcmp, 1) := dc_lcmp (dby_of dby_48 (j := 56) rfl)
theorem dL_law_3129 : decode cL_law 3129 = .ok (.ifCond .eq 5, 3) := dc_ifCond_eq (dby_of dby_48 (j := 57) rfl) (dby_of dby_48 (j := 58) rfl) (dby_of dby_48 (j := 59) rfl) (by decide)
theorem dL_law_3132 : decode cL_law 3132 = .ok (.iconst 0, 1) := dc_iconst_0 (dby_of dby_48 (j := 60) rfl)
theorem dL_law_3133 : decode cL_law 3133 = .ok (.ireturn, 1) := dc_ireturn (dby_of dby_48 (j := 61) rfl)
theorem dL_law_3134 : decode cL_law 3134 = .ok (.goto 1417, 3) := dc_goto (dby_of dby_48 (j := 62) rfl) (dby_of dby_48 (j := 63) rfl) (dby_of dby_49 (j := 0) rfl) (by decide)
theorem dL_law_3137 : decode cL_law 3137 = .ok (.aload_n 1, 1) := dc_aload_n_1 (dby_of dby_49 (j := 1) rfl)
theorem dL_law_3138 : decode cL_law 3138 = .ok (.aload_n 0, 1) := dc_aload_n_0 (dby_of dby_49 (j := 2) rfl)
theorem dL_law_3139 : decode cL_law 3139 = .ok (.iload 4, 2) := dc_iload (dby_of dby_49 (j := 3) rfl) (dby_of dby_49 (j := 4) rfl) rfl
theorem dL_law_3141 : decode cL_law 3141 = .ok (.iconst 1, 1) := dc_iconst_1 (dby_of dby_49 (j := 5) rfl)
theorem dL_law_3142 : decode cL_law 3142 = .ok (.iadd, 1) := dc_iadd (dby_of dby_49 (j := 6) rfl)
theorem dL_law_3143 : decode cL_law 3143 = .ok (.iaload, 1) := dc_iaload (dby_of dby_49 (j := 7) rfl)
theorem dL_law_3144 : decode cL_law 3144 = .ok (.ifCond .eq 7, 3) := dc_ifCond_eq (dby_of dby_49 (j := 8) rfl) (dby_of dby_49 (j := 9) rfl) (dby_of dby_49 (j := 10) rfl) (by decide)
theorem dL_law_3147 : decode cL_law 3147 = .ok (.iconst 1, 1) := dc_iconst_1 (dby_of dby_49 (j := 11) rfl)
theorem dL_law_3148 : decode cL_law 3148 = .ok (.goto 4, 3) := dc_goto (dby_of dby_49 (j := 12) rfl) (dby_of dby_49 (j := 13) rfl) (dby_of dby_49 (j := 14) rfl) (by decide)
theorem dL_law_3151 : decode cL_law 3151 = .ok (.iconst 0, 1) := dc_iconst_0 (dby_of dby_49 (j := 15) rfl)
theorem dL_law_3152 : decode cL_law 3152 = .ok (.invokevirtual 304, 3) := dc_invokevirtual (dby_of dby_49 (j := 16) rfl) (dby_of dby_49 (j := 17) rfl) (dby_of dby_49 (j := 18) rfl) rfl
theorem dL_law_3155 : decode cL_law 3155 = .ok (.aload_n 2, 1) := dc_aload_n_2 (dby_of dby_49 (j := 19) rfl)
theorem dL_law_3156 : decode cL_law 3156 = .ok (.aload_n 0, 1) := dc_aload_n_0 (dby_of dby_49 (j := 20) rfl)
theorem dL_law_3157 : decode cL_law 3157 = .ok (.iload 4, 2) := dc_iload (dby_of dby_49 (j := 21) rfl) (dby_of dby_49 (j := 22) rfl) rfl
theorem dL_law_3159 : decode cL_law 3159 = .ok (.iconst 1, 1) := dc_iconst_1 (dby_of dby_49 (j := 23) rfl)
theorem dL_law_3160 : decode cL_law 3160 = .ok (.iadd, 1) := dc_iadd (dby_of dby_49 (j := 24) rfl)
theorem dL_law_3161 : decode cL_law 3161 = .ok (.iaload, 1) := dc_iaload (dby_of dby_49 (j := 25) rfl)
theorem dL_law_3162 : decode cL_law 3162 = .ok (.ifCond .eq 7, 3) := dc_ifCond_eq (dby_of dby_49 (j := 26) rfl) (dby_of dby_49 (j := 27) rfl) (dby_of dby_49 (j := 28) rfl) (by decide)
theorem dL_law_3165 : decode cL_law 3165 = .ok (.iconst 1, 1) := dc_iconst_1 (dby_of dby_49 (j := 29) rfl)
theorem dL_law_3166 : decode cL_law 3166 = .ok (.goto 4, 3) := dc_goto (dby_of dby_49 (j := 30) rfl) (dby_of dby_49 (j := 31) rfl) (dby_of dby_49 (j := 32) rfl) (by decide)
theorem dL_law_3169 : decode cL_law 3169 = .ok (.iconst 0, 1) := dc_iconst_0 (dby_of dby_49 (j := 33) rfl)
theorem dL_law_3170 : decode cL_law 3170 = .ok (.invokevirtual 307, 3) := dc_invokevirtual (dby_of dby_49 (j := 34) rfl) (dby_of dby_49 (j := 35) rfl) (dby_of dby_49 (j := 36) rfl) rfl
theorem dL_law_3173 : decode cL_law 3173 = .ok (.if_icmp .eq 1378, 3) := dc_if_icmp_eq (dby_of dby_49 (j := 37) rfl) (dby_of dby_49 (j := 38) rfl) (dby_of dby_49 (j := 39) rfl) (by decide)
theorem dL_law_3176 : decode cL_law 3176 = .ok (.iconst 0, 1) := dc_iconst_0 (dby_of dby_49 (j := 40) rfl)
theorem dL_law_3177 : decode cL_law 3177 = .ok (.ireturn, 1) := dc_ireturn (dby_of dby_49 (j := 41) rfl)
theorem dL_law_3178 : decode cL_law 3178 = .ok (.aload_n 1, 1) := dc_aload_n_1 (dby_of dby_49 (j := 42) rfl)
theorem dL_law_3179 : decode cL_law 3179 = .ok (.aload_n 0, 1) := dc_aload_n_0 (dby_of dby_49 (j := 43) rfl)
theorem dL_law_3180 : decode cL_law 3180 = .ok (.iload 4, 2) := dc_iload (dby_of dby_49 (j := 44) rfl) (dby_of dby_49 (j := 45) rfl) rfl
theorem dL_law_3182 : decode cL_law 3182 = .ok (.iconst 1, 1) := dc_iconst_1 (dby_of dby_49 (j := 46) rfl)
theorem dL_law_3183 : decode cL_law 3183 = .ok (.iadd, 1) := dc_iadd (dby_of dby_49 (j := 47) rfl)
theorem dL_law_3184 : decode cL_law 3184 = .ok (.iaload, 1) := dc_iaload (dby_of dby_49 (j := 48) rfl)
theorem dL_law_3185 : decode cL_law 3185 = .ok (.aload_n 0, 1) := dc_aload_n_0 (dby_of dby_49 (j := 49) rfl)
theorem dL_law_3186 : decode cL_law 3186 = .ok (.iload 4, 2) := dc_iload (dby_of dby_49 (j := 50) rfl) (dby_of dby_49 (j := 51) rfl) rfl
theorem dL_law_3188 : decode cL_law 3188 = .ok (.iconst 2, 1) := dc_iconst_2 (dby_of dby_49 (j := 52) rfl)
theorem dL_law_3189 : decode cL_law 3189 = .ok (.iadd, 1) := dc_iadd (dby_of dby_49 (j := 53) rfl)
theorem dL_law_3190 : decode cL_law 3190 = .ok (.iaload, 1) := dc_iaload (dby_of dby_49 (j := 54) rfl)
theorem dL_law_3191 : decode cL_law 3191 = .ok (.ifCond .eq 7, 3) := dc_ifCond_eq (dby_of dby_49 (j := 55) rfl) (dby_of dby_49 (j := 56) rfl) (dby_of dby_49 (j := 57) rfl) (by decide)
theorem dL_law_3194 : decode cL_law 3194 = .ok (.iconst 1, 1) := dc_iconst_1 (dby_of dby_49 (j := 58) rfl)
theorem dL_law_3195 : decode cL_law 3195 = .ok (.goto 4, 3) := dc_goto (dby_of dby_49 (j := 59) rfl) (dby_of dby_49 (j := 60) rfl) (dby_of dby_49 (j := 61) rfl) (by decide)
theorem dL_law_3198 : decode cL_law 3198 = .ok (.iconst 0, 1) := dc_iconst_0 (dby_of dby_49 (j := 62) rfl)
theorem dL_law_3199 : decode cL_law 3199 = .ok (.aload_n 3, 1) := dc_aload_n_3 (dby_of dby_49 (j := 63) rfl)
theorem dL_law_3200 : decode cL_law 3200 = .ok (.invokestatic 308, 3) := dc_invokestatic (dby_of dby_50 (j := 0) rfl) (dby_of dby_50 (j := 1) rfl) (dby_of dby_50 (j := 2) rfl) rfl
theorem dL_law_3203 : decode cL_law 3203 = .ok (.istore 5, 2) := dc_istore (dby_of dby_50 (j := 3) rfl) (dby_of dby_50 (j := 4) rfl) rfl
theorem dL_law_3205 : decode cL_law 3205 = .ok (.aload_n 2, 1) := dc_aload_n_2 (dby_of dby_50 (j := 5) rfl)
theorem dL_law_3206 : decode cL_law 3206 = .ok (.aload_n 0, 1) := dc_aload_n_0 (dby_of dby_50 (j := 6) rfl)
theorem dL_law_3207 : decode cL_law 3207 = .ok (.iload 4, 2) := dc_iload (dby_of dby_50 (j := 7) rfl) (dby_of dby_50 (j := 8) rfl) rfl
theorem dL_law_3209 : decode cL_law 3209 = .ok (.iconst 1, 1) := dc_iconst_1 (dby_of dby_50 (j := 9) rfl)
theorem dL_law_3210 : decode cL_law 3210 = .ok (.iadd, 1) := dc_iadd (dby_of dby_50 (j := 10) rfl)
theorem dL_law_3211 : decode cL_law 3211 = .ok (.iaload, 1) := dc_iaload (dby_of dby_50 (j := 11) rfl)
theorem dL_law_3212 : decode cL_law 3212 = .ok (.aload_n 0, 1) := dc_aload_n_0 (dby_of dby_50 (j := 12) rfl)
theorem dL_law_3213 : decode cL_law 3213 = .ok (.iload 4, 2) := dc_iload (dby_of dby_50 (j := 13) rfl) (dby_of dby_50 (j := 14) rfl) rfl
theorem dL_law_3215 : decode cL_law 3215 = .ok (.iconst 2, 1) := dc_iconst_2 (dby_of dby_50 (j := 15) rfl)
theorem dL_law_3216 : decode cL_law 3216 = .ok (.iadd, 1) := dc_iadd (dby_of dby_50 (j := 16) rfl)
theorem dL_law_3217 : decode cL_law 3217 = .ok (.iaload, 1) := dc_iaload (dby_of dby_50 (j := 17) rfl)
theorem dL_law_3218 : decode cL_law 3218 = .ok (.ifCond .eq 7, 3) := dc_ifCond_eq (dby_of dby_50 (j := 18) rfl) (dby_of dby_50 (j := 19) rfl) (dby_of dby_50 (j := 20) rfl) (by decide)
theorem dL_law_3221 : decode cL_law 3221 = .ok (.iconst 1, 1) := dc_iconst_1 (dby_of dby_50 (j := 21) rfl)
theorem dL_law_3222 : decode cL_law 3222 = .ok (.goto 4, 3) := dc_goto (dby_of dby_50 (j := 22) rfl) (dby_of dby_50 (j := 23) rfl) (dby_of dby_50 (j := 24) rfl) (by decide)
theorem dL_law_3225 : decode cL_law 3225 = .ok (.iconst 0, 1) := dc_iconst_0 (dby_of dby_50 (j := 25) rfl)
theorem dL_law_3226 : decode cL_law 3226 = .ok (.invokevirtual 310, 3) := dc_invokevirtual (dby_of dby_50 (j := 26) rfl) (dby_of dby_50 (j := 27) rfl) (dby_of dby_50 (j := 28) rfl) rfl
theorem dL_law_3229 : decode cL_law 3229 = .ok (.istore 6, 2) := dc_istore (dby_of dby_50 (j := 29) rfl) (dby_of dby_50 (j := 30) rfl) rfl
theorem dL_law_3231 : decode cL_law 3231 = .ok (.aload_n 2, 1) := dc_aload_n_2 (dby_of dby_50 (j := 31) rfl)
theorem dL_law_3232 : decode cL_law 3232 = .ok (.invokevirtual 183, 3) := dc_invokevirtual (dby_of dby_50 (j := 32) rfl) (dby_of dby_50 (j := 33) rfl) (dby_of dby_50 (j := 34) rfl) rfl
theorem dL_law_3235 : decode cL_law 3235 = .ok (.iload 5, 2) := dc_iload (dby_of dby_50 (j := 35) rfl) (dby_of dby_50 (j := 36) rfl) rfl
theorem dL_law_3237 : decode cL_law 3237 = .ok (.if_icmp .eq 5, 3) := dc_if_icmp_eq (dby_of dby_50 (j := 37) rfl) (dby_of dby_50 (j := 38) rfl) (dby_of dby_50 (j := 39) rfl) (by decide)
theorem dL_law_3240 : decode cL_law 3240 = .ok (.iconst 0, 1) := dc_iconst_0 (dby_of dby_50 (j := 40) rfl)
theorem dL_law_3241 : decode cL_law 3241 = .ok (.ireturn, 1) := dc_ireturn (dby_of dby_50 (j := 41) rfl)
theorem dL_law_3242 : decode cL_law 3242 = .ok (.iload 5, 2) := dc_iload (dby_of dby_50 (j := 42) rfl) (dby_of dby_50 (j := 43) rfl) rfl
theorem dL_law_3244 : decode cL_law 3244 = .ok (.ifCond .ne 22, 3) := dc_ifCond_ne (dby_of dby_50 (j := 44) rfl) (dby_of dby_50 (j := 45) rfl) (dby_of dby_50 (j := 46) rfl) (by decide)
theorem dL_law_3247 : decode cL_law 3247 = .ok (.aload_n 3, 1) := dc_aload_n_3 (dby_of dby_50 (j := 47) rfl)
theorem dL_law_3248 : decode cL_law 3248 = .ok (.iconst 0, 1) := dc_iconst_0 (dby_of dby_50 (j := 48) rfl)
theorem dL_law_3249 : decode cL_law 3249 = .ok (.laload, 1) := dc_laload (dby_of dby_50 (j := 49) rfl)
theorem dL_law_3250 : decode cL_law 3250 = .ok (.iload 6, 2) := dc_iload (dby_of dby_50 (j := 50) rfl) (dby_of dby_50 (j := 51) rfl) rfl
theorem dL_law_3252 : decode cL_law 3252 = .ok (.ifCond .eq 7, 3) := dc_ifCond_eq (dby_of dby_50 (j := 52) rfl) (dby_of dby_50 (j := 53) rfl) (dby_of dby_50 (j := 54) rfl) (by decide)
theorem dL_law_3255 : decode cL_law 3255 = .ok (.lconst 1, 1) := dc_lconst_1 (dby_of dby_50 (j := 55) rfl)
theorem dL_law_3256 : decode cL_law 3256 = .ok (.goto 4, 3) := dc_goto (dby_of dby_50 (j := 56) rfl) (dby_of dby_50 (j := 57) rfl) (dby_of dby_50 (j := 58) rfl) (by decide)
theorem dL_law_3259 : decode cL_law 3259 = .ok (.lconst 0, 1) := dc_lconst_0 (dby_of dby_50 (j := 59) rfl)
theorem dL_law_3260 : decode cL_law 3260 = .ok (.lcmp, 1) := dc_lcmp (dby_of dby_50 (j := 60) rfl)
theorem dL_law_3261 : decode cL_law 3261 = .ok (.ifCond .eq 5, 3) := dc_ifCond_eq (dby_of dby_50 (j := 61) rfl) (dby_of dby_50 (j := 62) rfl) (dby_of dby_50 (j := 63) rfl) (by decide)
theorem dL_law_3264 : decode cL_law 3264 = .ok (.iconst 0, 1) := dc_iconst_0 (dby_of dby_51 (j := 0) rfl)
theorem dL_law_3265 : decode cL_law 3265 = .ok (.ireturn, 1) := dc_ireturn (dby_of dby_51 (j := 1) rfl)
theorem dL_law_3266 : decode cL_law 3266 = .ok (.goto 1285, 3) := dc_goto (dby_of dby_51 (j := 2) rfl) (dby_of dby_51 (j := 3) rfl) (dby_of dby_51 (j := 4) rfl) (by decide)
theorem dL_law_3269 : decode cL_law 3269 = .ok (.aload_n 1, 1) := dc_aload_n_1 (dby_of dby_51 (j := 5) rfl)
theorem dL_law_3270 : decode cL_law 3270 = .ok (.aload_n 0, 1) := dc_aload_n_0 (dby_of dby_51 (j := 6) rfl)
theorem dL_law_3271 : decode cL_law 3271 = .ok (.iload 4, 2) := dc_iload (dby_of dby_51 (j := 7) rfl) (dby_of dby_51 (j := 8) rfl) rfl
theorem dL_law_3273 : decode cL_law 3273 = .ok (.iconst 1, 1) := dc_iconst_1 (dby_of dby_51 (j := 9) rfl)
theorem dL_law_3274 : decode cL_law 3274 = .ok (.iadd, 1) := dc_iadd (dby_of dby_51 (j := 10) rfl)
theorem dL_law_3275 : decode cL_law 3275 = .ok (.iaload, 1) := dc_iaload (dby_of dby_51 (j := 11) rfl)
theorem dL_law_3276 : decode cL_law 3276 = .ok (.i2l, 1) := dc_i2l (dby_of dby_51 (j := 12) rfl)
theorem dL_law_3277 : decode cL_law 3277 = .ok (.bipush 32, 2) := dc_bipush (dby_of dby_51 (j := 13) rfl) (dby_of dby_51 (j := 14) rfl) (by decide)
theorem dL_law_3279 : decode cL_law 3279 = .ok (.lshl, 1) := dc_lshl (dby_of dby_51 (j := 15) rfl)
theorem dL_law_3280 : decode cL_law 3280 = .ok (.aload_n 0, 1) := dc_aload_n_0 (dby_of dby_51 (j := 16) rfl)
theorem dL_law_3281 : decode cL_law 3281 = .ok (.iload 4, 2) := dc_iload (dby_of dby_51 (j := 17) rfl) (dby_of dby_51 (j := 18) rfl) rfl
theorem dL_law_3283 : decode cL_law 3283 = .ok (.iconst 2, 1) := dc_iconst_2 (dby_of dby_51 (j := 19) rfl)
theorem dL_law_3284 : decode cL_law 3284 = .ok (.iadd, 1) := dc_iadd (dby_of dby_51 (j := 20) rfl)
theorem dL_law_3285 : decode cL_law 3285 = .ok (.iaload, 1) := dc_iaload (dby_of dby_51 (j := 21) rfl)
theorem dL_law_3286 : decode cL_law 3286 = .ok (.i2l, 1) := dc_i2l (dby_of dby_51 (j := 22) rfl)
theorem dL_law_3287 : decode cL_law 3287 = .ok (.ldc2_w 261, 3) := dc_ldc2_w (dby_of dby_51 (j := 23) rfl) (dby_of dby_51 (j := 24) rfl) (dby_of dby_51 (j := 25) rfl) rfl
theorem dL_law_3290 : decode cL_law 3290 = .ok (.land, 1) := dc_land (dby_of dby_51 (j := 26) rfl)
theorem dL_law_3291 : decode cL_law 3291 = .ok (.lor, 1) := dc_lor (dby_of dby_51 (j := 27) rfl)
theorem dL_law_3292 : decode cL_law 3292 = .ok (.aload_n 3, 1) := dc_aload_n_3 (dby_of dby_51 (j := 28) rfl)
theorem dL_law_3293 : decode cL_law 3293 = .ok (.invokestatic 311, 3) := dc_invokestatic (dby_of dby_51 (j := 29) rfl) (dby_of dby_51 (j := 30) rfl) (dby_of dby_51 (j := 31) rfl) rfl
theorem dL_law_3296 : decode cL_law 3296 = .ok (.istore 5, 2) := dc_istore (dby_of dby_51 (j := 32) rfl) (dby_of dby_51 (j := 33) rfl) rfl
theorem dL_law_3298 : decode cL_law 3298 = .ok (.aload_n 2, 1) := dc_aload_n_2 (dby_of dby_51 (j := 34) rfl)
theorem dL_law_3299 : decode cL_law 3299 = .ok (.aload_n 0, 1) := dc_aload_n_0 (dby_of dby_51 (j := 35) rfl)
theorem dL_law_3300 : decode cL_law 3300 = .ok (.iload 4, 2) := dc_iload (dby_of dby_51 (j := 36) rfl) (dby_of dby_51 (j := 37) rfl) rfl
theorem dL_law_3302 : decode cL_law 3302 = .ok (.iconst 1, 1) := dc_iconst_1 (dby_of dby_51 (j := 38) rfl)
theorem dL_law_3303 : decode cL_law 3303 = .ok (.iadd, 1) := dc_iadd (dby_of dby_51 (j := 39) rfl)
theorem dL_law_3304 : decode cL_law 3304 = .ok (.iaload, 1) := dc_iaload (dby_of dby_51 (j := 40) rfl)
theorem dL_law_3305 : decode cL_law 3305 = .ok (.i2l, 1) := dc_i2l (dby_of dby_51 (j := 41) rfl)
theorem dL_law_3306 : decode cL_law 3306 = .ok (.bipush 32, 2) := dc_bipush (dby_of dby_51 (j := 42) rfl) (dby_of dby_51 (j := 43) rfl) (by decide)
theorem dL_law_3308 : decode cL_law 3308 = .ok (.lshl, 1) := dc_lshl (dby_of dby_51 (j := 44) rfl)
theorem dL_law_3309 : decode cL_law 3309 = .ok (.aload_n 0, 1) := dc_aload_n_0 (dby_of dby_51 (j := 45) rfl)
theorem dL_law_3310 : decode cL_law 3310 = .ok (.iload 4, 2) := dc_iload (dby_of dby_51 (j := 46) rfl) (dby_of dby_51 (j := 47) rfl) rfl
theorem dL_law_3312 : decode cL_law 3312 = .ok (.iconst 2, 1) := dc_iconst_2 (dby_of dby_51 (j := 48) rfl)
theorem dL_law_3313 : decode cL_law 3313 = .ok (.iadd, 1) := dc_iadd (dby_of dby_51 (j := 49) rfl)
theorem dL_law_3314 : decode cL_law 3314 = .ok (.iaload, 1) := dc_iaload (dby_of dby_51 (j := 50) rfl)
theorem dL_law_3315 : decode cL_law 3315 = .ok (.i2l, 1) := dc_i2l (dby_of dby_51 (j := 51) rfl)
theorem dL_law_3316 : decode cL_law 3316 = .ok (.ldc2_w 261, 3) := dc_ldc2_w (dby_of dby_51 (j := 52) rfl) (dby_of dby_51 (j := 53) rfl) (dby_of dby_51 (j := 54) rfl) rfl
theorem dL_law_3319 : decode cL_law 3319 = .ok (.land, 1) := dc_land (dby_of dby_51 (j := 55) rfl)
theorem dL_law_3320 : decode cL_law 3320 = .ok (.lor, 1) := dc_lor (dby_of dby_51 (j := 56) rfl)
theorem dL_law_3321 : decode cL_law 3321 = .ok (.invokevirtual 314, 3) := dc_invokevirtual (dby_of dby_51 (j := 57) rfl) (dby_of dby_51 (j := 58) rfl) (dby_of dby_51 (j := 59) rfl) rfl
theorem dL_law_3324 : decode cL_law 3324 = .ok (.istore 6, 2) := dc_istore (dby_of dby_51 (j := 60) rfl) (dby_of dby_51 (j := 61) rfl) rfl
theorem dL_law_3326 : decode cL_law 3326 = .ok (.aload_n 2, 1) := dc_aload_n_2 (dby_of dby_51 (j := 62) rfl)
theorem dL_law_3327 : decode cL_law 3327 = .ok (.invokevirtual 183, 3) := dc_invokevirtual (dby_of dby_51 (j := 63) rfl) (dby_of dby_52 (j := 0) rfl) (dby_of dby_52 (j := 1) rfl) rfl
theorem dL_law_3330 : decode cL_law 3330 = .ok (.iload 5, 2) := dc_iload (dby_of dby_52 (j := 2) rfl) (dby_of dby_52 (j := 3) rfl) rfl
theorem dL_law_3332 : decode cL_law 3332 = .ok (.if_icmp .eq 5, 3) := dc_if_icmp_eq (dby_of dby_52 (j := 4) rfl) (dby_of dby_52 (j := 5) rfl) (dby_of dby_52 (j := 6) rfl) (by decide)
theorem dL_law_3335 : decode cL_law 3335 = .ok (.iconst 0, 1) := dc_iconst_0 (dby_of dby_52 (j := 7) rfl)
theorem dL_law_3336 : decode cL_law 3336 = .ok (.ireturn, 1) := dc_ireturn (dby_of dby_52 (j := 8) rfl)
theorem dL_law_3337 : decode cL_law 3337 = .ok (.iload 5, 2) := dc_iload (dby_of dby_52 (j := 9) rfl) (dby_of dby_52 (j := 10) rfl) rfl
theorem dL_law_3339 : decode cL_law 3339 = .ok (.ifCond .ne 15, 3) := dc_ifCond_ne (dby_of dby_52 (j := 11) rfl) (dby_of dby_52 (j := 12) rfl) (dby_of dby_52 (j := 13) rfl) (by decide)
theorem dL_law_3342 : decode cL_law 3342 = .ok (.aload_n 3, 1) := dc_aload_n_3 (dby_of dby_52 (j := 14) rfl)
theorem dL_law_3343 : decode cL_law 3343 = .ok (.iconst 0, 1) := dc_iconst_0 (dby_of dby_52 (j := 15) rfl)
theorem dL_law_3344 : decode cL_law 3344 = .ok (.laload, 1) := dc_laload (dby_of dby_52 (j := 16) rfl)
theorem dL_law_3345 : decode cL_law 3345 = .ok (.iload 6, 2) := dc_iload (dby_of dby_52 (j := 17) rfl) (dby_of dby_52 (j := 18) rfl) rfl
theorem dL_law_3347 : decode cL_law 3347 = .ok (.i2l, 1) := dc_i2l (dby_of dby_52 (j := 19) rfl)
theorem dL_law_3348 : decode cL_law 3348 = .ok (.lcmp, 1) := dc_lcmp (dby_of dby_52 (j := 20) rfl)
theorem dL_law_3349 : decode cL_law 3349 = .ok (.ifCond .eq 5, 3) := dc_ifCond_eq (dby_of dby_52 (j := 21) rfl) (dby_of dby_52 (j := 22) rfl) (dby_of dby_52 (j := 23) rfl) (by decide)
theorem dL_law_3352 : decode cL_law 3352 = .ok (.iconst 0, 1) := dc_iconst_0 (dby_of dby_52 (j := 24) rfl)
theorem dL_law_3353 : decode cL_law 3353 = .ok (.ireturn, 1) := dc_ireturn (dby_of dby_52 (j := 25) rfl)
theorem dL_law_3354 : decode cL_law 3354 = .ok (.goto 1197, 3) := dc_goto (dby_of dby_52 (j := 26) rfl) (dby_of dby_52 (j := 27) rfl) (dby_of dby_52 (j := 28) rfl) (by decide)
theorem dL_law_3357 : decode cL_law 3357 = .ok (.aload_n 1, 1) := dc_aload_n_1 (dby_of dby_52 (j := 29) rfl)
theorem dL_law_3358 : decode cL_law 3358 = .ok (.aload_n 0, 1) := dc_aload_n_0 (dby_of dby_52 (j := 30) rfl)
theorem dL_law_3359 : decode cL_law 3359 = .ok (.iload 4, 2) := dc_iload (dby_of dby_52 (j := 31) rfl) (dby_of dby_52 (j := 32) rfl) rfl
theorem dL_law_3361 : decode cL_law 3361 = .ok (.iconst 1, 1) := dc_iconst_1 (dby_of dby_52 (j := 33) rfl)
theorem dL_law_3362 : decode cL_law 3362 = .ok (.iadd, 1) := dc_iadd (dby_of dby_52 (j := 34) rfl)
theorem dL_law_3363 : decode cL_law 3363 = .ok (.iaload, 1) := dc_iaload (dby_of dby_52 (j := 35) rfl)
theorem dL_law_3364 : decode cL_law 3364 = .ok (.aload_n 0, 1) := dc_aload_n_0 (dby_of dby_52 (j := 36) rfl)
theorem dL_law_3365 : decode cL_law 3365 = .ok (.iload 4, 2) := dc_iload (dby_of dby_52 (j := 37) rfl) (dby_of dby_52 (j := 38) rfl) rfl
theorem dL_law_3367 : decode cL_law 3367 = .ok (.iconst 2, 1) := dc_iconst_2 (dby_of dby_52 (j := 39) rfl)
theorem dL_law_3368 : decode cL_law 3368 = .ok (.iadd, 1) := dc_iadd (dby_of dby_52 (j := 40) rfl)
theorem dL_law_3369 : decode cL_law 3369 = .ok (.iaload, 1) := dc_iaload (dby_of dby_52 (j := 41) rfl)
theorem dL_law_3370 : decode cL_law 3370 = .ok (.ifCond .eq 7, 3) := dc_ifCond_eq (dby_of dby_52 (j := 42) rfl) (dby_of dby_52 (j := 43) rfl) (dby_of dby_52 (j := 44) rfl) (by decide)
theorem dL_law_3373 : decode cL_law 3373 = .ok (.iconst 1, 1) := dc_iconst_1 (dby_of dby_52 (j := 45) rfl)
theorem dL_law_3374 : decode cL_law 3374 = .ok (.goto 4, 3) := dc_goto (dby_of dby_52 (j := 46) rfl) (dby_of dby_52 (j := 47) rfl) (dby_of dby_52 (j := 48) rfl) (by decide)
theorem dL_law_3377 : decode cL_law 3377 = .ok (.iconst 0, 1) := dc_iconst_0 (dby_of dby_52 (j := 49) rfl)
theorem dL_law_3378 : decode cL_law 3378 = .ok (.aload_n 3, 1) := dc_aload_n_3 (dby_of dby_52 (j := 50) rfl)
theorem dL_law_3379 : decode cL_law 3379 = .ok (.invokestatic 315, 3) := dc_invokestatic (dby_of dby_52 (j := 51) rfl) (dby_of dby_52 (j := 52) rfl) (dby_of dby_52 (j := 53) rfl) rfl
theorem dL_law_3382 : decode cL_law 3382 = .ok (.istore 5, 2) := dc_istore (dby_of dby_52 (j := 54) rfl) (dby_of dby_52 (j := 55) rfl) rfl
theorem dL_law_3384 : decode cL_law 3384 = .ok (.aload_n 2, 1) := dc_aload_n_2 (dby_of dby_52 (j := 56) rfl)
theorem dL_law_3385 : decode cL_law 3385 = .ok (.aload_n 0, 1) := dc_aload_n_0 (dby_of dby_52 (j := 57) rfl)
theorem dL_law_3386 : decode cL_law 3386 = .ok (.iload 4, 2) := dc_iload (dby_of dby_52 (j := 58) rfl) (dby_of dby_52 (j := 59) rfl) rfl
theorem dL_law_3388 : decode cL_law 3388 = .ok (.iconst 1, 1) := dc_iconst_1 (dby_of dby_52 (j := 60) rfl)
theorem dL_law_3389 : decode cL_law 3389 = .ok (.iadd, 1) := dc_iadd (dby_of dby_52 (j := 61) rfl)
theorem dL_law_3390 : decode cL_law 3390 = .ok (.iaload, 1) := dc_iaload (dby_of dby_52 (j := 62) rfl)
theorem dL_law_3391 : decode cL_law 3391 = .ok (.aload_n 0, 1) := dc_aload_n_0 (dby_of dby_52 (j := 63) rfl)
theorem dL_law_3392 : decode cL_law 3392 = .ok (.iload 4, 2) := dc_iload (dby_of dby_53 (j := 0) rfl) (dby_of dby_53 (j := 1) rfl) rfl
theorem dL_law_3394 : decode cL_law 3394 = .ok (.iconst 2, 1) := dc_iconst_2 (dby_of dby_53 (j := 2) rfl)
theorem dL_law_3395 : decode cL_law 3395 = .ok (.iadd, 1) := dc_iadd (dby_of dby_53 (j := 3) rfl)
theorem dL_law_3396 : decode cL_law 3396 = .ok (.iaload, 1) := dc_iaload (dby_of dby_53 (j := 4) rfl)
theorem dL_law_3397 : decode cL_law 3397 = .ok (.ifCond .eq 7, 3) := dc_ifCond_eq (dby_of dby_53 (j := 5) rfl) (dby_of dby_53 (j := 6) rfl) (dby_of dby_53 (j := 7) rfl) (by decide)
theorem dL_law_3400 : decode cL_law 3400 = .ok (.iconst 1, 1) := dc_iconst_1 (dby_of dby_53 (j := 8) rfl)
theorem dL_law_3401 : decode cL_law 3401 = .ok (.goto 4, 3) := dc_goto (dby_of dby_53 (j := 9) rfl) (dby_of dby_53 (j := 10) rfl) (dby_of dby_53 (j := 11) rfl) (by decide)
theorem dL_law_3404 : decode cL_law 3404 = .ok (.iconst 0, 1) := dc_iconst_0 (dby_of dby_53 (j := 12) rfl)
theorem dL_law_3405 : decode cL_law 3405 = .ok (.invokevirtual 317, 3) := dc_invokevirtual (dby_of dby_53 (j := 13) rfl) (dby_of dby_53 (j := 14) rfl) (dby_of dby_53 (j := 15) rfl) rfl
theorem dL_law_3408 : decode cL_law 3408 = .ok (.istore 6, 2) := dc_istore (dby_of dby_53 (j := 16) rfl) (dby_of dby_53 (j := 17) rfl) rfl
theorem dL_law_3410 : decode cL_law 3410 = .ok (.aload_n 2, 1) := dc_aload_n_2 (dby_of dby_53 (j := 18) rfl)
theorem dL_law_3411 : decode cL_law 3411 = .ok (.invokevirtual 183, 3) := dc_invokevirtual (dby_of dby_53 (j := 19) rfl) (dby_of dby_53 (j := 20) rfl) (dby_of dby_53 (j := 21) rfl) rfl
theorem dL_law_3414 : decode cL_law 3414 = .ok (.iload 5, 2) := dc_iload (dby_of dby_53 (j := 22) rfl) (dby_of dby_53 (j := 23) rfl) rfl
theorem dL_law_3416 : decode cL_law 3416 = .ok (.if_icmp .eq 5, 3) := dc_if_icmp_eq (dby_of dby_53 (j := 24) rfl) (dby_of dby_53 (j := 25) rfl) (dby_of dby_53 (j := 26) rfl) (by decide)
theorem dL_law_3419 : decode cL_law 3419 = .ok (.iconst 0, 1) := dc_iconst_0 (dby_of dby_53 (j := 27) rfl)
theorem dL_law_3420 : decode cL_law 3420 = .ok (.ireturn, 1) := dc_ireturn (dby_of dby_53 (j := 28) rfl)
theorem dL_law_3421 : decode cL_law 3421 = .ok (.iload 5, 2) := dc_iload (dby_of dby_53 (j := 29) rfl) (dby_of dby_53 (j := 30) rfl) rfl
theorem dL_law_3423 : decode cL_law 3423 = .ok (.ifCond .ne 15, 3) := dc_ifCond_ne (dby_of dby_53 (j := 31) rfl) (dby_of dby_53 (j := 32) rfl) (dby_of dby_53 (j := 33) rfl) (by decide)
theorem dL_law_3426 : decode cL_law 3426 = .ok (.aload_n 3, 1) := dc_aload_n_3 (dby_of dby_53 (j := 34) rfl)
theorem dL_law_3427 : decode cL_law 3427 = .ok (.iconst 0, 1) := dc_iconst_0 (dby_of dby_53 (j := 35) rfl)
theorem dL_law_3428 : decode cL_law 3428 = .ok (.laload, 1) := dc_laload (dby_of dby_53 (j := 36) rfl)
theorem dL_law_3429 : decode cL_law 3429 = .ok (.iload 6, 2) := dc_iload (dby_of dby_53 (j := 37) rfl) (dby_of dby_53 (j := 38) rfl) rfl
theorem dL_law_3431 : decode cL_law 3431 = .ok (.i2l, 1) := dc_i2l (dby_of dby_53 (j := 39) rfl)
theorem dL_law_3432 : decode cL_law 3432 = .ok (.lcmp, 1) := dc_lcmp (dby_of dby_53 (j := 40) rfl)
theorem dL_law_3433 : decode cL_law 3433 = .ok (.ifCond .eq 5, 3) := dc_ifCond_eq (dby_of dby_53 (j := 41) rfl) (dby_of dby_53 (j := 42) rfl) (dby_of dby_53 (j := 43) rfl) (by decide)
theorem dL_law_3436 : decode cL_law 3436 = .ok (.iconst 0, 1) := dc_iconst_0 (dby_of dby_53 (j := 44) rfl)
theorem dL_law_3437 : decode cL_law 3437 = .ok (.ireturn, 1) := dc_ireturn (dby_of dby_53 (j := 45) rfl)
theorem dL_law_3438 : decode cL_law 3438 = .ok (.goto 1113, 3) := dc_goto (dby_of dby_53 (j := 46) rfl) (dby_of dby_53 (j := 47) rfl) (dby_of dby_53 (j := 48) rfl) (by decide)
theorem dL_law_3441 : decode cL_law 3441 = .ok (.aload_n 1, 1) := dc_aload_n_1 (dby_of dby_53 (j := 49) rfl)
theorem dL_law_3442 : decode cL_law 3442 = .ok (.aload_n 0, 1) := dc_aload_n_0 (dby_of dby_53 (j := 50) rfl)
theorem dL_law_3443 : decode cL_law 3443 = .ok (.iload 4, 2) := dc_iload (dby_of dby_53 (j := 51) rfl) (dby_of dby_53 (j := 52) rfl) rfl
theorem dL_law_3445 : decode cL_law 3445 = .ok (.iconst 1, 1) := dc_iconst_1 (dby_of dby_53 (j := 53) rfl)
theorem dL_law_3446 : decode cL_law 3446 = .ok (.iadd, 1) := dc_iadd (dby_of dby_53 (j := 54) rfl)
theorem dL_law_3447 : decode cL_law 3447 = .ok (.iaload, 1) := dc_iaload (dby_of dby_53 (j := 55) rfl)
theorem dL_law_3448 : decode cL_law 3448 = .ok (.i2l, 1) := dc_i2l (dby_of dby_53 (j := 56) rfl)
theorem dL_law_3449 : decode cL_law 3449 = .ok (.bipush 32, 2) := dc_bipush (dby_of dby_53 (j := 57) rfl) (dby_of dby_53 (j := 58) rfl) (by decide)
theorem dL_law_3451 : decode cL_law 3451 = .ok (.lshl, 1) := dc_lshl (dby_of dby_53 (j := 59) rfl)
theorem dL_law_3452 : decode cL_law 3452 = .ok (.aload_n 0, 1) := dc_aload_n_0 (dby_of dby_53 (j := 60) rfl)
theorem dL_law_3453 : decode cL_law 3453 = .ok (.iload 4, 2) := dc_iload (dby_of dby_53 (j := 61) rfl) (dby_of dby_53 (j := 62) rfl) rfl
theorem dL_law_3455 : decode cL_law 3455 = .ok (.iconst 2, 1) := dc_iconst_2 (dby_of dby_53 (j := 63) rfl)
theorem dL_law_3456 : decode cL_law 3456 = .ok (.iadd, 1) := dc_iadd (dby_of dby_54 (j := 0) rfl)
theorem dL_law_3457 : decode cL_law 3457 = .ok (.iaload, 1) := dc_iaload (dby_of dby_54 (j := 1) rfl)
theorem dL_law_3458 : decode cL_law 3458 = .ok (.i2l, 1) := dc_i2l (dby_of dby_54 (j := 2) rfl)
theorem dL_law_3459 : decode cL_law 3459 = .ok (.ldc2_w 261, 3) := dc_ldc2_w (dby_of dby_54 (j := 3) rfl) (dby_of dby_54 (j := 4) rfl) (dby_of dby_54 (j := 5) rfl) rfl
theorem dL_law_3462 : decode cL_law 3462 = .ok (.land, 1) := dc_land (dby_of dby_54 (j := 6) rfl)
theorem dL_law_3463 : decode cL_law 3463 = .ok (.lor, 1) := dc_lor (dby_of dby_54 (j := 7) rfl)
theorem dL_law_3464 : decode cL_law 3464 = .ok (.aload_n 0, 1) := dc_aload_n_0 (dby_of dby_54 (j := 8) rfl)
theorem dL_law_3465 : decode cL_law 3465 = .ok (.iload 4, 2) := dc_iload (dby_of dby_54 (j := 9) rfl) (dby_of dby_54 (j := 10) rfl) rfl
theorem dL_law_3467 : decode cL_law 3467 = .ok (.iconst 3, 1) := dc_iconst_3 (dby_of dby_54 (j := 11) rfl)
theorem dL_law_3468 : decode cL_law 3468 = .ok (.iadd, 1) := dc_iadd (dby_of dby_54 (j := 12) rfl)
theorem dL_law_3469 : decode cL_law 3469 = .ok (.iaload, 1) := dc_iaload (dby_of dby_54 (j := 13) rfl)
theorem dL_law_3470 : decode cL_law 3470 = .ok (.ifCond .eq 7, 3) := dc_ifCond_eq (dby_of dby_54 (j := 14) rfl) (dby_of dby_54 (j := 15) rfl) (dby_of dby_54 (j := 16) rfl) (by decide)
theorem dL_law_3473 : decode cL_law 3473 = .ok (.iconst 1, 1) := dc_iconst_1 (dby_of dby_54 (j := 17) rfl)
theorem dL_law_3474 : decode cL_law 3474 = .ok (.goto 4, 3) := dc_goto (dby_of dby_54 (j := 18) rfl) (dby_of dby_54 (j := 19) rfl) (dby_of dby_54 (j := 20) rfl) (by decide)
theorem dL_law_3477 : decode cL_law 3477 = .ok (.iconst 0, 1) := dc_iconst_0 (dby_of dby_54 (j := 21) rfl)
theorem dL_law_3478 : decode cL_law 3478 = .ok (.aload_n 0, 1) := dc_aload_n_0 (dby_of dby_54 (j := 22) rfl)
theorem dL_law_3479 : decode cL_law 3479 = .ok (.iload 4, 2) := dc_iload (dby_of dby_54 (j := 23) rfl) (dby_of dby_54 (j := 24) rfl) rfl
theorem dL_law_3481 : decode cL_law 3481 = .ok (.iconst 4, 1) := dc_iconst_4 (dby_of dby_54 (j := 25) rfl)
theorem dL_law_3482 : decode cL_law 3482 = .ok (.iadd, 1) := dc_iadd (dby_of dby_54 (j := 26) rfl)
theorem dL_law_3483 : decode cL_law 3483 = .ok (.iaload, 1) := dc_iaload (dby_of dby_54 (j := 27) rfl)
theorem dL_law_3484 : decode cL_law 3484 = .ok (.aload_n 0, 1) := dc_aload_n_0 (dby_of dby_54 (j := 28) rfl)
theorem dL_law_3485 : decode cL_law 3485 = .ok (.iload 4, 2) := dc_iload (dby_of dby_54 (j := 29) rfl) (dby_of dby_54 (j := 30) rfl) rfl
theorem dL_law_3487 : decode cL_law 3487 = .ok (.iconst 5, 1) := dc_iconst_5 (dby_of dby_54 (j := 31) rfl)
theorem dL_law_3488 : decode cL_law 3488 = .ok (.iadd, 1) := dc_iadd (dby_of dby_54 (j := 32) rfl)
theorem dL_law_3489 : decode cL_law 3489 = .ok (.iaload, 1) := dc_iaload (dby_of dby_54 (j := 33) rfl)
theorem dL_law_3490 : decode cL_law 3490 = .ok (.aload_n 3, 1) := dc_aload_n_3 (dby_of dby_54 (j := 34) rfl)
theorem dL_law_3491 : decode cL_law 3491 = .ok (.invokestatic 318, 3) := dc_invokestatic (dby_of dby_54 (j := 35) rfl) (dby_of dby_54 (j := 36) rfl) (dby_of dby_54 (j := 37) rfl) rfl
theorem dL_law_3494 : decode cL_law 3494 = .ok (.istore 5, 2) := dc_istore (dby_of dby_54 (j := 38) rfl) (dby_of dby_54 (j := 39) rfl) rfl
theorem dL_law_3496 : decode cL_law 3496 = .ok (.aload_n 2, 1) := dc_aload_n_2 (dby_of dby_54 (j := 40) rfl)
theorem dL_law_3497 : decode cL_law 3497 = .ok (.aload_n 0, 1) := dc_aload_n_0 (dby_of dby_54 (j := 41) rfl)
theorem dL_law_3498 : decode cL_law 3498 = .ok (.iload 4, 2) := dc_iload (dby_of dby_54 (j := 42) rfl) (dby_of dby_54 (j := 43) rfl) rfl
theorem dL_law_3500 : decode cL_law 3500 = .ok (.iconst 1, 1) := dc_iconst_1 (dby_of dby_54 (j := 44) rfl)
theorem dL_law_3501 : decode cL_law 3501 = .ok (.iadd, 1) := dc_iadd (dby_of dby_54 (j := 45) rfl)
theorem dL_law_3502 : decode cL_law 3502 = .ok (.iaload, 1) := dc_iaload (dby_of dby_54 (j := 46) rfl)
theorem dL_law_3503 : decode cL_law 3503 = .ok (.i2l, 1) := dc_i2l (dby_of dby_54 (j := 47) rfl)
theorem dL_law_3504 : decode cL_law 3504 = .ok (.bipush 32, 2) := dc_bipush (dby_of dby_54 (j := 48) rfl) (dby_of dby_54 (j := 49) rfl) (by decide)
theorem dL_law_3506 : decode cL_law 3506 = .ok (.lshl, 1) := dc_lshl (dby_of dby_54 (j := 50) rfl)
theorem dL_law_3507 : decode cL_law 3507 = .ok (.aload_n 0, 1) := dc_aload_n_0 (dby_of dby_54 (j := 51) rfl)
theorem dL_law_3508 : decode cL_law 3508 = .ok (.iload 4, 2) := dc_iload (dby_of dby_54 (j := 52) rfl) (dby_of dby_54 (j := 53) rfl) rfl
theorem dL_law_3510 : decode cL_law 3510 = .ok (.iconst 2, 1) := dc_iconst_2 (dby_of dby_54 (j := 54) rfl)
theorem dL_law_3511 : decode cL_law 3511 = .ok (.iadd, 1) := dc_iadd (dby_of dby_54 (j := 55) rfl)
theorem dL_law_3512 : decode cL_law 3512 = .ok (.iaload, 1) := dc_iaload (dby_of dby_54 (j := 56) rfl)
theorem dL_law_3513 : decode cL_law 3513 = .ok (.i2l, 1) := dc_i2l (dby_of dby_54 (j := 57) rfl)
theorem dL_law_3514 : decode cL_law 3514 = .ok (.ldc2_w 261, 3) := dc_ldc2_w (dby_of dby_54 (j := 58) rfl) (dby_of dby_54 (j := 59) rfl) (dby_of dby_54 (j := 60) rfl) rfl
theorem dL_law_3517 : decode cL_law 3517 = .ok (.land, 1) := dc_land (dby_of dby_54 (j := 61) rfl)
theorem dL_law_3518 : decode cL_law 3518 = .ok (.lor, 1) := dc_lor (dby_of dby_54 (j := 62) rfl)
theorem dL_law_3519 : decode cL_law 3519 = .ok (.aload_n 0, 1) := dc_aload_n_0 (dby_of dby_54 (j := 63) rfl)
theorem dL_law_3520 : decode cL_law 3520 = .ok (.iload 4, 2) := dc_iload (dby_of dby_55 (j := 0) rfl) (dby_of dby_55 (j := 1) rfl) rfl
theorem dL_law_3522 : decode cL_law 3522 = .ok (.iconst 3, 1) := dc_iconst_3 (dby_of dby_55 (j := 2) rfl)
theorem dL_law_3523 : decode cL_law 3523 = .ok (.iadd, 1) := dc_iadd (dby_of dby_55 (j := 3) rfl)
theorem dL_law_3524 : decode cL_law 3524 = .ok (.iaload, 1) := dc_iaload (dby_of dby_55 (j := 4) rfl)
theorem dL_law_3525 : decode cL_law 3525 = .ok (.ifCond .eq 7, 3) := dc_ifCond_eq (dby_of dby_55 (j := 5) rfl) (dby_of dby_55 (j := 6) rfl) (dby_of dby_55 (j := 7) rfl) (by decide)
theorem dL_law_3528 : decode cL_law 3528 = .ok (.iconst 1, 1) := dc_iconst_1 (dby_of dby_55 (j := 8) rfl)
theorem dL_law_3529 : decode cL_law 3529 = .ok (.goto 4, 3) := dc_goto (dby_of dby_55 (j := 9) rfl) (dby_of dby_55 (j := 10) rfl) (dby_of dby_55 (j := 11) rfl) (by decide)
theorem dL_law_3532 : decode cL_law 3532 = .ok (.iconst 0, 1) := dc_iconst_0 (dby_of dby_55 (j := 12) rfl)
theorem dL_law_3533 : decode cL_law 3533 = .ok (.aload_n 0, 1) := dc_aload_n_0 (dby_of dby_55 (j := 13) rfl)
theorem dL_law_3534 : decode cL_law 3534 = .ok (.iload 4, 2) := dc_iload (dby_of dby_55 (j := 14) rfl) (dby_of dby_55 (j := 15) rfl) rfl
theorem dL_law_3536 : decode cL_law 3536 = .ok (.iconst 4, 1) := dc_iconst_4 (dby_of dby_55 (j := 16) rfl)
theorem dL_law_3537 : decode cL_law 3537 = .ok (.iadd, 1) := dc_iadd (dby_of dby_55 (j := 17) rfl)
theorem dL_law_3538 : decode cL_law 3538 = .ok (.iaload, 1) := dc_iaload (dby_of dby_55 (j := 18) rfl)
theorem dL_law_3539 : decode cL_law 3539 = .ok (.aload_n 0, 1) := dc_aload_n_0 (dby_of dby_55 (j := 19) rfl)
theorem dL_law_3540 : decode cL_law 3540 = .ok (.iload 4, 2) := dc_iload (dby_of dby_55 (j := 20) rfl) (dby_of dby_55 (j := 21) rfl) rfl
theorem dL_law_3542 : decode cL_law 3542 = .ok (.iconst 5, 1) := dc_iconst_5 (dby_of dby_55 (j := 22) rfl)
theorem dL_law_3543 : decode cL_law 3543 = .ok (.iadd, 1) := dc_iadd (dby_of dby_55 (j := 23) rfl)
theorem dL_law_3544 : decode cL_law 3544 = .ok (.iaload, 1) := dc_iaload (dby_of dby_55 (j := 24) rfl)
theorem dL_law_3545 : decode cL_law 3545 = .ok (.invokevirtual 321, 3) := dc_invokevirtual (dby_of dby_55 (j := 25) rfl) (dby_of dby_55 (j := 26) rfl) (dby_of dby_55 (j := 27) rfl) rfl
theorem dL_law_3548 : decode cL_law 3548 = .ok (.istore 6, 2) := dc_istore (dby_of dby_55 (j := 28) rfl) (dby_of dby_55 (j := 29) rfl) rfl
theorem dL_law_3550 : decode cL_law 3550 = .ok (.aload_n 2, 1) := dc_aload_n_2 (dby_of dby_55 (j := 30) rfl)
theorem dL_law_3551 : decode cL_law 3551 = .ok (.invokevirtual 183, 3) := dc_invokevirtual (dby_of dby_55 (j := 31) rfl) (dby_of dby_55 (j := 32) rfl) (dby_of dby_55 (j := 33) rfl) rfl
theorem dL_law_3554 : decode cL_law 3554 = .ok (.iload 5, 2) := dc_iload (dby_of dby_55 (j := 34) rfl) (dby_of dby_55 (j := 35) rfl) rfl
theorem dL_law_3556 : decode cL_law 3556 = .ok (.if_icmp .eq 5, 3) := dc_if_icmp_eq (dby_of dby_55 (j := 36) rfl) (dby_of dby_55 (j := 37) rfl) (dby_of dby_55 (j := 38) rfl) (by decide)
theorem dL_law_3559 : decode cL_law 3559 = .ok (.iconst 0, 1) := dc_iconst_0 (dby_of dby_55 (j := 39) rfl)
theorem dL_law_3560 : decode cL_law 3560 = .ok (.ireturn, 1) := dc_ireturn (dby_of dby_55 (j := 40) rfl)
theorem dL_law_3561 : decode cL_law 3561 = .ok (.iload 5, 2) := dc_iload (dby_of dby_55 (j := 41) rfl) (dby_of dby_55 (j := 42) rfl) rfl
theorem dL_law_3563 : decode cL_law 3563 = .ok (.ifCond .ne 15, 3) := dc_ifCond_ne (dby_of dby_55 (j := 43) rfl) (dby_of dby_55 (j := 44) rfl) (dby_of dby_55 (j := 45) rfl) (by decide)
theorem dL_law_3566 : decode cL_law 3566 = .ok (.aload_n 3, 1) := dc_aload_n_3 (dby_of dby_55 (j := 46) rfl)
theorem dL_law_3567 : decode cL_law 3567 = .ok (.iconst 0, 1) := dc_iconst_0 (dby_of dby_55 (j := 47) rfl)
theorem dL_law_3568 : decode cL_law 3568 = .ok (.laload, 1) := dc_laload (dby_of dby_55 (j := 48) rfl)
theorem dL_law_3569 : decode cL_law 3569 = .ok (.iload 6, 2) := dc_iload (dby_of dby_55 (j := 49) rfl) (dby_of dby_55 (j := 50) rfl) rfl
theorem dL_law_3571 : decode cL_law 3571 = .ok (.i2l, 1) := dc_i2l (dby_of dby_55 (j := 51) rfl)
theorem dL_law_3572 : decode cL_law 3572 = .ok (.lcmp, 1) := dc_lcmp (dby_of dby_55 (j := 52) rfl)
theorem dL_law_3573 : decode cL_law 3573 = .ok (.ifCond .eq 5, 3) := dc_ifCond_eq (dby_of dby_55 (j := 53) rfl) (dby_of dby_55 (j := 54) rfl) (dby_of dby_55 (j := 55) rfl) (by decide)
theorem dL_law_3576 : decode cL_law 3576 = .ok (.iconst 0, 1) := dc_iconst_0 (dby_of dby_55 (j := 56) rfl)
theorem dL_law_3577 : decode cL_law 3577 = .ok (.ireturn, 1) := dc_ireturn (dby_of dby_55 (j := 57) rfl)
theorem dL_law_3578 : decode cL_law 3578 = .ok (.goto 973, 3) := dc_goto (dby_of dby_55 (j := 58) rfl) (dby_of dby_55 (j := 59) rfl) (dby_of dby_55 (j := 60) rfl) (by decide)
theorem dL_law_3581 : decode cL_law 3581 = .ok (.aload_n 1, 1) := dc_aload_n_1 (dby_of dby_55 (j := 61) rfl)
theorem dL_law_3582 : decode cL_law 3582 = .ok (.aload_n 0, 1) := dc_aload_n_0 (dby_of dby_55 (j := 62) rfl)
theorem dL_law_3583 : decode cL_law 3583 = .ok (.iload 4, 2) := dc_iload (dby_of dby_55 (j := 63) rfl) (dby_of dby_56 (j := 0) rfl) rfl
theorem dL_law_3585 : decode cL_law 3585 = .ok (.iconst 1, 1) := dc_iconst_1 (dby_of dby_56 (j := 1) rfl)
theorem dL_law_3586 : decode cL_law 3586 = .ok (.iadd, 1) := dc_iadd (dby_of dby_56 (j := 2) rfl)
theorem dL_law_3587 : decode cL_law 3587 = .ok (.iaload, 1) := dc_iaload (dby_of dby_56 (j := 3) rfl)
theorem dL_law_3588 : decode cL_law 3588 = .ok (.aload_n 0, 1) := dc_aload_n_0 (dby_of dby_56 (j := 4) rfl)
theorem dL_law_3589 : decode cL_law 3589 = .ok (.iload 4, 2) := dc_iload (dby_of dby_56 (j := 5) rfl) (dby_of dby_56 (j := 6) rfl) rfl
theorem dL_law_3591 : decode cL_law 3591 = .ok (.iconst 2, 1) := dc_iconst_2 (dby_of dby_56 (j := 7) rfl)
theorem dL_law_3592 : decode cL_law 3592 = .ok (.iadd, 1) := dc_iadd (dby_of dby_56 (j := 8) rfl)
theorem dL_law_3593 : decode cL_law 3593 = .ok (.iaload, 1) := dc_iaload (dby_of dby_56 (j := 9) rfl)
theorem dL_law_3594 : decode cL_law 3594 = .ok (.aload_n 0, 1) := dc_aload_n_0 (dby_of dby_56 (j := 10) rfl)
theorem dL_law_3595 : decode cL_law 3595 = .ok (.iload 4, 2) := dc_iload (dby_of dby_56 (j := 11) rfl) (dby_of dby_56 (j := 12) rfl) rfl
theorem dL_law_3597 : decode cL_law 3597 = .ok (.iconst 3, 1) := dc_iconst_3 (dby_of dby_56 (j := 13) rfl)
theorem dL_law_3598 : decode cL_law 3598 = .ok (.iadd, 1) := dc_iadd (dby_of dby_56 (j := 14) rfl)
theorem dL_law_3599 : decode cL_law 3599 = .ok (.iaload, 1) := dc_iaload (dby_of dby_56 (j := 15) rfl)
theorem dL_law_3600 : decode cL_law 3600 = .ok (.ifCond .eq 7, 3) := dc_ifCond_eq (dby_of dby_56 (j := 16) rfl) (dby_of dby_56 (j := 17) rfl) (dby_of dby_56 (j := 18) rfl) (by decide)
theorem dL_law_3603 : decode cL_law 3603 = .ok (.iconst 1, 1) := dc_iconst_1 (dby_of dby_56 (j := 19) rfl)
theorem dL_law_3604 : decode cL_law 3604 = .ok (.goto 4, 3) := dc_goto (dby_of dby_56 (j := 20) rfl) (dby_of dby_56 (j := 21) rfl) (dby_of dby_56 (j := 22) rfl) (by decide)
theorem dL_law_3607 : decode cL_law 3607 = .ok (.iconst 0, 1) := dc_iconst_0 (dby_of dby_56 (j := 23) rfl)
theorem dL_law_3608 : decode cL_law 3608 = .ok (.aload_n 0, 1) := dc_aload_n_0 (dby_of dby_56 (j := 24) rfl)
theorem dL_law_3609 : decode cL_law 3609 = .ok (.iload 4, 2) := dc_iload (dby_of dby_56 (j := 25) rfl) (dby_of dby_56 (j := 26) rfl) rfl
theorem dL_law_3611 : decode cL_law 3611 = .ok (.iconst 4, 1) := dc_iconst_4 (dby_of dby_56 (j := 27) rfl)
theorem dL_law_3612 : decode cL_law 3612 = .ok (.iadd, 1) := dc_iadd (dby_of dby_56 (j := 28) rfl)
theorem dL_law_3613 : decode cL_law 3613 = .ok (.iaload, 1) := dc_iaload (dby_of dby_56 (j := 29) rfl)
theorem dL_law_3614 : decode cL_law 3614 = .ok (.ifCond .eq 7, 3) := dc_ifCond_eq (dby_of dby_56 (j := 30) rfl) (dby_of dby_56 (j := 31) rfl) (dby_of dby_56 (j := 32) rfl) (by decide)
theorem dL_law_3617 : decode cL_law 3617 = .ok (.iconst 1, 1) := dc_iconst_1 (dby_of dby_56 (j := 33) rfl)
theorem dL_law_3618 : decode cL_law 3618 = .ok (.goto 4, 3) := dc_goto (dby_of dby_56 (j := 34) rfl) (dby_of dby_56 (j := 35) rfl) (dby_of dby_56 (j := 36) rfl) (by decide)
theorem dL_law_3621 : decode cL_law 3621 = .ok (.iconst 0, 1) := dc_iconst_0 (dby_of dby_56 (j := 37) rfl)
theorem dL_law_3622 : decode cL_law 3622 = .ok (.aload_n 3, 1) := dc_aload_n_3 (dby_of dby_56 (j := 38) rfl)
theorem dL_law_3623 : decode cL_law 3623 = .ok (.invokestatic 322, 3) := dc_invokestatic (dby_of dby_56 (j := 39) rfl) (dby_of dby_56 (j := 40) rfl) (dby_of dby_56 (j := 41) rfl) rfl
theorem dL_law_3626 : decode cL_law 3626 = .ok (.istore 5, 2) := dc_istore (dby_of dby_56 (j := 42) rfl) (dby_of dby_56 (j := 43) rfl) rfl
theorem dL_law_3628 : decode cL_law 3628 = .ok (.aload_n 2, 1) := dc_aload_n_2 (dby_of dby_56 (j := 44) rfl)
theorem dL_law_3629 : decode cL_law 3629 = .ok (.aload_n 0, 1) := dc_aload_n_0 (dby_of dby_56 (j := 45) rfl)
theorem dL_law_3630 : decode cL_law 3630 = .ok (.iload 4, 2) := dc_iload (dby_of dby_56 (j := 46) rfl) (dby_of dby_56 (j := 47) rfl) rfl
theorem dL_law_3632 : decode cL_law 3632 = .ok (.iconst 1, 1) := dc_iconst_1 (dby_of dby_56 (j := 48) rfl)
theorem dL_law_3633 : decode cL_law 3633 = .ok (.iadd, 1) := dc_iadd (dby_of dby_56 (j := 49) rfl)
theorem dL_law_3634 : decode cL_law 3634 = .ok (.iaload, 1) := dc_iaload (dby_of dby_56 (j := 50) rfl)
theorem dL_law_3635 : decode cL_law 3635 = .ok (.aload_n 0, 1) := dc_aload_n_0 (dby_of dby_56 (j := 51) rfl)
theorem dL_law_3636 : decode cL_law 3636 = .ok (.iload 4, 2) := dc_iload (dby_of dby_56 (j := 52) rfl) (dby_of dby_56 (j := 53) rfl) rfl
theorem dL_law_3638 : decode cL_law 3638 = .ok (.iconst 2, 1) := dc_iconst_2 (dby_of dby_56 (j := 54) rfl)
theorem dL_law_3639 : decode cL_law 3639 = .ok (.iadd, 1) := dc_iadd (dby_of dby_56 (j := 55) rfl)
theorem dL_law_3640 : decode cL_law 3640 = .ok (.iaload, 1) := dc_iaload (dby_of dby_56 (j := 56) rfl)
theorem dL_law_3641 : decode cL_law 3641 = .ok (.aload_n 0, 1) := dc_aload_n_0 (dby_of dby_56 (j := 57) rfl)
theorem dL_law_3642 : decode cL_law 3642 = .ok (.iload 4, 2) := dc_iload (dby_of dby_56 (j := 58) rfl) (dby_of dby_56 (j := 59) rfl) rfl
theorem dL_law_3644 : decode cL_law 3644 = .ok (.iconst 3, 1) := dc_iconst_3 (dby_of dby_56 (j := 60) rfl)
theorem dL_law_3645 : decode cL_law 3645 = .ok (.iadd, 1) := dc_iadd (dby_of dby_56 (j := 61) rfl)
theorem dL_law_3646 : decode cL_law 3646 = .ok (.iaload, 1) := dc_iaload (dby_of dby_56 (j := 62) rfl)
theorem dL_law_3647 : decode cL_law 3647 = .ok (.ifCond .eq 7, 3) := dc_ifCond_eq (dby_of dby_56 (j := 63) rfl) (dby_of dby_57 (j := 0) rfl) (dby_of dby_57 (j := 1) rfl) (by decide)
theorem dL_law_3650 : decode cL_law 3650 = .ok (.iconst 1, 1) := dc_iconst_1 (dby_of dby_57 (j := 2) rfl)
theorem dL_law_3651 : decode cL_law 3651 = .ok (.goto 4, 3) := dc_goto (dby_of dby_57 (j := 3) rfl) (dby_of dby_57 (j := 4) rfl) (dby_of dby_57 (j := 5) rfl) (by decide)
theorem dL_law_3654 : decode cL_law 3654 = .ok (.iconst 0, 1) := dc_iconst_0 (dby_of dby_57 (j := 6) rfl)
theorem dL_law_3655 : decode cL_law 3655 = .ok (.aload_n 0, 1) := dc_aload_n_0 (dby_of dby_57 (j := 7) rfl)
theorem dL_law_3656 : decode cL_law 3656 = .ok (.iload 4, 2) := dc_iload (dby_of dby_57 (j := 8) rfl) (dby_of dby_57 (j := 9) rfl) rfl
theorem dL_law_3658 : decode cL_law 3658 = .ok (.iconst 4, 1) := dc_iconst_4 (dby_of dby_57 (j := 10) rfl)
theorem dL_law_3659 : decode cL_law 3659 = .ok (.iadd, 1) := dc_iadd (dby_of dby_57 (j := 11) rfl)
theorem dL_law_3660 : decode cL_law 3660 = .ok (.iaload, 1) := dc_iaload (dby_of dby_57 (j := 12) rfl)
theorem dL_law_3661 : decode cL_law 3661 = .ok (.ifCond .eq 7, 3) := dc_ifCond_eq (dby_of dby_57 (j := 13) rfl) (dby_of dby_57 (j := 14) rfl) (dby_of dby_57 (j := 15) rfl) (by decide)
theorem dL_law_3664 : decode cL_law 3664 = .ok (.iconst 1, 1) := dc_iconst_1 (dby_of dby_57 (j := 16) rfl)
theorem dL_law_3665 : decode cL_law 3665 = .ok (.goto 4, 3) := dc_goto (dby_of dby_57 (j := 17) rfl) (dby_of dby_57 (j := 18) rfl) (dby_of dby_57 (j := 19) rfl) (by decide)
theorem dL_law_3668 : decode cL_law 3668 = .ok (.iconst 0, 1) := dc_iconst_0 (dby_of dby_57 (j := 20) rfl)
theorem dL_law_3669 : decode cL_law 3669 = .ok (.invokevirtual 325, 3) := dc_invokevirtual (dby_of dby_57 (j := 21) rfl) (dby_of dby_57 (j := 22) rfl) (dby_of dby_57 (j := 23) rfl) rfl
theorem dL_law_3672 : decode cL_law 3672 = .ok (.istore 6, 2) := dc_istore (dby_of dby_57 (j := 24) rfl) (dby_of dby_57 (j := 25) rfl) rfl
theorem dL_law_3674 : decode cL_law 3674 = .ok (.aload_n 2, 1) := dc_aload_n_2 (dby_of dby_57 (j := 26) rfl)
theorem dL_law_3675 : decode cL_law 3675 = .ok (.invokevirtual 183, 3) := dc_invokevirtual (dby_of dby_57 (j := 27) rfl) (dby_of dby_57 (j := 28) rfl) (dby_of dby_57 (j := 29) rfl) rfl
theorem dL_law_3678 : decode cL_law 3678 = .ok (.iload 5, 2) := dc_iload (dby_of dby_57 (j := 30) rfl) (dby_of dby_57 (j := 31) rfl) rfl
theorem dL_law_3680 : decode cL_law 3680 = .ok (.if_icmp .eq 5, 3) := dc_if_icmp_eq (dby_of dby_57 (j := 32) rfl) (dby_of dby_57 (j := 33) rfl) (dby_of dby_57 (j := 34) rfl) (by decide)
theorem dL_law_3683 : decode cL_law 3683 = .ok (.iconst 0, 1) := dc_iconst_0 (dby_of dby_57 (j := 35) rfl)
theorem dL_law_3684 : decode cL_law 3684 = .ok (.ireturn, 1) := dc_ireturn (dby_of dby_57 (j := 36) rfl)
theorem dL_law_3685 : decode cL_law 3685 = .ok (.iload 5, 2) := dc_iload (dby_of dby_57 (j := 37) rfl) (dby_of dby_57 (j := 38) rfl) rfl
theorem dL_law_3687 : decode cL_law 3687 = .ok (.ifCond .ne 15, 3) := dc_ifCond_ne (dby_of dby_57 (j := 39) rfl) (dby_of dby_57 (j := 40) rfl) (dby_of dby_57 (j := 41) rfl) (by decide)
theorem dL_law_3690 : decode cL_law 3690 = .ok (.aload_n 3, 1) := dc_aload_n_3 (dby_of dby_57 (j := 42) rfl)
theorem dL_law_3691 : decode cL_law 3691 = .ok (.iconst 0, 1) := dc_iconst_0 (dby_of dby_57 (j := 43) rfl)
theorem dL_law_3692 : decode cL_law 3692 = .ok (.laload, 1) := dc_laload (dby_of dby_57 (j := 44) rfl)
theorem dL_law_3693 : decode cL_law 3693 = .ok (.iload 6, 2) := dc_iload (dby_of dby_57 (j := 45) rfl) (dby_of dby_57 (j := 46) rfl) rfl
theorem dL_law_3695 : decode cL_law 3695 = .ok (.i2l, 1) := dc_i2l (dby_of dby_57 (j := 47) rfl)
theorem dL_law_3696 : decode cL_law 3696 = .ok (.lcmp, 1) := dc_lcmp (dby_of dby_57 (j := 48) rfl)
theorem dL_law_3697 : decode cL_law 3697 = .ok (.ifCond .eq 5, 3) := dc_ifCond_eq (dby_of dby_57 (j := 49) rfl) (dby_of dby_57 (j := 50) rfl) (dby_of dby_57 (j := 51) rfl) (by decide)
theorem dL_law_3700 : decode cL_law 3700 = .ok (.iconst 0, 1) := dc_iconst_0 (dby_of dby_57 (j := 52) rfl)
theorem dL_law_3701 : decode cL_law 3701 = .ok (.ireturn, 1) := dc_ireturn (dby_of dby_57 (j := 53) rfl)
theorem dL_law_3702 : decode cL_law 3702 = .ok (.goto 849, 3) := dc_goto (dby_of dby_57 (j := 54) rfl) (dby_of dby_57 (j := 55) rfl) (dby_of dby_57 (j := 56) rfl) (by decide)
theorem dL_law_3705 : decode cL_law 3705 = .ok (.aload_n 1, 1) := dc_aload_n_1 (dby_of dby_57 (j := 57) rfl)
theorem dL_law_3706 : decode cL_law 3706 = .ok (.aload_n 0, 1) := dc_aload_n_0 (dby_of dby_57 (j := 58) rfl)
theorem dL_law_3707 : decode cL_law 3707 = .ok (.iload 4, 2) := dc_iload (dby_of dby_57 (j := 59) rfl) (dby_of dby_57 (j := 60) rfl) rfl
theorem dL_law_3709 : decode cL_law 3709 = .ok (.iconst 1, 1) := dc_iconst_1 (dby_of dby_57 (j := 61) rfl)
theorem dL_law_3710 : decode cL_law 3710 = .ok (.iadd, 1) := dc_iadd (dby_of dby_57 (j := 62) rfl)
theorem dL_law_3711 : decode cL_law 3711 = .ok (.iaload, 1) := dc_iaload (dby_of dby_57 (j := 63) rfl)
theorem dL_law_3712 : decode cL_law 3712 = .ok (.aload_n 0, 1) := dc_aload_n_0 (dby_of dby_58 (j := 0) rfl)
theorem dL_law_3713 : decode cL_law 3713 = .ok (.iload 4, 2) := dc_iload (dby_of dby_58 (j := 1) rfl) (dby_of dby_58 (j := 2) rfl) rfl
theorem dL_law_3715 : decode cL_law 3715 = .ok (.iconst 2, 1) := dc_iconst_2 (dby_of dby_58 (j := 3) rfl)
theorem dL_law_3716 : decode cL_law 3716 = .ok (.iadd, 1) := dc_iadd (dby_of dby_58 (j := 4) rfl)
theorem dL_law_3717 : decode cL_law 3717 = .ok (.iaload, 1) := dc_iaload (dby_of dby_58 (j := 5) rfl)
theorem dL_law_3718 : decode cL_law 3718 = .ok (.aload_n 0, 1) := dc_aload_n_0 (dby_of dby_58 (j := 6) rfl)
theorem dL_law_3719 : decode cL_law 3719 = .ok (.iload 4, 2) := dc_iload (dby_of dby_58 (j := 7) rfl) (dby_of dby_58 (j := 8) rfl) rfl
theorem dL_law_3721 : decode cL_law 3721 = .ok (.iconst 3, 1) := dc_iconst_3 (dby_of dby_58 (j := 9) rfl)
theorem dL_law_3722 : decode cL_law 3722 = .ok (.iadd, 1) := dc_iadd (dby_of dby_58 (j := 10) rfl)
theorem dL_law_3723 : decode cL_law 3723 = .ok (.iaload, 1) := dc_iaload (dby_of dby_58 (j := 11) rfl)
theorem dL_law_3724 : decode cL_law 3724 = .ok (.aload_n 0, 1) := dc_aload_n_0 (dby_of dby_58 (j := 12) rfl)
theorem dL_law_3725 : decode cL_law 3725 = .ok (.iload 4, 2) := dc_iload (dby_of dby_58 (j := 13) rfl) (dby_of dby_58 (j := 14) rfl) rfl
theorem dL_law_3727 : decode cL_law 3727 = .ok (.iconst 4, 1) := dc_iconst_4 (dby_of dby_58 (j := 15) rfl)
theorem dL_law_3728 : decode cL_law 3728 = .ok (.iadd, 1) := dc_iadd (dby_of dby_58 (j := 16) rfl)
theorem dL_law_3729 : decode cL_law 3729 = .ok (.iaload, 1) := dc_iaload (dby_of dby_58 (j := 17) rfl)
theorem dL_law_3730 : decode cL_law 3730 = .ok (.aload_n 0, 1) := dc_aload_n_0 (dby_of dby_58 (j := 18) rfl)
theorem dL_law_3731 : decode cL_law 3731 = .ok (.iload 4, 2) := dc_iload (dby_of dby_58 (j := 19) rfl) (dby_of dby_58 (j := 20) rfl) rfl
theorem dL_law_3733 : decode cL_law 3733 = .ok (.iconst 5, 1) := dc_iconst_5 (dby_of dby_58 (j := 21) rfl)
theorem dL_law_3734 : decode cL_law 3734 = .ok (.iadd, 1) := dc_iadd (dby_of dby_58 (j := 22) rfl)
theorem dL_law_3735 : decode cL_law 3735 = .ok (.iaload, 1) := dc_iaload (dby_of dby_58 (j := 23) rfl)
theorem dL_law_3736 : decode cL_law 3736 = .ok (.ifCond .eq 7, 3) := dc_ifCond_eq (dby_of dby_58 (j := 24) rfl) (dby_of dby_58 (j := 25) rfl) (dby_of dby_58 (j := 26) rfl) (by decide)
theorem dL_law_3739 : decode cL_law 3739 = .ok (.iconst 1, 1) := dc_iconst_1 (dby_of dby_58 (j := 27) rfl)
theorem dL_law_3740 : decode cL_law 3740 = .ok (.goto 4, 3) := dc_goto (dby_of dby_58 (j := 28) rfl) (dby_of dby_58 (j := 29) rfl) (dby_of dby_58 (j := 30) rfl) (by decide)
theorem dL_law_3743 : decode cL_law 3743 = .ok (.iconst 0, 1) := dc_iconst_0 (dby_of dby_58 (j := 31) rfl)
theorem dL_law_3744 : decode cL_law 3744 = .ok (.aload_n 3, 1) := dc_aload_n_3 (dby_of dby_58 (j := 32) rfl)
theorem dL_law_3745 : decode cL_law 3745 = .ok (.invokestatic 326, 3) := dc_invokestatic (dby_of dby_58 (j := 33) rfl) (dby_of dby_58 (j := 34) rfl) (dby_of dby_58 (j := 35) rfl) rfl
theorem dL_law_3748 : decode cL_law 3748 = .ok (.istore 5, 2) := dc_istore (dby_of dby_58 (j := 36) rfl) (dby_of dby_58 (j := 37) rfl) rfl
theorem dL_law_3750 : decode cL_law 3750 = .ok (.aload_n 2, 1) := dc_aload_n_2 (dby_of dby_58 (j := 38) rfl)
theorem dL_law_3751 : decode cL_law 3751 = .ok (.aload_n 0, 1) := dc_aload_n_0 (dby_of dby_58 (j := 39) rfl)
theorem dL_law_3752 : decode cL_law 3752 = .ok (.iload 4, 2) := dc_iload (dby_of dby_58 (j := 40) rfl) (dby_of dby_58 (j := 41) rfl) rfl
theorem dL_law_3754 : decode cL_law 3754 = .ok (.iconst 1, 1) := dc_iconst_1 (dby_of dby_58 (j := 42) rfl)
theorem dL_law_3755 : decode cL_law 3755 = .ok (.iadd, 1) := dc_iadd (dby_of dby_58 (j := 43) rfl)
theorem dL_law_3756 : decode cL_law 3756 = .ok (.iaload, 1) := dc_iaload (dby_of dby_58 (j := 44) rfl)
theorem dL_law_3757 : decode cL_law 3757 = .ok (.aload_n 0, 1) := dc_aload_n_0 (dby_of dby_58 (j := 45) rfl)
theorem dL_law_3758 : decode cL_law 3758 = .ok (.iload 4, 2) := dc_iload (dby_of dby_58 (j := 46) rfl) (dby_of dby_58 (j := 47) rfl) rfl
theorem dL_law_3760 : decode cL_law 3760 = .ok (.iconst 2, 1) := dc_iconst_2 (dby_of dby_58 (j := 48) rfl)
theorem dL_law_3761 : decode cL_law 3761 = .ok (.iadd, 1) := dc_iadd (dby_of dby_58 (j := 49) rfl)
theorem dL_law_3762 : decode cL_law 3762 = .ok (.iaload, 1) := dc_iaload (dby_of dby_58 (j := 50) rfl)
theorem dL_law_3763 : decode cL_law 3763 = .ok (.aload_n 0, 1) := dc_aload_n_0 (dby_of dby_58 (j := 51) rfl)
theorem dL_law_3764 : decode cL_law 3764 = .ok (.iload 4, 2) := dc_iload (dby_of dby_58 (j := 52) rfl) (dby_of dby_58 (j := 53) rfl) rfl
theorem dL_law_3766 : decode cL_law 3766 = .ok (.iconst 3, 1) := dc_iconst_3 (dby_of dby_58 (j := 54) rfl)
theorem dL_law_3767 : decode cL_law 3767 = .ok (.iadd, 1) := dc_iadd (dby_of dby_58 (j := 55) rfl)
theorem dL_law_3768 : decode cL_law 3768 = .ok (.iaload, 1) := dc_iaload (dby_of dby_58 (j := 56) rfl)
theorem dL_law_3769 : decode cL_law 3769 = .ok (.aload_n 0, 1) := dc_aload_n_0 (dby_of dby_58 (j := 57) rfl)
theorem dL_law_3770 : decode cL_law 3770 = .ok (.iload 4, 2) := dc_iload (dby_of dby_58 (j := 58) rfl) (dby_of dby_58 (j := 59) rfl) rfl
theorem dL_law_3772 : decode cL_law 3772 = .ok (.iconst 4, 1) := dc_iconst_4 (dby_of dby_58 (j := 60) rfl)
theorem dL_law_3773 : decode cL_law 3773 = .ok (.iadd, 1) := dc_iadd (dby_of dby_58 (j := 61) rfl)
theorem dL_law_3774 : decode cL_law 3774 = .ok (.iaload, 1) := dc_iaload (dby_of dby_58 (j := 62) rfl)
theorem dL_law_3775 : decode cL_law 3775 = .ok (.aload_n 0, 1) := dc_aload_n_0 (dby_of dby_58 (j := 63) rfl)
theorem dL_law_3776 : decode cL_law 3776 = .ok (.iload 4, 2) := dc_iload (dby_of dby_59 (j := 0) rfl) (dby_of dby_59 (j := 1) rfl) rfl
theorem dL_law_3778 : decode cL_law 3778 = .ok (.iconst 5, 1) := dc_iconst_5 (dby_of dby_59 (j := 2) rfl)
theorem dL_law_3779 : decode cL_law 3779 = .ok (.iadd, 1) := dc_iadd (dby_of dby_59 (j := 3) rfl)
theorem dL_law_3780 : decode cL_law 3780 = .ok (.iaload, 1) := dc_iaload (dby_of dby_59 (j := 4) rfl)
theorem dL_law_3781 : decode cL_law 3781 = .ok (.ifCond .eq 7, 3) := dc_ifCond_eq (dby_of dby_59 (j := 5) rfl) (dby_of dby_59 (j := 6) rfl) (dby_of dby_59 (j := 7) rfl) (by decide)
theorem dL_law_3784 : decode cL_law 3784 = .ok (.iconst 1, 1) := dc_iconst_1 (dby_of dby_59 (j := 8) rfl)
theorem dL_law_3785 : decode cL_law 3785 = .ok (.goto 4, 3) := dc_goto (dby_of dby_59 (j := 9) rfl) (dby_of dby_59 (j := 10) rfl) (dby_of dby_59 (j := 11) rfl) (by decide)
theorem dL_law_3788 : decode cL_law 3788 = .ok (.iconst 0, 1) := dc_iconst_0 (dby_of dby_59 (j := 12) rfl)
theorem dL_law_3789 : decode cL_law 3789 = .ok (.invokevirtual 329, 3) := dc_invokevirtual (dby_of dby_59 (j := 13) rfl) (dby_of dby_59 (j := 14) rfl) (dby_of dby_59 (j := 15) rfl) rfl
theorem dL_law_3792 : decode cL_law 3792 = .ok (.istore 6, 2) := dc_istore (dby_of dby_59 (j := 16) rfl) (dby_of dby_59 (j := 17) rfl) rfl
theorem dL_law_3794 : decode cL_law 3794 = .ok (.aload_n 2, 1) := dc_aload_n_2 (dby_of dby_59 (j := 18) rfl)
theorem dL_law_3795 : decode cL_law 3795 = .ok (.invokevirtual 183, 3) := dc_invokevirtual (dby_of dby_59 (j := 19) rfl) (dby_of dby_59 (j := 20) rfl) (dby_of dby_59 (j := 21) rfl) rfl
theorem dL_law_3798 : decode cL_law 3798 = .ok (.iload 5, 2) := dc_iload (dby_of dby_59 (j := 22) rfl) (dby_of dby_59 (j := 23) rfl) rfl
theorem dL_law_3800 : decode cL_law 3800 = .ok (.if_icmp .eq 5, 3) := dc_if_icmp_eq (dby_of dby_59 (j := 24) rfl) (dby_of dby_59 (j := 25) rfl) (dby_of dby_59 (j := 26) rfl) (by decide)
theorem dL_law_3803 : decode cL_law 3803 = .ok (.iconst 0, 1) := dc_iconst_0 (dby_of dby_59 (j := 27) rfl)
theorem dL_law_3804 : decode cL_law 3804 = .ok (.ireturn, 1) := dc_ireturn (dby_of dby_59 (j := 28) rfl)
theorem dL_law_3805 : decode cL_law 3805 = .ok (.iload 5, 2) := dc_iload (dby_of dby_59 (j := 29) rfl) (dby_of dby_59 (j := 30) rfl) rfl
theorem dL_law_3807 : decode cL_law 3807 = .ok (.ifCond .ne 15, 3) := dc_ifCond_ne (dby_of dby_59 (j := 31) rfl) (dby_of dby_59 (j := 32) rfl) (dby_of dby_59 (j := 33) rfl) (by decide)
theorem dL_law_3810 : decode cL_law 3810 = .ok (.aload_n 3, 1) := dc_aload_n_3 (dby_of dby_59 (j := 34) rfl)
theorem dL_law_3811 : decode cL_law 3811 = .ok (.iconst 0, 1) := dc_iconst_0 (dby_of dby_59 (j := 35) rfl)
theorem dL_law_3812 : decode cL_law 3812 = .ok (.laload, 1) := dc_laload (dby_of dby_59 (j := 36) rfl)
theorem dL_law_3813 : decode cL_law 3813 = .ok (.iload 6, 2) := dc_iload (dby_of dby_59 (j := 37) rfl) (dby_of dby_59 (j := 38) rfl) rfl
theorem dL_law_3815 : decode cL_law 3815 = .ok (.i2l, 1) := dc_i2l (dby_of dby_59 (j := 39) rfl)
theorem dL_law_3816 : decode cL_law 3816 = .ok (.lcmp, 1) := dc_lcmp (dby_of dby_59 (j := 40) rfl)
theorem dL_law_3817 : decode cL_law 3817 = .ok (.ifCond .eq 5, 3) := dc_ifCond_eq (dby_of dby_59 (j := 41) rfl) (dby_of dby_59 (j := 42) rfl) (dby_of dby_59 (j := 43) rfl) (by decide)
theorem dL_law_3820 : decode cL_law 3820 = .ok (.iconst 0, 1) := dc_iconst_0 (dby_of dby_59 (j := 44) rfl)
theorem dL_law_3821 : decode cL_law 3821 = .ok (.ireturn, 1) := dc_ireturn (dby_of dby_59 (j := 45) rfl)
theorem dL_law_3822 : decode cL_law 3822 = .ok (.goto 729, 3) := dc_goto (dby_of dby_59 (j := 46) rfl) (dby_of dby_59 (j := 47) rfl) (dby_of dby_59 (j := 48) rfl) (by decide)
theorem dL_law_3825 : decode cL_law 3825 = .ok (.aload_n 1, 1) := dc_aload_n_1 (dby_of dby_59 (j := 49) rfl)
theorem dL_law_3826 : decode cL_law 3826 = .ok (.aload_n 0, 1) := dc_aload_n_0 (dby_of dby_59 (j := 50) rfl)
theorem dL_law_3827 : decode cL_law 3827 = .ok (.iload 4, 2) := dc_iload (dby_of dby_59 (j := 51) rfl) (dby_of dby_59 (j := 52) rfl) rfl
theorem dL_law_3829 : decode cL_law 3829 = .ok (.iconst 1, 1) := dc_iconst_1 (dby_of dby_59 (j := 53) rfl)
theorem dL_law_3830 : decode cL_law 3830 = .ok (.iadd, 1) := dc_iadd (dby_of dby_59 (j := 54) rfl)
theorem dL_law_3831 : decode cL_law 3831 = .ok (.iaload, 1) := dc_iaload (dby_of dby_59 (j := 55) rfl)
theorem dL_law_3832 : decode cL_law 3832 = .ok (.aload_n 0, 1) := dc_aload_n_0 (dby_of dby_59 (j := 56) rfl)
theorem dL_law_3833 : decode cL_law 3833 = .ok (.iload 4, 2) := dc_iload (dby_of dby_59 (j := 57) rfl) (dby_of dby_59 (j := 58) rfl) rfl
theorem dL_law_3835 : decode cL_law 3835 = .ok (.iconst 2, 1) := dc_iconst_2 (dby_of dby_59 (j := 59) rfl)
theorem dL_law_3836 : decode cL_law 3836 = .ok (.iadd, 1) := dc_iadd (dby_of dby_59 (j := 60) rfl)
theorem dL_law_3837 : decode cL_law 3837 = .ok (.iaload, 1) := dc_iaload (dby_of dby_59 (j := 61) rfl)
theorem dL_law_3838 : decode cL_law 3838 = .ok (.aload_n 0, 1) := dc_aload_n_0 (dby_of dby_59 (j := 62) rfl)
theorem dL_law_3839 : decode cL_law 3839 = .ok (.iload 4, 2) := dc_iload (dby_of dby_59 (j := 63) rfl) (dby_of dby_60 (j := 0) rfl) rfl
theorem dL_law_3841 : decode cL_law 3841 = .ok (.iconst 3, 1) := dc_iconst_3 (dby_of dby_60 (j := 1) rfl)
theorem dL_law_3842 : decode cL_law 3842 = .ok (.iadd, 1) := dc_iadd (dby_of dby_60 (j := 2) rfl)
theorem dL_law_3843 : decode cL_law 3843 = .ok (.iaload, 1) := dc_iaload (dby_of dby_60 (j := 3) rfl)
theorem dL_law_3844 : decode cL_law 3844 = .ok (.aload_n 0, 1) := dc_aload_n_0 (dby_of dby_60 (j := 4) rfl)
theorem dL_law_3845 : decode cL_law 3845 = .ok (.iload 4, 2) := dc_iload (dby_of dby_60 (j := 5) rfl) (dby_of dby_60 (j := 6) rfl) rfl
theorem dL_law_3847 : decode cL_law 3847 = .ok (.iconst 4, 1) := dc_iconst_4 (dby_of dby_60 (j := 7) rfl)
theorem dL_law_3848 : decode cL_law 3848 = .ok (.iadd, 1) := dc_iadd (dby_of dby_60 (j := 8) rfl)
theorem dL_law_3849 : decode cL_law 3849 = .ok (.iaload, 1) := dc_iaload (dby_of dby_60 (j := 9) rfl)
theorem dL_law_3850 : decode cL_law 3850 = .ok (.aload_n 0, 1) := dc_aload_n_0 (dby_of dby_60 (j := 10) rfl)
theorem dL_law_3851 : decode cL_law 3851 = .ok (.iload 4, 2) := dc_iload (dby_of dby_60 (j := 11) rfl) (dby_of dby_60 (j := 12) rfl) rfl
theorem dL_law_3853 : decode cL_law 3853 = .ok (.iconst 5, 1) := dc_iconst_5 (dby_of dby_60 (j := 13) rfl)
theorem dL_law_3854 : decode cL_law 3854 = .ok (.iadd, 1) := dc_iadd (dby_of dby_60 (j := 14) rfl)
theorem dL_law_3855 : decode cL_law 3855 = .ok (.iaload, 1) := dc_iaload (dby_of dby_60 (j := 15) rfl)
theorem dL_law_3856 : decode cL_law 3856 = .ok (.invokevirtual 330, 3) := dc_invokevirtual (dby_of dby_60 (j := 16) rfl) (dby_of dby_60 (j := 17) rfl) (dby_of dby_60 (j := 18) rfl) rfl
theorem dL_law_3859 : decode cL_law 3859 = .ok (.aload_n 2, 1) := dc_aload_n_2 (dby_of dby_60 (j := 19) rfl)
theorem dL_law_3860 : decode cL_law 3860 = .ok (.aload_n 0, 1) := dc_aload_n_0 (dby_of dby_60 (j := 20) rfl)
theorem dL_law_3861 : decode cL_law 3861 = .ok (.iload 4, 2) := dc_iload (dby_of dby_60 (j := 21) rfl) (dby_of dby_60 (j := 22) rfl) rfl
theorem dL_law_3863 : decode cL_law 3863 = .ok (.iconst 1, 1) := dc_iconst_1 (dby_of dby_60 (j := 23) rfl)
theorem dL_law_3864 : decode cL_law 3864 = .ok (.iadd, 1) := dc_iadd (dby_of dby_60 (j := 24) rfl)
theorem dL_law_3865 : decode cL_law 3865 = .ok (.iaload, 1) := dc_iaload (dby_of dby_60 (j := 25) rfl)
theorem dL_law_3866 : decode cL_law 3866 = .ok (.aload_n 0, 1) := dc_aload_n_0 (dby_of dby_60 (j := 26) rfl)
theorem dL_law_3867 : decode cL_law 3867 = .ok (.iload 4, 2) := dc_iload (dby_of dby_60 (j := 27) rfl) (dby_of dby_60 (j := 28) rfl) rfl
theorem dL_law_3869 : decode cL_law 3869 = .ok (.iconst 2, 1) := dc_iconst_2 (dby_of dby_60 (j := 29) rfl)
theorem dL_law_3870 : decode cL_law 3870 = .ok (.iadd, 1) := dc_iadd (dby_of dby_60 (j := 30) rfl)
theorem dL_law_3871 : decode cL_law 3871 = .ok (.iaload, 1) := dc_iaload (dby_of dby_60 (j := 31) rfl)
theorem dL_law_3872 : decode cL_law 3872 = .ok (.aload_n 0, 1) := dc_aload_n_0 (dby_of dby_60 (j := 32) rfl)
theorem dL_law_3873 : decode cL_law 3873 = .ok (.iload 4, 2) := dc_iload (dby_of dby_60 (j := 33) rfl) (dby_of dby_60 (j := 34) rfl) rfl
theorem dL_law_3875 : decode cL_law 3875 = .ok (.iconst 3, 1) := dc_iconst_3 (dby_of dby_60 (j := 35) rfl)
theorem dL_law_3876 : decode cL_law 3876 = .ok (.iadd, 1) := dc_iadd (dby_of dby_60 (j := 36) rfl)
theorem dL_law_3877 : decode cL_law 3877 = .ok (.iaload, 1) := dc_iaload (dby_of dby_60 (j := 37) rfl)
theorem dL_law_3878 : decode cL_law 3878 = .ok (.aload_n 0, 1) := dc_aload_n_0 (dby_of dby_60 (j := 38) rfl)
theorem dL_law_3879 : decode cL_law 3879 = .ok (.iload 4, 2) := dc_iload (dby_of dby_60 (j := 39) rfl) (dby_of dby_60 (j := 40) rfl) rfl
theorem dL_law_3881 : decode cL_law 3881 = .ok (.iconst 4, 1) := dc_iconst_4 (dby_of dby_60 (j := 41) rfl)
theorem dL_law_3882 : decode cL_law 3882 = .ok (.iadd, 1) := dc_iadd (dby_of dby_60 (j := 42) rfl)
theorem dL_law_3883 : decode cL_law 3883 = .ok (.iaload, 1) := dc_iaload (dby_of dby_60 (j := 43) rfl)
theorem dL_law_3884 : decode cL_law 3884 = .ok (.aload_n 0, 1) := dc_aload_n_0 (dby_of dby_60 (j := 44) rfl)
theorem dL_law_3885 : decode cL_law 3885 = .ok (.iload 4, 2) := dc_iload (dby_of dby_60 (j := 45) rfl) (dby_of dby_60 (j := 46) rfl) rfl
theorem dL_law_3887 : decode cL_law 3887 = .ok (.iconst 5, 1) := dc_iconst_5 (dby_of dby_60 (j := 47) rfl)
theorem dL_law_3888 : decode cL_law 3888 = .ok (.iadd, 1) := dc_iadd (dby_of dby_60 (j := 48) rfl)
theorem dL_law_3889 : decode cL_law 3889 = .ok (.iaload, 1) := dc_iaload (dby_of dby_60 (j := 49) rfl)
theorem dL_law_3890 : decode cL_law 3890 = .ok (.invokevirtual 334, 3) := dc_invokevirtual (dby_of dby_60 (j := 50) rfl) (dby_of dby_60 (j := 51) rfl) (dby_of dby_60 (j := 52) rfl) rfl
theorem dL_law_3893 : decode cL_law 3893 = .ok (.if_icmp .eq 658, 3) := dc_if_icmp_eq (dby_of dby_60 (j := 53) rfl) (dby_of dby_60 (j := 54) rfl) (dby_of dby_60 (j := 55) rfl) (by decide)
theorem dL_law_3896 : decode cL_law 3896 = .ok (.iconst 0, 1) := dc_iconst_0 (dby_of dby_60 (j := 56) rfl)
theorem dL_law_3897 : decode cL_law 3897 = .ok (.ireturn, 1) := dc_ireturn (dby_of dby_60 (j := 57) rfl)
theorem dL_law_3898 : decode cL_law 3898 = .ok (.aload_n 1, 1) := dc_aload_n_1 (dby_of dby_60 (j := 58) rfl)
theorem dL_law_3899 : decode cL_law 3899 = .ok (.aload_n 0, 1) := dc_aload_n_0 (dby_of dby_60 (j := 59) rfl)
theorem dL_law_3900 : decode cL_law 3900 = .ok (.iload 4, 2) := dc_iload (dby_of dby_60 (j := 60) rfl) (dby_of dby_60 (j := 61) rfl) rfl
theorem dL_law_3902 : decode cL_law 3902 = .ok (.iconst 1, 1) := dc_iconst_1 (dby_of dby_60 (j := 62) rfl)
theorem dL_law_3903 : decode cL_law 3903 = .ok (.iadd, 1) := dc_iadd (dby_of dby_60 (j := 63) rfl)
theorem dL_law_3904 : decode cL_law 3904 = .ok (.iaload, 1) := dc_iaload (dby_of dby_61 (j := 0) rfl)
theorem dL_law_3905 : decode cL_law 3905 = .ok (.aload_n 3, 1) := dc_aload_n_3 (dby_of dby_61 (j := 1) rfl)
theorem dL_law_3906 : decode cL_law 3906 = .ok (.invokestatic 335, 3) := dc_invokestatic (dby_of dby_61 (j := 2) rfl) (dby_of dby_61 (j := 3) rfl) (dby_of dby_61 (j := 4) rfl) rfl
theorem dL_law_3909 : decode cL_law 3909 = .ok (.istore 5, 2) := dc_istore (dby_of dby_61 (j := 5) rfl) (dby_of dby_61 (j := 6) rfl) rfl
theorem dL_law_3911 : decode cL_law 3911 = .ok (.aload_n 2, 1) := dc_aload_n_2 (dby_of dby_61 (j := 7) rfl)
theorem dL_law_3912 : decode cL_law 3912 = .ok (.aload_n 0, 1) := dc_aload_n_0 (dby_of dby_61 (j := 8) rfl)
theorem dL_law_3913 : decode cL_law 3913 = .ok (.iload 4, 2) := dc_iload (dby_of dby_61 (j := 9) rfl) (dby_of dby_61 (j := 10) rfl) rfl
theorem dL_law_3915 : decode cL_law 3915 = .ok (.iconst 1, 1) := dc_iconst_1 (dby_of dby_61 (j := 11) rfl)
theorem dL_law_3916 : decode cL_law 3916 = .ok (.iadd, 1) := dc_iadd (dby_of dby_61 (j := 12) rfl)
theorem dL_law_3917 : decode cL_law 3917 = .ok (.iaload, 1) := dc_iaload (dby_of dby_61 (j := 13) rfl)
theorem dL_law_3918 : decode cL_law 3918 = .ok (.invokevirtual 337, 3) := dc_invokevirtual (dby_of dby_61 (j := 14) rfl) (dby_of dby_61 (j := 15) rfl) (dby_of dby_61 (j := 16) rfl) rfl
theorem dL_law_3921 : decode cL_law 3921 = .ok (.istore 6, 2) := dc_istore (dby_of dby_61 (j := 17) rfl) (dby_of dby_61 (j := 18) rfl) rfl
theorem dL_law_3923 : decode cL_law 3923 = .ok (.aload_n 2, 1) := dc_aload_n_2 (dby_of dby_61 (j := 19) rfl)
theorem dL_law_3924 : decode cL_law 3924 = .ok (.invokevirtual 183, 3) := dc_invokevirtual (dby_of dby_61 (j := 20) rfl) (dby_of dby_61 (j := 21) rfl) (dby_of dby_61 (j := 22) rfl) rfl
theorem dL_law_3927 : decode cL_law 3927 = .ok (.iload 5, 2) := dc_iload (dby_of dby_61 (j := 23) rfl) (dby_of dby_61 (j := 24) rfl) rfl
theorem dL_law_3929 : decode cL_law 3929 = .ok (.if_icmp .eq 5, 3) := dc_if_icmp_eq (dby_of dby_61 (j := 25) rfl) (dby_of dby_61 (j := 26) rfl) (dby_of dby_61 (j := 27) rfl) (by decide)
theorem dL_law_3932 : decode cL_law 3932 = .ok (.iconst 0, 1) := dc_iconst_0 (dby_of dby_61 (j := 28) rfl)
theorem dL_law_3933 : decode cL_law 3933 = .ok (.ireturn, 1) := dc_ireturn (dby_of dby_61 (j := 29) rfl)
theorem dL_law_3934 : decode cL_law 3934 = .ok (.iload 5, 2) := dc_iload (dby_of dby_61 (j := 30) rfl) (dby_of dby_61 (j := 31) rfl) rfl
theorem dL_law_3936 : decode cL_law 3936 = .ok (.ifCond .ne 15, 3) := dc_ifCond_ne (dby_of dby_61 (j := 32) rfl) (dby_of dby_61 (j := 33) rfl) (dby_of dby_61 (j := 34) rfl) (by decide)
theorem dL_law_3939 : decode cL_law 3939 = .ok (.aload_n 3, 1) := dc_aload_n_3 (dby_of dby_61 (j := 35) rfl)
theorem dL_law_3940 : decode cL_law 3940 = .ok (.iconst 0, 1) := dc_iconst_0 (dby_of dby_61 (j := 36) rfl)
theorem dL_law_3941 : decode cL_law 3941 = .ok (.laload, 1) := dc_laload (dby_of dby_61 (j := 37) rfl)
theorem dL_law_3942 : decode cL_law 3942 = .ok (.iload 6, 2) := dc_iload (dby_of dby_61 (j := 38) rfl) (dby_of dby_61 (j := 39) rfl) rfl
theorem dL_law_3944 : decode cL_law 3944 = .ok (.i2l, 1) := dc_i2l (dby_of dby_61 (j := 40) rfl)
theorem dL_law_3945 : decode cL_law 3945 = .ok (.lcmp, 1) := dc_lcmp (dby_of dby_61 (j := 41) rfl)
theorem dL_law_3946 : decode cL_law 3946 = .ok (.ifCond .eq 5, 3) := dc_ifCond_eq (dby_of dby_61 (j := 42) rfl) (dby_of dby_61 (j := 43) rfl) (dby_of dby_61 (j := 44) rfl) (by decide)
theorem dL_law_3949 : decode cL_law 3949 = .ok (.iconst 0, 1) := dc_iconst_0 (dby_of dby_61 (j := 45) rfl)
theorem dL_law_3950 : decode cL_law 3950 = .ok (.ireturn, 1) := dc_ireturn (dby_of dby_61 (j := 46) rfl)
theorem dL_law_3951 : decode cL_law 3951 = .ok (.goto 600, 3) := dc_goto (dby_of dby_61 (j := 47) rfl) (dby_of dby_61 (j := 48) rfl) (dby_of dby_61 (j := 49) rfl) (by decide)
theorem dL_law_3954 : decode cL_law 3954 = .ok (.aload_n 1, 1) := dc_aload_n_1 (dby_of dby_61 (j := 50) rfl)
theorem dL_law_3955 : decode cL_law 3955 = .ok (.aload_n 0, 1) := dc_aload_n_0 (dby_of dby_61 (j := 51) rfl)
theorem dL_law_3956 : decode cL_law 3956 = .ok (.iload 4, 2) := dc_iload (dby_of dby_61 (j := 52) rfl) (dby_of dby_61 (j := 53) rfl) rfl
theorem dL_law_3958 : decode cL_law 3958 = .ok (.iconst 1, 1) := dc_iconst_1 (dby_of dby_61 (j := 54) rfl)
theorem dL_law_3959 : decode cL_law 3959 = .ok (.iadd, 1) := dc_iadd (dby_of dby_61 (j := 55) rfl)
theorem dL_law_3960 : decode cL_law 3960 = .ok (.iaload, 1) := dc_iaload (dby_of dby_61 (j := 56) rfl)
theorem dL_law_3961 : decode cL_law 3961 = .ok (.invokevirtual 338, 3) := dc_invokevirtual (dby_of dby_61 (j := 57) rfl) (dby_of dby_61 (j := 58) rfl) (dby_of dby_61 (j := 59) rfl) rfl
theorem dL_law_3964 : decode cL_law 3964 = .ok (.aload_n 2, 1) := dc_aload_n_2 (dby_of dby_61 (j := 60) rfl)
theorem dL_law_3965 : decode cL_law 3965 = .ok (.aload_n 0, 1) := dc_aload_n_0 (dby_of dby_61 (j := 61) rfl)
theorem dL_law_3966 : decode cL_law 3966 = .ok (.iload 4, 2) := dc_iload (dby_of dby_61 (j := 62) rfl) (dby_of dby_61 (j := 63) rfl) rfl
theorem dL_law_3968 : decode cL_law 3968 = .ok (.iconst 1, 1) := dc_iconst_1 (dby_of dby_62 (j := 0) rfl)
theorem dL_law_3969 : decode cL_law 3969 = .ok (.iadd, 1) := dc_iadd (dby_of dby_62 (j := 1) rfl)
theorem dL_law_3970 : decode cL_law 3970 = .ok (.iaload, 1) := dc_iaload (dby_of dby_62 (j := 2) rfl)
theorem dL_law_3971 : decode cL_law 3971 = .ok (.invokevirtual 341, 3) := dc_invokevirtual (dby_of dby_62 (j := 3) rfl) (dby_of dby_62 (j := 4) rfl) (dby_of dby_62 (j := 5) rfl) rfl
theorem dL_law_3974 : decode cL_law 3974 = .ok (.if_icmp .eq 577, 3) := dc_if_icmp_eq (dby_of dby_62 (j := 6) rfl) (dby_of dby_62 (j := 7) rfl) (dby_of dby_62 (j := 8) rfl) (by decide)
theorem dL_law_3977 : decode cL_law 3977 = .ok (.iconst 0, 1) := dc_iconst_0 (dby_of dby_62 (j := 9) rfl)
theorem dL_law_3978 : decode cL_law 3978 = .ok (.ireturn, 1) := dc_ireturn (dby_of dby_62 (j := 10) rfl)
theorem dL_law_3979 : decode cL_law 3979 = .ok (.aload_n 1, 1) := dc_aload_n_1 (dby_of dby_62 (j := 11) rfl)
theorem dL_law_3980 : decode cL_law 3980 = .ok (.aload_n 0, 1) := dc_aload_n_0 (dby_of dby_62 (j := 12) rfl)
theorem dL_law_3981 : decode cL_law 3981 = .ok (.iload 4, 2) := dc_iload (dby_of dby_62 (j := 13) rfl) (dby_of dby_62 (j := 14) rfl) rfl
theorem dL_law_3983 : decode cL_law 3983 = .ok (.iconst 1, 1) := dc_iconst_1 (dby_of dby_62 (j := 15) rfl)
theorem dL_law_3984 : decode cL_law 3984 = .ok (.iadd, 1) := dc_iadd (dby_of dby_62 (j := 16) rfl)
theorem dL_law_3985 : decode cL_law 3985 = .ok (.iaload, 1) := dc_iaload (dby_of dby_62 (j := 17) rfl)
theorem dL_law_3986 : decode cL_law 3986 = .ok (.aload_n 0, 1) := dc_aload_n_0 (dby_of dby_62 (j := 18) rfl)
theorem dL_law_3987 : decode cL_law 3987 = .ok (.iload 4, 2) := dc_iload (dby_of dby_62 (j := 19) rfl) (dby_of dby_62 (j := 20) rfl) rfl
theorem dL_law_3989 : decode cL_law 3989 = .ok (.iconst 2, 1) := dc_iconst_2 (dby_of dby_62 (j := 21) rfl)
theorem dL_law_3990 : decode cL_law 3990 = .ok (.iadd, 1) := dc_iadd (dby_of dby_62 (j := 22) rfl)
theorem dL_law_3991 : decode cL_law 3991 = .ok (.iaload, 1) := dc_iaload (dby_of dby_62 (j := 23) rfl)
theorem dL_law_3992 : decode cL_law 3992 = .ok (.aload_n 3, 1) := dc_aload_n_3 (dby_of dby_62 (j := 24) rfl)
theorem dL_law_3993 : decode cL_law 3993 = .ok (.invokestatic 342, 3) := dc_invokestatic (dby_of dby_62 (j := 25) rfl) (dby_of dby_62 (j := 26) rfl) (dby_of dby_62 (j := 27) rfl) rfl
theorem dL_law_3996 : decode cL_law 3996 = .ok (.istore 5, 2) := dc_istore (dby_of dby_62 (j := 28) rfl) (dby_of dby_62 (j := 29) rfl) rfl
theorem dL_law_3998 : decode cL_law 3998 = .ok (.aload_n 2, 1) := dc_aload_n_2 (dby_of dby_62 (j := 30) rfl)
theorem dL_law_3999 : decode cL_law 3999 = .ok (.aload_n 0, 1) := dc_aload_n_0 (dby_of dby_62 (j := 31) rfl)
theorem dL_law_4000 : decode cL_law 4000 = .ok (.iload 4, 2) := dc_iload (dby_of dby_62 (j := 32) rfl) (dby_of dby_62 (j := 33) rfl) rfl
theorem dL_law_4002 : decode cL_law 4002 = .ok (.iconst 1, 1) := dc_iconst_1 (dby_of dby_62 (j := 34) rfl)
theorem dL_law_4003 : decode cL_law 4003 = .ok (.iadd, 1) := dc_iadd (dby_of dby_62 (j := 35) rfl)
theorem dL_law_4004 : decode cL_law 4004 = .ok (.iaload, 1) := dc_iaload (dby_of dby_62 (j := 36) rfl)
theorem dL_law_4005 : decode cL_law 4005 = .ok (.aload_n 0, 1) := dc_aload_n_0 (dby_of dby_62 (j := 37) rfl)
theorem dL_law_4006 : decode cL_law 4006 = .ok (.iload 4, 2) := dc_iload (dby_of dby_62 (j := 38) rfl) (dby_of dby_62 (j := 39) rfl) rfl
theorem dL_law_4008 : decode cL_law 4008 = .ok (.iconst 2, 1) := dc_iconst_2 (dby_of dby_62 (j := 40) rfl)
theorem dL_law_4009 : decode cL_law 4009 = .ok (.iadd, 1) := dc_iadd (dby_of dby_62 (j := 41) rfl)
theorem dL_law_4010 : decode cL_law 4010 = .ok (.iaload, 1) := dc_iaload (dby_of dby_62 (j := 42) rfl)
theorem dL_law_4011 : decode cL_law 4011 = .ok (.invokevirtual 344, 3) := dc_invokevirtual (dby_of dby_62 (j := 43) rfl) (dby_of dby_62 (j := 44) rfl) (dby_of dby_62 (j := 45) rfl) rfl
theorem dL_law_4014 : decode cL_law 4014 = .ok (.istore 6, 2) := dc_istore (dby_of dby_62 (j := 46) rfl) (dby_of dby_62 (j := 47) rfl) rfl
theorem dL_law_4016 : decode cL_law 4016 = .ok (.aload_n 2, 1) := dc_aload_n_2 (dby_of dby_62 (j := 48) rfl)
theorem dL_law_4017 : decode cL_law 4017 = .ok (.invokevirtual 183, 3) := dc_invokevirtual (dby_of dby_62 (j := 49) rfl) (dby_of dby_62 (j := 50) rfl) (dby_of dby_62 (j := 51) rfl) rfl
theorem dL_law_4020 : decode cL_law 4020 = .ok (.iload 5, 2) := dc_iload (dby_of dby_62 (j := 52) rfl) (dby_of dby_62 (j := 53) rfl) rfl
theorem dL_law_4022 : decode cL_law 4022 = .ok (.if_icmp .eq 5, 3) := dc_if_icmp_eq (dby_of dby_62 (j := 54) rfl) (dby_of dby_62 (j := 55) rfl) (dby_of dby_62 (j := 56) rfl) (by decide)
theorem dL_law_4025 : decode cL_law 4025 = .ok (.iconst 0, 1) := dc_iconst_0 (dby_of dby_62 (j := 57) rfl)
theorem dL_law_4026 : decode cL_law 4026 = .ok (.ireturn, 1) := dc_ireturn (dby_of dby_62 (j := 58) rfl)
theorem dL_law_4027 : decode cL_law 4027 = .ok (.iload 5, 2) := dc_iload (dby_of dby_62 (j := 59) rfl) (dby_of dby_62 (j := 60) rfl) rfl
theorem dL_law_4029 : decode cL_law 4029 = .ok (.ifCond .ne 22, 3) := dc_ifCond_ne (dby_of dby_62 (j := 61) rfl) (dby_of dby_62 (j := 62) rfl) (dby_of dby_62 (j := 63) rfl) (by decide)
theorem dL_law_4032 : decode cL_law 4032 = .ok (.aload_n 3, 1) := dc_aload_n_3 (dby_of dby_63 (j := 0) rfl)
theorem dL_law_4033 : decode cL_law 4033 = .ok (.iconst 0, 1) := dc_iconst_0 (dby_of dby_63 (j := 1) rfl)
theorem dL_law_4034 : decode cL_law 4034 = .ok (.laload, 1) := dc_laload (dby_of dby_63 (j := 2) rfl)
theorem dL_law_4035 : decode cL_law 4035 = .ok (.iload 6, 2) := dc_iload (dby_of dby_63 (j := 3) rfl) (dby_of dby_63 (j := 4) rfl) rfl
theorem dL_law_4037 : decode cL_law 4037 = .ok (.ifCond .eq 7, 3) := dc_ifCond_eq (dby_of dby_63 (j := 5) rfl) (dby_of dby_63 (j := 6) rfl) (dby_of dby_63 (j := 7) rfl) (by decide)
theorem dL_law_4040 : decode cL_law 4040 = .ok (.lconst 1, 1) := dc_lconst_1 (dby_of dby_63 (j := 8) rfl)
theorem dL_law_4041 : decode cL_law 4041 = .ok (.goto 4, 3) := dc_goto (dby_of dby_63 (j := 9) rfl) (dby_of dby_63 (j := 10) rfl) (dby_of dby_63 (j := 11) rfl) (by decide)
theorem dL_law_4044 : decode cL_law 4044 = .ok (.lconst 0, 1) := dc_lconst_0 (dby_of dby_63 (j := 12) rfl)
theorem dL_law_4045 : decode cL_law 4045 = .ok (.lcmp, 1) := dc_lcmp (dby_of dby_63 (j := 13) rfl)
theorem dL_law_4046 : decode cL_law 4046 = .ok (.ifCond .eq 5, 3) := dc_ifCond_eq (dby_of dby_63 (j := 14) rfl) (dby_of dby_63 (j := 15) rfl) (dby_of dby_63 (j := 16) rfl) (by decide)
theorem dL_law_4049 : decode cL_law 4049 = .ok (.iconst 0, 1) := dc_iconst_0 (dby_of dby_63 (j := 17) rfl)
theorem dL_law_4050 : decode cL_law 4050 = .ok (.ireturn, 1) := dc_ireturn (dby_of dby_63 (j := 18) rfl)
theorem dL_law_4051 : decode cL_law 4051 = .ok (.goto 500, 3) := dc_goto (dby_of dby_63 (j := 19) rfl) (dby_of dby_63 (j := 20) rfl) (dby_of dby_63 (j := 21) rfl) (by decide)
theorem dL_law_4054 : decode cL_law 4054 = .ok (.aload_n 1, 1) := dc_aload_n_1 (dby_of dby_63 (j := 22) rfl)
theorem dL_law_4055 : decode cL_law 4055 = .ok (.aload_n 0, 1) := dc_aload_n_0 (dby_of dby_63 (j := 23) rfl)
theorem dL_law_4056 : decode cL_law 4056 = .ok (.iload 4, 2) := dc_iload (dby_of dby_63 (j := 24) rfl) (dby_of dby_63 (j := 25) rfl) rfl
theorem dL_law_4058 : decode cL_law 4058 = .ok (.iconst 1, 1) := dc_iconst_1 (dby_of dby_63 (j := 26) rfl)
theorem dL_law_4059 : decode cL_law 4059 = .ok (.iadd, 1) := dc_iadd (dby_of dby_63 (j := 27) rfl)
theorem dL_law_4060 : decode cL_law 4060 = .ok (.iaload, 1) := dc_iaload (dby_of dby_63 (j := 28) rfl)
theorem dL_law_4061 : decode cL_law 4061 = .ok (.aload_n 0, 1) := dc_aload_n_0 (dby_of dby_63 (j := 29) rfl)
theorem dL_law_4062 : decode cL_law 4062 = .ok (.iload 4, 2) := dc_iload (dby_of dby_63 (j := 30) rfl) (dby_of dby_63 (j := 31) rfl) rfl
theorem dL_law_4064 : decode cL_law 4064 = .ok (.iconst 2, 1) := dc_iconst_2 (dby_of dby_63 (j := 32) rfl)
theorem dL_law_4065 : decode cL_law 4065 = .ok (.iadd, 1) := dc_iadd (dby_of dby_63 (j := 33) rfl)
theorem dL_law_4066 : decode cL_law 4066 = .ok (.iaload, 1) := dc_iaload (dby_of dby_63 (j := 34) rfl)
theorem dL_law_4067 : decode cL_law 4067 = .ok (.aload_n 0, 1) := dc_aload_n_0 (dby_of dby_63 (j := 35) rfl)
theorem dL_law_4068 : decode cL_law 4068 = .ok (.iload 4, 2) := dc_iload (dby_of dby_63 (j := 36) rfl) (dby_of dby_63 (j := 37) rfl) rfl
theorem dL_law_4070 : decode cL_law 4070 = .ok (.iconst 3, 1) := dc_iconst_3 (dby_of dby_63 (j := 38) rfl)
theorem dL_law_4071 : decode cL_law 4071 = .ok (.iadd, 1) := dc_iadd (dby_of dby_63 (j := 39) rfl)
theorem dL_law_4072 : decode cL_law 4072 = .ok (.iaload, 1) := dc_iaload (dby_of dby_63 (j := 40) rfl)
theorem dL_law_4073 : decode cL_law 4073 = .ok (.invokevirtual 345, 3) := dc_invokevirtual (dby_of dby_63 (j := 41) rfl) (dby_of dby_63 (j := 42) rfl) (dby_of dby_63 (j := 43) rfl) rfl
theorem dL_law_4076 : decode cL_law 4076 = .ok (.aload_n 2, 1) := dc_aload_n_2 (dby_of dby_63 (j := 44) rfl)
theorem dL_law_4077 : decode cL_law 4077 = .ok (.aload_n 0, 1) := dc_aload_n_0 (dby_of dby_63 (j := 45) rfl)
theorem dL_law_4078 : decode cL_law 4078 = .ok (.iload 4, 2) := dc_iload (dby_of dby_63 (j := 46) rfl) (dby_of dby_63 (j := 47) rfl) rfl
theorem dL_law_4080 : decode cL_law 4080 = .ok (.iconst 1, 1) := dc_iconst_1 (dby_of dby_63 (j := 48) rfl)
theorem dL_law_4081 : decode cL_law 4081 = .ok (.iadd, 1) := dc_iadd (dby_of dby_63 (j := 49) rfl)
theorem dL_law_4082 : decode cL_law 4082 = .ok (.iaload, 1) := dc_iaload (dby_of dby_63 (j := 50) rfl)
theorem dL_law_4083 : decode cL_law 4083 = .ok (.aload_n 0, 1) := dc_aload_n_0 (dby_of dby_63 (j := 51) rfl)
theorem dL_law_4084 : decode cL_law 4084 = .ok (.iload 4, 2) := dc_iload (dby_of dby_63 (j := 52) rfl) (dby_of dby_63 (j := 53) rfl) rfl
theorem dL_law_4086 : decode cL_law 4086 = .ok (.iconst 2, 1) := dc_iconst_2 (dby_of dby_63 (j := 54) rfl)
theorem dL_law_4087 : decode cL_law 4087 = .ok (.iadd, 1) := dc_iadd (dby_of dby_63 (j := 55) rfl)
theorem dL_law_4088 : decode cL_law 4088 = .ok (.iaload, 1) := dc_iaload (dby_of dby_63 (j := 56) rfl)
theorem dL_law_4089 : decode cL_law 4089 = .ok (.aload_n 0, 1) := dc_aload_n_0 (dby_of dby_63 (j := 57) rfl)
theorem dL_law_4090 : decode cL_law 4090 = .ok (.iload 4, 2) := dc_iload (dby_of dby_63 (j := 58) rfl) (dby_of dby_63 (j := 59) rfl) rfl
theorem dL_law_4092 : decode cL_law 4092 = .ok (.iconst 3, 1) := dc_iconst_3 (dby_of dby_63 (j := 60) rfl)
theorem dL_law_4093 : decode cL_law 4093 = .ok (.iadd, 1) := dc_iadd (dby_of dby_63 (j := 61) rfl)
theorem dL_law_4094 : decode cL_law 4094 = .ok (.iaload, 1) := dc_iaload (dby_of dby_63 (j := 62) rfl)
theorem dL_law_4095 : decode cL_law 4095 = .ok (.invokevirtual 348, 3) := dc_invokevirtual (dby_of dby_63 (j := 63) rfl) (dby_of dby_64 (j := 0) rfl) (dby_of dby_64 (j := 1) rfl) rfl
theorem dL_law_4098 : decode cL_law 4098 = .ok (.if_icmp .eq 453, 3) := dc_if_icmp_eq (dby_of dby_64 (j := 2) rfl) (dby_of dby_64 (j := 3) rfl) (dby_of dby_64 (j := 4) rfl) (by decide)
theorem dL_law_4101 : decode cL_law 4101 = .ok (.iconst 0, 1) := dc_iconst_0 (dby_of dby_64 (j := 5) rfl)
theorem dL_law_4102 : decode cL_law 4102 = .ok (.ireturn, 1) := dc_ireturn (dby_of dby_64 (j := 6) rfl)
theorem dL_law_4103 : decode cL_law 4103 = .ok (.aload_n 1, 1) := dc_aload_n_1 (dby_of dby_64 (j := 7) rfl)
theorem dL_law_4104 : decode cL_law 4104 = .ok (.aload_n 0, 1) := dc_aload_n_0 (dby_of dby_64 (j := 8) rfl)
theorem dL_law_4105 : decode cL_law 4105 = .ok (.iload 4, 2) := dc_iload (dby_of dby_64 (j := 9) rfl) (dby_of dby_64 (j := 10) rfl) rfl
theorem dL_law_4107 : decode cL_law 4107 = .ok (.iconst 1, 1) := dc_iconst_1 (dby_of dby_64 (j := 11) rfl)
theorem dL_law_4108 : decode cL_law 4108 = .ok (.iadd, 1) := dc_iadd (dby_of dby_64 (j := 12) rfl)
theorem dL_law_4109 : decode cL_law 4109 = .ok (.iaload, 1) := dc_iaload (dby_of dby_64 (j := 13) rfl)
theorem dL_law_4110 : decode cL_law 4110 = .ok (.aload_n 3, 1) := dc_aload_n_3 (dby_of dby_64 (j := 14) rfl)
theorem dL_law_4111 : decode cL_law 4111 = .ok (.invokestatic 349, 3) := dc_invokestatic (dby_of dby_64 (j := 15) rfl) (dby_of dby_64 (j := 16) rfl) (dby_of dby_64 (j := 17) rfl) rfl
theorem dL_law_4114 : decode cL_law 4114 = .ok (.istore 5, 2) := dc_istore (dby_of dby_64 (j := 18) rfl) (dby_of dby_64 (j := 19) rfl) rfl
theorem dL_law_4116 : decode cL_law 4116 = .ok (.aload_n 2, 1) := dc_aload_n_2 (dby_of dby_64 (j := 20) rfl)
theorem dL_law_4117 : decode cL_law 4117 = .ok (.aload_n 0, 1) := dc_aload_n_0 (dby_of dby_64 (j := 21) rfl)
theorem dL_law_4118 : decode cL_law 4118 = .ok (.iload 4, 2) := dc_iload (dby_of dby_64 (j := 22) rfl) (dby_of dby_64 (j := 23) rfl) rfl
theorem dL_law_4120 : decode cL_law 4120 = .ok (.iconst 1, 1) := dc_iconst_1 (dby_of dby_64 (j := 24) rfl)
theorem dL_law_4121 : decode cL_law 4121 = .ok (.iadd, 1) := dc_iadd (dby_of dby_64 (j := 25) rfl)
theorem dL_law_4122 : decode cL_law 4122 = .ok (.iaload, 1) := dc_iaload (dby_of dby_64 (j := 26) rfl)
theorem dL_law_4123 : decode cL_law 4123 = .ok (.invokevirtual 351, 3) := dc_invokevirtual (dby_of dby_64 (j := 27) rfl) (dby_of dby_64 (j := 28) rfl) (dby_of dby_64 (j := 29) rfl) rfl
theorem dL_law_4126 : decode cL_law 4126 = .ok (.istore 6, 2) := dc_istore (dby_of dby_64 (j := 30) rfl) (dby_of dby_64 (j := 31) rfl) rfl
theorem dL_law_4128 : decode cL_law 4128 = .ok (.aload_n 2, 1) := dc_aload_n_2 (dby_of dby_64 (j := 32) rfl)
theorem dL_law_4129 : decode cL_law 4129 = .ok (.invokevirtual 183, 3) := dc_invokevirtual (dby_of dby_64 (j := 33) rfl) (dby_of dby_64 (j := 34) rfl) (dby_of dby_64 (j := 35) rfl) rfl
theorem dL_law_4132 : decode cL_law 4132 = .ok (.iload 5, 2) := dc_iload (dby_of dby_64 (j := 36) rfl) (dby_of dby_64 (j := 37) rfl) rfl
theorem dL_law_4134 : decode cL_law 4134 = .ok (.if_icmp .eq 5, 3) := dc_if_icmp_eq (dby_of dby_64 (j := 38) rfl) (dby_of dby_64 (j := 39) rfl) (dby_of dby_64 (j := 40) rfl) (by decide)
theorem dL_law_4137 : decode cL_law 4137 = .ok (.iconst 0, 1) := dc_iconst_0 (dby_of dby_64 (j := 41) rfl)
theorem dL_law_4138 : decode cL_law 4138 = .ok (.ireturn, 1) := dc_ireturn (dby_of dby_64 (j := 42) rfl)
theorem dL_law_4139 : decode cL_law 4139 = .ok (.iload 5, 2) := dc_iload (dby_of dby_64 (j := 43) rfl) (dby_of dby_64 (j := 44) rfl) rfl
theorem dL_law_4141 : decode cL_law 4141 = .ok (.ifCond .ne 15, 3) := dc_ifCond_ne (dby_of dby_64 (j := 45) rfl) (dby_of dby_64 (j := 46) rfl) (dby_of dby_64 (j := 47) rfl) (by decide)
theorem dL_law_4144 : decode cL_law 4144 = .ok (.aload_n 3, 1) := dc_aload_n_3 (dby_of dby_64 (j := 48) rfl)
theorem dL_law_4145 : decode cL_law 4145 = .ok (.iconst 0, 1) := dc_iconst_0 (dby_of dby_64 (j := 49) rfl)
theorem dL_law_4146 : decode cL_law 4146 = .ok (.laload, 1) := dc_laload (dby_of dby_64 (j := 50) rfl)
theorem dL_law_4147 : decode cL_law 4147 = .ok (.iload 6, 2) := dc_iload (dby_of dby_64 (j := 51) rfl) (dby_of dby_64 (j := 52) rfl) rfl
theorem dL_law_4149 : decode cL_law 4149 = .ok (.i2l, 1) := dc_i2l (dby_of dby_64 (j := 53) rfl)
theorem dL_law_4150 : decode cL_law 4150 = .ok (.lcmp, 1) := dc_lcmp (dby_of dby_64 (j := 54) rfl)
theorem dL_law_4151 : decode cL_law 4151 = .ok (.ifCond .eq 5, 3) := dc_ifCond_eq (dby_of dby_64 (j := 55) rfl) (dby_of dby_64 (j := 56) rfl) (dby_of dby_64 (j := 57) rfl) (by decide)
theorem dL_law_4154 : decode cL_law 4154 = .ok (.iconst 0, 1) := dc_iconst_0 (dby_of dby_64 (j := 58) rfl)
theorem dL_law_4155 : decode cL_law 4155 = .ok (.ireturn, 1) := dc_ireturn (dby_of dby_64 (j := 59) rfl)
theorem dL_law_4156 : decode cL_law 4156 = .ok (.goto 395, 3) := dc_goto (dby_of dby_64 (j := 60) rfl) (dby_of dby_64 (j := 61) rfl) (dby_of dby_64 (j := 62) rfl) (by decide)
theorem dL_law_4159 : decode cL_law 4159 = .ok (.aload_n 1, 1) := dc_aload_n_1 (dby_of dby_64 (j := 63) rfl)
theorem dL_law_4160 : decode cL_law 4160 = .ok (.aload_n 0, 1) := dc_aload_n_0 (dby_of dby_65 (j := 0) rfl)
theorem dL_law_4161 : decode cL_law 4161 = .ok (.iload 4, 2) := dc_iload (dby_of dby_65 (j := 1) rfl) (dby_of dby_65 (j := 2) rfl) rfl
theorem dL_law_4163 : decode cL_law 4163 = .ok (.iconst 1, 1) := dc_iconst_1 (dby_of dby_65 (j := 3) rfl)
theorem dL_law_4164 : decode cL_law 4164 = .ok (.iadd, 1) := dc_iadd (dby_of dby_65 (j := 4) rfl)
theorem dL_law_4165 : decode cL_law 4165 = .ok (.iaload, 1) := dc_iaload (dby_of dby_65 (j := 5) rfl)
theorem dL_law_4166 : decode cL_law 4166 = .ok (.aload_n 0, 1) := dc_aload_n_0 (dby_of dby_65 (j := 6) rfl)
theorem dL_law_4167 : decode cL_law 4167 = .ok (.iload 4, 2) := dc_iload (dby_of dby_65 (j := 7) rfl) (dby_of dby_65 (j := 8) rfl) rfl
theorem dL_law_4169 : decode cL_law 4169 = .ok (.iconst 2, 1) := dc_iconst_2 (dby_of dby_65 (j := 9) rfl)
theorem dL_law_4170 : decode cL_law 4170 = .ok (.iadd, 1) := dc_iadd (dby_of dby_65 (j := 10) rfl)
theorem dL_law_4171 : decode cL_law 4171 = .ok (.iaload, 1) := dc_iaload (dby_of dby_65 (j := 11) rfl)
theorem dL_law_4172 : decode cL_law 4172 = .ok (.aload_n 0, 1) := dc_aload_n_0 (dby_of dby_65 (j := 12) rfl)
theorem dL_law_4173 : decode cL_law 4173 = .ok (.iload 4, 2) := dc_iload (dby_of dby_65 (j := 13) rfl) (dby_of dby_65 (j := 14) rfl) rfl
theorem dL_law_4175 : decode cL_law 4175 = .ok (.iconst 3, 1) := dc_iconst_3 (dby_of dby_65 (j := 15) rfl)
theorem dL_law_4176 : decode cL_law 4176 = .ok (.iadd, 1) := dc_iadd (dby_of dby_65 (j := 16) rfl)
theorem dL_law_4177 : decode cL_law 4177 = .ok (.iaload, 1) := dc_iaload (dby_of dby_65 (j := 17) rfl)
theorem dL_law_4178 : decode cL_law 4178 = .ok (.invokestatic 352, 3) := dc_invokestatic (dby_of dby_65 (j := 18) rfl) (dby_of dby_65 (j := 19) rfl) (dby_of dby_65 (j := 20) rfl) rfl
theorem dL_law_4181 : decode cL_law 4181 = .ok (.istore 5, 2) := dc_istore (dby_of dby_65 (j := 21) rfl) (dby_of dby_65 (j := 22) rfl) rfl
theorem dL_law_4183 : decode cL_law 4183 = .ok (.aload_n 2, 1) := dc_aload_n_2 (dby_of dby_65 (j := 23) rfl)
theorem dL_law_4184 : decode cL_law 4184 = .ok (.aload_n 0, 1) := dc_aload_n_0 (dby_of dby_65 (j := 24) rfl)
theorem dL_law_4185 : decode cL_law 4185 = .ok (.iload 4, 2) := dc_iload (dby_of dby_65 (j := 25) rfl) (dby_of dby_65 (j := 26) rfl) rfl
theorem dL_law_4187 : decode cL_law 4187 = .ok (.iconst 1, 1) := dc_iconst_1 (dby_of dby_65 (j := 27) rfl)
theorem dL_law_4188 : decode cL_law 4188 = .ok (.iadd, 1) := dc_iadd (dby_of dby_65 (j := 28) rfl)
theorem dL_law_4189 : decode cL_law 4189 = .ok (.iaload, 1) := dc_iaload (dby_of dby_65 (j := 29) rfl)
theorem dL_law_4190 : decode cL_law 4190 = .ok (.aload_n 0, 1) := dc_aload_n_0 (dby_of dby_65 (j := 30) rfl)
theorem dL_law_4191 : decode cL_law 4191 = .ok (.iload 4, 2) := dc_iload (dby_of dby_65 (j := 31) rfl) (dby_of dby_65 (j := 32) rfl) rfl
theorem dL_law_4193 : decode cL_law 4193 = .ok (.iconst 2, 1) := dc_iconst_2 (dby_of dby_65 (j := 33) rfl)
theorem dL_law_4194 : decode cL_law 4194 = .ok (.iadd, 1) := dc_iadd (dby_of dby_65 (j := 34) rfl)
theorem dL_law_4195 : decode cL_law 4195 = .ok (.iaload, 1) := dc_iaload (dby_of dby_65 (j := 35) rfl)
theorem dL_law_4196 : decode cL_law 4196 = .ok (.aload_n 0, 1) := dc_aload_n_0 (dby_of dby_65 (j := 36) rfl)
theorem dL_law_4197 : decode cL_law 4197 = .ok (.iload 4, 2) := dc_iload (dby_of dby_65 (j := 37) rfl) (dby_of dby_65 (j := 38) rfl) rfl
theorem dL_law_4199 : decode cL_law 4199 = .ok (.iconst 3, 1) := dc_iconst_3 (dby_of dby_65 (j := 39) rfl)
theorem dL_law_4200 : decode cL_law 4200 = .ok (.iadd, 1) := dc_iadd (dby_of dby_65 (j := 40) rfl)
theorem dL_law_4201 : decode cL_law 4201 = .ok (.iaload, 1) := dc_iaload (dby_of dby_65 (j := 41) rfl)
theorem dL_law_4202 : decode cL_law 4202 = .ok (.invokevirtual 354, 3) := dc_invokevirtual (dby_of dby_65 (j := 42) rfl) (dby_of dby_65 (j := 43) rfl) (dby_of dby_65 (j := 44) rfl) rfl
theorem dL_law_4205 : decode cL_law 4205 = .ok (.aload_n 2, 1) := dc_aload_n_2 (dby_of dby_65 (j := 45) rfl)
theorem dL_law_4206 : decode cL_law 4206 = .ok (.invokevirtual 183, 3) := dc_invokevirtual (dby_of dby_65 (j := 46) rfl) (dby_of dby_65 (j := 47) rfl) (dby_of dby_65 (j := 48) rfl) rfl
theorem dL_law_4209 : decode cL_law 4209 = .ok (.iload 5, 2) := dc_iload (dby_of dby_65 (j := 49) rfl) (dby_of dby_65 (j := 50) rfl) rfl
theorem dL_law_4211 : decode cL_law 4211 = .ok (.if_icmp .eq 5, 3) := dc_if_icmp_eq (dby_of dby_65 (j := 51) rfl) (dby_of dby_65 (j := 52) rfl) (dby_of dby_65 (j := 53) rfl) (by decide)
theorem dL_law_4214 : decode cL_law 4214 = .ok (.iconst 0, 1) := dc_iconst_0 (dby_of dby_65 (j := 54) rfl)
theorem dL_law_4215 : decode cL_law 4215 = .ok (.ireturn, 1) := dc_ireturn (dby_of dby_65 (j := 55) rfl)
theorem dL_law_4216 : decode cL_law 4216 = .ok (.goto 335, 3) := dc_goto (dby_of dby_65 (j := 56) rfl) (dby_of dby_65 (j := 57) rfl) (dby_of dby_65 (j := 58) rfl) (by decide)
theorem dL_law_4219 : decode cL_law 4219 = .ok (.aload_n 1, 1) := dc_aload_n_1 (dby_of dby_65 (j := 59) rfl)
theorem dL_law_4220 : decode cL_law 4220 = .ok (.aload_n 0, 1) := dc_aload_n_0 (dby_of dby_65 (j := 60) rfl)
theorem dL_law_4221 : decode cL_law 4221 = .ok (.iload 4, 2) := dc_iload (dby_of dby_65 (j := 61) rfl) (dby_of dby_65 (j := 62) rfl) rfl
theorem dL_law_4223 : decode cL_law 4223 = .ok (.iconst 1, 1) := dc_iconst_1 (dby_of dby_65 (j := 63) rfl)
theorem dL_law_4224 : decode cL_law 4224 = .ok (.iadd, 1) := dc_iadd (dby_of dby_66 (j := 0) rfl)
theorem dL_law_4225 : decode cL_law 4225 = .ok (.iaload, 1) := dc_iaload (dby_of dby_66 (j := 1) rfl)
theorem dL_law_4226 : decode cL_law 4226 = .ok (.aload_n 0, 1) := dc_aload_n_0 (dby_of dby_66 (j := 2) rfl)
theorem dL_law_4227 : decode cL_law 4227 = .ok (.iload 4, 2) := dc_iload (dby_of dby_66 (j := 3) rfl) (dby_of dby_66 (j := 4) rfl) rfl
theorem dL_law_4229 : decode cL_law 4229 = .ok (.iconst 2, 1) := dc_iconst_2 (dby_of dby_66 (j := 5) rfl)
theorem dL_law_4230 : decode cL_law 4230 = .ok (.iadd, 1) := dc_iadd (dby_of dby_66 (j := 6) rfl)
theorem dL_law_4231 : decode cL_law 4231 = .ok (.iaload, 1) := dc_iaload (dby_of dby_66 (j := 7) rfl)
theorem dL_law_4232 : decode cL_law 4232 = .ok (.aload_n 0, 1) := dc_aload_n_0 (dby_of dby_66 (j := 8) rfl)
theorem dL_law_4233 : decode cL_law 4233 = .ok (.iload 4, 2) := dc_iload (dby_of dby_66 (j := 9) rfl) (dby_of dby_66 (j := 10) rfl) rfl
theorem dL_law_4235 : decode cL_law 4235 = .ok (.iconst 3, 1) := dc_iconst_3 (dby_of dby_66 (j := 11) rfl)
theorem dL_law_4236 : decode cL_law 4236 = .ok (.iadd, 1) := dc_iadd (dby_of dby_66 (j := 12) rfl)
theorem dL_law_4237 : decode cL_law 4237 = .ok (.iaload, 1) := dc_iaload (dby_of dby_66 (j := 13) rfl)
theorem dL_law_4238 : decode cL_law 4238 = .ok (.i2l, 1) := dc_i2l (dby_of dby_66 (j := 14) rfl)
theorem dL_law_4239 : decode cL_law 4239 = .ok (.bipush 32, 2) := dc_bipush (dby_of dby_66 (j := 15) rfl) (dby_of dby_66 (j := 16) rfl) (by decide)
theorem dL_law_4241 : decode cL_law 4241 = .ok (.lshl, 1) := dc_lshl (dby_of dby_66 (j := 17) rfl)
theorem dL_law_4242 : decode cL_law 4242 = .ok (.aload_n 0, 1) := dc_aload_n_0 (dby_of dby_66 (j := 18) rfl)
theorem dL_law_4243 : decode cL_law 4243 = .ok (.iload 4, 2) := dc_iload (dby_of dby_66 (j := 19) rfl) (dby_of dby_66 (j := 20) rfl) rfl
theorem dL_law_4245 : decode cL_law 4245 = .ok (.iconst 4, 1) := dc_iconst_4 (dby_of dby_66 (j := 21) rfl)
theorem dL_law_4246 : decode cL_law 4246 = .ok (.iadd, 1) := dc_iadd (dby_of dby_66 (j := 22) rfl)
theorem dL_law_4247 : decode cL_law 4247 = .ok (.iaload, 1) := dc_iaload (dby_of dby_66 (j := 23) rfl)
theorem dL_law_4248 : decode cL_law 4248 = .ok (.i2l, 1) := dc_i2l (dby_of dby_66 (j := 24) rfl)
theorem dL_law_4249 : decode cL_law 4249 = .ok (.ldc2_w 261, 3) := dc_ldc2_w (dby_of dby_66 (j := 25) rfl) (dby_of dby_66 (j := 26) rfl) (dby_of dby_66 (j := 27) rfl) rfl
theorem dL_law_4252 : decode cL_law 4252 = .ok (.land, 1) := dc_land (dby_of dby_66 (j := 28) rfl)
theorem dL_law_4253 : decode cL_law 4253 = .ok (.lor, 1) := dc_lor (dby_of dby_66 (j := 29) rfl)
theorem dL_law_4254 : decode cL_law 4254 = .ok (.aload_n 3, 1) := dc_aload_n_3 (dby_of dby_66 (j := 30) rfl)
theorem dL_law_4255 : decode cL_law 4255 = .ok (.invokestatic 355, 3) := dc_invokestatic (dby_of dby_66 (j := 31) rfl) (dby_of dby_66 (j := 32) rfl) (dby_of dby_66 (j := 33) rfl) rfl
theorem dL_law_4258 : decode cL_law 4258 = .ok (.istore 5, 2) := dc_istore (dby_of dby_66 (j := 34) rfl) (dby_of dby_66 (j := 35) rfl) rfl
theorem dL_law_4260 : decode cL_law 4260 = .ok (.aload_n 2, 1) := dc_aload_n_2 (dby_of dby_66 (j := 36) rfl)
theorem dL_law_4261 : decode cL_law 4261 = .ok (.aload_n 0, 1) := dc_aload_n_0 (dby_of dby_66 (j := 37) rfl)
theorem dL_law_4262 : decode cL_law 4262 = .ok (.iload 4, 2) := dc_iload (dby_of dby_66 (j := 38) rfl) (dby_of dby_66 (j := 39) rfl) rfl
theorem dL_law_4264 : decode cL_law 4264 = .ok (.iconst 1, 1) := dc_iconst_1 (dby_of dby_66 (j := 40) rfl)
theorem dL_law_4265 : decode cL_law 4265 = .ok (.iadd, 1) := dc_iadd (dby_of dby_66 (j := 41) rfl)
theorem dL_law_4266 : decode cL_law 4266 = .ok (.iaload, 1) := dc_iaload (dby_of dby_66 (j := 42) rfl)
theorem dL_law_4267 : decode cL_law 4267 = .ok (.aload_n 0, 1) := dc_aload_n_0 (dby_of dby_66 (j := 43) rfl)
theorem dL_law_4268 : decode cL_law 4268 = .ok (.iload 4, 2) := dc_iload (dby_of dby_66 (j := 44) rfl) (dby_of dby_66 (j := 45) rfl) rfl
theorem dL_law_4270 : decode cL_law 4270 = .ok (.iconst 2, 1) := dc_iconst_2 (dby_of dby_66 (j := 46) rfl)
theorem dL_law_4271 : decode cL_law 4271 = .ok (.iadd, 1) := dc_iadd (dby_of dby_66 (j := 47) rfl)
theorem dL_law_4272 : decode cL_law 4272 = .ok (.iaload, 1) := dc_iaload (dby_of dby_66 (j := 48) rfl)
theorem dL_law_4273 : decode cL_law 4273 = .ok (.aload_n 0, 1) := dc_aload_n_0 (dby_of dby_66 (j := 49) rfl)
theorem dL_law_4274 : decode cL_law 4274 = .ok (.iload 4, 2) := dc_iload (dby_of dby_66 (j := 50) rfl) (dby_of dby_66 (j := 51) rfl) rfl
theorem dL_law_4276 : decode cL_law 4276 = .ok (.iconst 3, 1) := dc_iconst_3 (dby_of dby_66 (j := 52) rfl)
theorem dL_law_4277 : decode cL_law 4277 = .ok (.iadd, 1) := dc_iadd (dby_of dby_66 (j := 53) rfl)
theorem dL_law_4278 : decode cL_law 4278 = .ok (.iaload, 1) := dc_iaload (dby_of dby_66 (j := 54) rfl)
theorem dL_law_4279 : decode cL_law 4279 = .ok (.i2l, 1) := dc_i2l (dby_of dby_66 (j := 55) rfl)
theorem dL_law_4280 : decode cL_law 4280 = .ok (.bipush 32, 2) := dc_bipush (dby_of dby_66 (j := 56) rfl) (dby_of dby_66 (j := 57) rfl) (by decide)
theorem dL_law_4282 : decode cL_law 4282 = .ok (.lshl, 1) := dc_lshl (dby_of dby_66 (j := 58) rfl)
theorem dL_law_4283 : decode cL_law 4283 = .ok (.aload_n 0, 1) := dc_aload_n_0 (dby_of dby_66 (j := 59) rfl)
theorem dL_law_4284 : decode cL_law 4284 = .ok (.iload 4, 2) := dc_iload (dby_of dby_66 (j := 60) rfl) (dby_of dby_66 (j := 61) rfl) rfl
theorem dL_law_4286 : decode cL_law 4286 = .ok (.iconst 4, 1) := dc_iconst_4 (dby_of dby_66 (j := 62) rfl)
theorem dL_law_4287 : decode cL_law 4287 = .ok (.iadd, 1) := dc_iadd (dby_of dby_66 (j := 63) rfl)
theorem dL_law_4288 : decode cL_law 4288 = .ok (.iaload, 1) := dc_iaload (dby_of dby_67 (j := 0) rfl)
theorem dL_law_4289 : decode cL_law 4289 = .ok (.i2l, 1) := dc_i2l (dby_of dby_67 (j := 1) rfl)
theorem dL_law_4290 : decode cL_law 4290 = .ok (.ldc2_w 261, 3) := dc_ldc2_w (dby_of dby_67 (j := 2) rfl) (dby_of dby_67 (j := 3) rfl) (dby_of dby_67 (j := 4) rfl) rfl
theorem dL_law_4293 : decode cL_law 4293 = .ok (.land, 1) := dc_land (dby_of dby_67 (j := 5) rfl)
theorem dL_law_4294 : decode cL_law 4294 = .ok (.lor, 1) := dc_lor (dby_of dby_67 (j := 6) rfl)
theorem dL_law_4295 : decode cL_law 4295 = .ok (.invokevirtual 358, 3) := dc_invokevirtual (dby_of dby_67 (j := 7) rfl) (dby_of dby_67 (j := 8) rfl) (dby_of dby_67 (j := 9) rfl) rfl
theorem dL_law_4298 : decode cL_law 4298 = .ok (.lstore 6, 2) := dc_lstore (dby_of dby_67 (j := 10) rfl) (dby_of dby_67 (j := 11) rfl) rfl
theorem dL_law_4300 : decode cL_law 4300 = .ok (.aload_n 2, 1) := dc_aload_n_2 (dby_of dby_67 (j := 12) rfl)
theorem dL_law_4301 : decode cL_law 4301 = .ok (.invokevirtual 183, 3) := dc_invokevirtual (dby_of dby_67 (j := 13) rfl) (dby_of dby_67 (j := 14) rfl) (dby_of dby_67 (j := 15) rfl) rfl
theorem dL_law_4304 : decode cL_law 4304 = .ok (.iload 5, 2) := dc_iload (dby_of dby_67 (j := 16) rfl) (dby_of dby_67 (j := 17) rfl) rfl
theorem dL_law_4306 : decode cL_law 4306 = .ok (.if_icmp .eq 5, 3) := dc_if_icmp_eq (dby_of dby_67 (j := 18) rfl) (dby_of dby_67 (j := 19) rfl) (dby_of dby_67 (j := 20) rfl) (by decide)
theorem dL_law_4309 : decode cL_law 4309 = .ok (.iconst 0, 1) := dc_iconst_0 (dby_of dby_67 (j := 21) rfl)
theorem dL_law_4310 : decode cL_law 4310 = .ok (.ireturn, 1) := dc_ireturn (dby_of dby_67 (j := 22) rfl)
theorem dL_law_4311 : decode cL_law 4311 = .ok (.iload 5, 2) := dc_iload (dby_of dby_67 (j := 23) rfl) (dby_of dby_67 (j := 24) rfl) rfl
theorem dL_law_4313 : decode cL_law 4313 = .ok (.ifCond .ne 14, 3) := dc_ifCond_ne (dby_of dby_67 (j := 25) rfl) (dby_of dby_67 (j := 26) rfl) (dby_of dby_67 (j := 27) rfl) (by decide)
theorem dL_law_4316 : decode cL_law 4316 = .ok (.aload_n 3, 1) := dc_aload_n_3 (dby_of dby_67 (j := 28) rfl)
theorem dL_law_4317 : decode cL_law 4317 = .ok (.iconst 0, 1) := dc_iconst_0 (dby_of dby_67 (j := 29) rfl)
theorem dL_law_4318 : decode cL_law 4318 = .ok (.laload, 1) := dc_laload (dby_of dby_67 (j := 30) rfl)
theorem dL_law_4319 : decode cL_law 4319 = .ok (.lload 6, 2) := dc_lload (dby_of dby_67 (j := 31) rfl) (dby_of dby_67 (j := 32) rfl) rfl
theorem dL_law_4321 : decode cL_law 4321 = .ok (.lcmp, 1) := dc_lcmp (dby_of dby_67 (j := 33) rfl)
theorem dL_law_4322 : decode cL_law 4322 = .ok (.ifCond .eq 5, 3) := dc_ifCond_eq (dby_of dby_67 (j := 34) rfl) (dby_of dby_67 (j := 35) rfl) (dby_of dby_67 (j := 36) rfl) (by decide)
theorem dL_law_4325 : decode cL_law 4325 = .ok (.iconst 0, 1) := dc_iconst_0 (dby_of dby_67 (j := 37) rfl)
theorem dL_law_4326 : decode cL_law 4326 = .ok (.ireturn, 1) := dc_ireturn (dby_of dby_67 (j := 38) rfl)
theorem dL_law_4327 : decode cL_law 4327 = .ok (.goto 224, 3) := dc_goto (dby_of dby_67 (j := 39) rfl) (dby_of dby_67 (j := 40) rfl) (dby_of dby_67 (j := 41) rfl) (by decide)
theorem dL_law_4330 : decode cL_law 4330 = .ok (.aload_n 1, 1) := dc_aload_n_1 (dby_of dby_67 (j := 42) rfl)
theorem dL_law_4331 : decode cL_law 4331 = .ok (.aload_n 0, 1) := dc_aload_n_0 (dby_of dby_67 (j := 43) rfl)
theorem dL_law_4332 : decode cL_law 4332 = .ok (.iload 4, 2) := dc_iload (dby_of dby_67 (j := 44) rfl) (dby_of dby_67 (j := 45) rfl) rfl
theorem dL_law_4334 : decode cL_law 4334 = .ok (.iconst 1, 1) := dc_iconst_1 (dby_of dby_67 (j := 46) rfl)
theorem dL_law_4335 : decode cL_law 4335 = .ok (.iadd, 1) := dc_iadd (dby_of dby_67 (j := 47) rfl)
theorem dL_law_4336 : decode cL_law 4336 = .ok (.iaload, 1) := dc_iaload (dby_of dby_67 (j := 48) rfl)
theorem dL_law_4337 : decode cL_law 4337 = .ok (.aload_n 0, 1) := dc_aload_n_0 (dby_of dby_67 (j := 49) rfl)
theorem dL_law_4338 : decode cL_law 4338 = .ok (.iload 4, 2) := dc_iload (dby_of dby_67 (j := 50) rfl) (dby_of dby_67 (j := 51) rfl) rfl
theorem dL_law_4340 : decode cL_law 4340 = .ok (.iconst 2, 1) := dc_iconst_2 (dby_of dby_67 (j := 52) rfl)
theorem dL_law_4341 : decode cL_law 4341 = .ok (.iadd, 1) := dc_iadd (dby_of dby_67 (j := 53) rfl)
theorem dL_law_4342 : decode cL_law 4342 = .ok (.iaload, 1) := dc_iaload (dby_of dby_67 (j := 54) rfl)
theorem dL_law_4343 : decode cL_law 4343 = .ok (.aload_n 3, 1) := dc_aload_n_3 (dby_of dby_67 (j := 55) rfl)
theorem dL_law_4344 : decode cL_law 4344 = .ok (.invokestatic 359, 3) := dc_invokestatic (dby_of dby_67 (j := 56) rfl) (dby_of dby_67 (j := 57) rfl) (dby_of dby_67 (j := 58) rfl) rfl
theorem dL_law_4347 : decode cL_law 4347 = .ok (.istore 5, 2) := dc_istore (dby_of dby_67 (j := 59) rfl) (dby_of dby_67 (j := 60) rfl) rfl
theorem dL_law_4349 : decode cL_law 4349 = .ok (.aload_n 2, 1) := dc_aload_n_2 (dby_of dby_67 (j := 61) rfl)
theorem dL_law_4350 : decode cL_law 4350 = .ok (.aload_n 0, 1) := dc_aload_n_0 (dby_of dby_67 (j := 62) rfl)
theorem dL_law_4351 : decode cL_law 4351 = .ok (.iload 4, 2) := dc_iload (dby_of dby_67 (j := 63) rfl) (dby_of dby_68 (j := 0) rfl) rfl
theorem dL_law_4353 : decode cL_law 4353 = .ok (.iconst 1, 1) := dc_iconst_1 (dby_of dby_68 (j := 1) rfl)
theorem dL_law_4354 : decode cL_law 4354 = .ok (.iadd, 1) := dc_iadd (dby_of dby_68 (j := 2) rfl)
theorem dL_law_4355 : decode cL_law 4355 = .ok (.iaload, 1) := dc_iaload (dby_of dby_68 (j := 3) rfl)
theorem dL_law_4356 : decode cL_law 4356 = .ok (.aload_n 0, 1) := dc_aload_n_0 (dby_of dby_68 (j := 4) rfl)
theorem dL_law_4357 : decode cL_law 4357 = .ok (.iload 4, 2) := dc_iload (dby_of dby_68 (j := 5) rfl) (dby_of dby_68 (j := 6) rfl) rfl
theorem dL_law_4359 : decode cL_law 4359 = .ok (.iconst 2, 1) := dc_iconst_2 (dby_of dby_68 (j := 7) rfl)
theorem dL_law_4360 : decode cL_law 4360 = .ok (.iadd, 1) := dc_iadd (dby_of dby_68 (j := 8) rfl)
theorem dL_law_4361 : decode cL_law 4361 = .ok (.iaload, 1) := dc_iaload (dby_of dby_68 (j := 9) rfl)
theorem dL_law_4362 : decode cL_law 4362 = .ok (.invokevirtual 361, 3) := dc_invokevirtual (dby_of dby_68 (j := 10) rfl) (dby_of dby_68 (j := 11) rfl) (dby_of dby_68 (j := 12) rfl) rfl
theorem dL_law_4365 : decode cL_law 4365 = .ok (.istore 6, 2) := dc_istore (dby_of dby_68 (j := 13) rfl) (dby_of dby_68 (j := 14) rfl) rfl
theorem dL_law_4367 : decode cL_law 4367 = .ok (.aload_n 2, 1) := dc_aload_n_2 (dby_of dby_68 (j := 15) rfl)
theorem dL_law_4368 : decode cL_law 4368 = .ok (.invokevirtual 183, 3) := dc_invokevirtual (dby_of dby_68 (j := 16) rfl) (dby_of dby_68 (j := 17) rfl) (dby_of dby_68 (j := 18) rfl) rfl
theorem dL_law_4371 : decode cL_law 4371 = .ok (.iload 5, 2) := dc_iload (dby_of dby_68 (j := 19) rfl) (dby_of dby_68 (j := 20) rfl) rfl
theorem dL_law_4373 : decode cL_law 4373 = .ok (.if_icmp .eq 5, 3) := dc_if_icmp_eq (dby_of dby_68 (j := 21) rfl) (dby_of dby_68 (j := 22) rfl) (dby_of dby_68 (j := 23) rfl) (by decide)
theorem dL_law_4376 : decode cL_law 4376 = .ok (.iconst 0, 1) := dc_iconst_0 (dby_of dby_68 (j := 24) rfl)
theorem dL_law_4377 : decode cL_law 4377 = .ok (.ireturn, 1) := dc_ireturn (dby_of dby_68 (j := 25) rfl)
theorem dL_law_4378 : decode cL_law 4378 = .ok (.iload 5, 2) := dc_iload (dby_of dby_68 (j := 26) rfl) (dby_of dby_68 (j := 27) rfl) rfl
theorem dL_law_4380 : decode cL_law 4380 = .ok (.ifCond .ne 15, 3) := dc_ifCond_ne (dby_of dby_68 (j := 28) rfl) (dby_of dby_68 (j := 29) rfl) (dby_of dby_68 (j := 30) rfl) (by decide)
theorem dL_law_4383 : decode cL_law 4383 = .ok (.aload_n 3, 1) := dc_aload_n_3 (dby_of dby_68 (j := 31) rfl)
theorem dL_law_4384 : decode cL_law 4384 = .ok (.iconst 0, 1) := dc_iconst_0 (dby_of dby_68 (j := 32) rfl)
theorem dL_law_4385 : decode cL_law 4385 = .ok (.laload, 1) := dc_laload (dby_of dby_68 (j := 33) rfl)
theorem dL_law_4386 : decode cL_law 4386 = .ok (.iload 6, 2) := dc_iload (dby_of dby_68 (j := 34) rfl) (dby_of dby_68 (j := 35) rfl) rfl
theorem dL_law_4388 : decode cL_law 4388 = .ok (.i2l, 1) := dc_i2l (dby_of dby_68 (j := 36) rfl)
theorem dL_law_4389 : decode cL_law 4389 = .ok (.lcmp, 1) := dc_lcmp (dby_of dby_68 (j := 37) rfl)
theorem dL_law_4390 : decode cL_law 4390 = .ok (.ifCond .eq 5, 3) := dc_ifCond_eq (dby_of dby_68 (j := 38) rfl) (dby_of dby_68 (j := 39) rfl) (dby_of dby_68 (j := 40) rfl) (by decide)
theorem dL_law_4393 : decode cL_law 4393 = .ok (.iconst 0, 1) := dc_iconst_0 (dby_of dby_68 (j := 41) rfl)
theorem dL_law_4394 : decode cL_law 4394 = .ok (.ireturn, 1) := dc_ireturn (dby_of dby_68 (j := 42) rfl)
theorem dL_law_4395 : decode cL_law 4395 = .ok (.goto 156, 3) := dc_goto (dby_of dby_68 (j := 43) rfl) (dby_of dby_68 (j := 44) rfl) (dby_of dby_68 (j := 45) rfl) (by decide)
theorem dL_law_4398 : decode cL_law 4398 = .ok (.aload_n 1, 1) := dc_aload_n_1 (dby_of dby_68 (j := 46) rfl)
theorem dL_law_4399 : decode cL_law 4399 = .ok (.aload_n 0, 1) := dc_aload_n_0 (dby_of dby_68 (j := 47) rfl)
theorem dL_law_4400 : decode cL_law 4400 = .ok (.iload 4, 2) := dc_iload (dby_of dby_68 (j := 48) rfl) (dby_of dby_68 (j := 49) rfl) rfl
theorem dL_law_4402 : decode cL_law 4402 = .ok (.iconst 1, 1) := dc_iconst_1 (dby_of dby_68 (j := 50) rfl)
theorem dL_law_4403 : decode cL_law 4403 = .ok (.iadd, 1) := dc_iadd (dby_of dby_68 (j := 51) rfl)
theorem dL_law_4404 : decode cL_law 4404 = .ok (.iaload, 1) := dc_iaload (dby_of dby_68 (j := 52) rfl)
theorem dL_law_4405 : decode cL_law 4405 = .ok (.i2l, 1) := dc_i2l (dby_of dby_68 (j := 53) rfl)
theorem dL_law_4406 : decode cL_law 4406 = .ok (.bipush 32, 2) := dc_bipush (dby_of dby_68 (j := 54) rfl) (dby_of dby_68 (j := 55) rfl) (by decide)
theorem dL_law_4408 : decode cL_law 4408 = .ok (.lshl, 1) := dc_lshl (dby_of dby_68 (j := 56) rfl)
theorem dL_law_4409 : decode cL_law 4409 = .ok (.aload_n 0, 1) := dc_aload_n_0 (dby_of dby_68 (j := 57) rfl)
theorem dL_law_4410 : decode cL_law 4410 = .ok (.iload 4, 2) := dc_iload (dby_of dby_68 (j := 58) rfl) (dby_of dby_68 (j := 59) rfl) rfl
theorem dL_law_4412 : decode cL_law 4412 = .ok (.iconst 2, 1) := dc_iconst_2 (dby_of dby_68 (j := 60) rfl)
theorem dL_law_4413 : decode cL_law 4413 = .ok (.iadd, 1) := dc_iadd (dby_of dby_68 (j := 61) rfl)
theorem dL_law_4414 : decode cL_law 4414 = .ok (.iaload, 1) := dc_iaload (dby_of dby_68 (j := 62) rfl)
theorem dL_law_4415 : decode cL_law 4415 = .ok (.i2l, 1) := dc_i2l (dby_of dby_68 (j := 63) rfl)
theorem dL_law_4416 : decode cL_law 4416 = .ok (.ldc2_w 261, 3) := dc_ldc2_w (dby_of dby_69 (j := 0) rfl) (dby_of dby_69 (j := 1) rfl) (dby_of dby_69 (j := 2) rfl) rfl
theorem dL_law_4419 : decode cL_law 4419 = .ok (.land, 1) := dc_land (dby_of dby_69 (j := 3) rfl)
theorem dL_law_4420 : decode cL_law 4420 = .ok (.lor, 1) := dc_lor (dby_of dby_69 (j := 4) rfl)
theorem dL_law_4421 : decode cL_law 4421 = .ok (.aload_n 0, 1) := dc_aload_n_0 (dby_of dby_69 (j := 5) rfl)
theorem dL_law_4422 : decode cL_law 4422 = .ok (.iload 4, 2) := dc_iload (dby_of dby_69 (j := 6) rfl) (dby_of dby_69 (j := 7) rfl) rfl
theorem dL_law_4424 : decode cL_law 4424 = .ok (.iconst 3, 1) := dc_iconst_3 (dby_of dby_69 (j := 8) rfl)
theorem dL_law_4425 : decode cL_law 4425 = .ok (.iadd, 1) := dc_iadd (dby_of dby_69 (j := 9) rfl)
theorem dL_law_4426 : decode cL_law 4426 = .ok (.iaload, 1) := dc_iaload (dby_of dby_69 (j := 10) rfl)
theorem dL_law_4427 : decode cL_law 4427 = .ok (.ifCond .eq 7, 3) := dc_ifCond_eq (dby_of dby_69 (j := 11) rfl) (dby_of dby_69 (j := 12) rfl) (dby_of dby_69 (j := 13) rfl) (by decide)
theorem dL_law_4430 : decode cL_law 4430 = .ok (.iconst 1, 1) := dc_iconst_1 (dby_of dby_69 (j := 14) rfl)
theorem dL_law_4431 : decode cL_law 4431 = .ok (.goto 4, 3) := dc_goto (dby_of dby_69 (j := 15) rfl) (dby_of dby_69 (j := 16) rfl) (dby_of dby_69 (j := 17) rfl) (by decide)
theorem dL_law_4434 : decode cL_law 4434 = .ok (.iconst 0, 1) := dc_iconst_0 (dby_of dby_69 (j := 18) rfl)
theorem dL_law_4435 : decode cL_law 4435 = .ok (.aload_n 0, 1) := dc_aload_n_0 (dby_of dby_69 (j := 19) rfl)
theorem dL_law_4436 : decode cL_law 4436 = .ok (.iload 4, 2) := dc_iload (dby_of dby_69 (j := 20) rfl) (dby_of dby_69 (j := 21) rfl) rfl
theorem dL_law_4438 : decode cL_law 4438 = .ok (.iconst 4, 1) := dc_iconst_4 (dby_of dby_69 (j := 22) rfl)
theorem dL_law_4439 : decode cL_law 4439 = .ok (.iadd, 1) := dc_iadd (dby_of dby_69 (j := 23) rfl)
theorem dL_law_4440 : decode cL_law 4440 = .ok (.iaload, 1) := dc_iaload (dby_of dby_69 (j := 24) rfl)
theorem dL_law_4441 : decode cL_law 4441 = .ok (.aload_n 3, 1) := dc_aload_n_3 (dby_of dby_69 (j := 25) rfl)
theorem dL_law_4442 : decode cL_law 4442 = .ok (.invokestatic 362, 3) := dc_invokestatic (dby_of dby_69 (j := 26) rfl) (dby_of dby_69 (j := 27) rfl) (dby_of dby_69 (j := 28) rfl) rfl
theorem dL_law_4445 : decode cL_law 4445 = .ok (.istore 5, 2) := dc_istore (dby_of dby_69 (j := 29) rfl) (dby_of dby_69 (j := 30) rfl) rfl
theorem dL_law_4447 : decode cL_law 4447 = .ok (.aload_n 2, 1) := dc_aload_n_2 (dby_of dby_69 (j := 31) rfl)
theorem dL_law_4448 : decode cL_law 4448 = .ok (.aload_n 0, 1) := dc_aload_n_0 (dby_of dby_69 (j := 32) rfl)
theorem dL_law_4449 : decode cL_law 4449 = .ok (.iload 4, 2) := dc_iload (dby_of dby_69 (j := 33) rfl) (dby_of dby_69 (j := 34) rfl) rfl
theorem dL_law_4451 : decode cL_law 4451 = .ok (.iconst 1, 1) := dc_iconst_1 (dby_of dby_69 (j := 35) rfl)
theorem dL_law_4452 : decode cL_law 4452 = .ok (.iadd, 1) := dc_iadd (dby_of dby_69 (j := 36) rfl)
theorem dL_law_4453 : decode cL_law 4453 = .ok (.iaload, 1) := dc_iaload (dby_of dby_69 (j := 37) rfl)
theorem dL_law_4454 : decode cL_law 4454 = .ok (.i2l, 1) := dc_i2l (dby_of dby_69 (j := 38) rfl)
theorem dL_law_4455 : decode cL_law 4455 = .ok (.bipush 32, 2) := dc_bipush (dby_of dby_69 (j := 39) rfl) (dby_of dby_69 (j := 40) rfl) (by decide)
theorem dL_law_4457 : decode cL_law 4457 = .ok (.lshl, 1) := dc_lshl (dby_of dby_69 (j := 41) rfl)
theorem dL_law_4458 : decode cL_law 4458 = .ok (.aload_n 0, 1) := dc_aload_n_0 (dby_of dby_69 (j := 42) rfl)
theorem dL_law_4459 : decode cL_law 4459 = .ok (.iload 4, 2) := dc_iload (dby_of dby_69 (j := 43) rfl) (dby_of dby_69 (j := 44) rfl) rfl
theorem dL_law_4461 : decode cL_law 4461 = .ok (.iconst 2, 1) := dc_iconst_2 (dby_of dby_69 (j := 45) rfl)
theorem dL_law_4462 : decode cL_law 4462 = .ok (.iadd, 1) := dc_iadd (dby_of dby_69 (j := 46) rfl)
theorem dL_law_4463 : decode cL_law 4463 = .ok (.iaload, 1) := dc_iaload (dby_of dby_69 (j := 47) rfl)
theorem dL_law_4464 : decode cL_law 4464 = .ok (.i2l, 1) := dc_i2l (dby_of dby_69 (j := 48) rfl)
theorem dL_law_4465 : decode cL_law 4465 = .ok (.ldc2_w 261, 3) := dc_ldc2_w (dby_of dby_69 (j := 49) rfl) (dby_of dby_69 (j := 50) rfl) (dby_of dby_69 (j := 51) rfl) rfl
theorem dL_law_4468 : decode cL_law 4468 = .ok (.land, 1) := dc_land (dby_of dby_69 (j := 52) rfl)
theorem dL_law_4469 : decode cL_law 4469 = .ok (.lor, 1) := dc_lor (dby_of dby_69 (j := 53) rfl)
theorem dL_law_4470 : decode cL_law 4470 = .ok (.aload_n 0, 1) := dc_aload_n_0 (dby_of dby_69 (j := 54) rfl)
theorem dL_law_4471 : decode cL_law 4471 = .ok (.iload 4, 2) := dc_iload (dby_of dby_69 (j := 55) rfl) (dby_of dby_69 (j := 56) rfl) rfl
theorem dL_law_4473 : decode cL_law 4473 = .ok (.iconst 3, 1) := dc_iconst_3 (dby_of dby_69 (j := 57) rfl)
theorem dL_law_4474 : decode cL_law 4474 = .ok (.iadd, 1) := dc_iadd (dby_of dby_69 (j := 58) rfl)
theorem dL_law_4475 : decode cL_law 4475 = .ok (.iaload, 1) := dc_iaload (dby_of dby_69 (j := 59) rfl)
theorem dL_law_4476 : decode cL_law 4476 = .ok (.ifCond .eq 7, 3) := dc_ifCond_eq (dby_of dby_69 (j := 60) rfl) (dby_of dby_69 (j := 61) rfl) (dby_of dby_69 (j := 62) rfl) (by decide)
theorem dL_law_4479 : decode cL_law 4479 = .ok (.iconst 1, 1) := dc_iconst_1 (dby_of dby_69 (j := 63) rfl)
theorem dL_law_4480 : decode cL_law 4480 = .ok (.goto 4, 3) := dc_goto (dby_of dby_70 (j := 0) rfl) (dby_of dby_70 (j := 1) rfl) (dby_of dby_70 (j := 2) rfl) (by decide)
theorem dL_law_4483 : decode cL_law 4483 = .ok (.iconst 0, 1) := dc_iconst_0 (dby_of dby_70 (j := 3) rfl)
theorem dL_law_4484 : decode cL_law 4484 = .ok (.aload_n 0, 1) := dc_aload_n_0 (dby_of dby_70 (j := 4) rfl)
theorem dL_law_4485 : decode cL_law 4485 = .ok (.iload 4, 2) := dc_iload (dby_of dby_70 (j := 5) rfl) (dby_of dby_70 (j := 6) rfl) rfl
theorem dL_law_4487 : decode cL_law 4487 = .ok (.iconst 4, 1) := dc_iconst_4 (dby_of dby_70 (j := 7) rfl)
theorem dL_law_4488 : decode cL_law 4488 = .ok (.iadd, 1) := dc_iadd (dby_of dby_70 (j := 8) rfl)
theorem dL_law_4489 : decode cL_law 4489 = .ok (.iaload, 1) := dc_iaload (dby_of dby_70 (j := 9) rfl)
theorem dL_law_4490 : decode cL_law 4490 = .ok (.invokevirtual 364, 3) := dc_invokevirtual (dby_of dby_70 (j := 10) rfl) (dby_of dby_70 (j := 11) rfl) (dby_of dby_70 (j := 12) rfl) rfl
theorem dL_law_4493 : decode cL_law 4493 = .ok (.istore 6, 2) := dc_istore (dby_of dby_70 (j := 13) rfl) (dby_of dby_70 (j := 14) rfl) rfl
theorem dL_law_4495 : decode cL_law 4495 = .ok (.aload_n 2, 1) := dc_aload_n_2 (dby_of dby_70 (j := 15) rfl)
theorem dL_law_4496 : decode cL_law 4496 = .ok (.invokevirtual 183, 3) := dc_invokevirtual (dby_of dby_70 (j := 16) rfl) (dby_of dby_70 (j := 17) rfl) (dby_of dby_70 (j := 18) rfl) rfl
theorem dL_law_4499 : decode cL_law 4499 = .ok (.iload 5, 2) := dc_iload (dby_of dby_70 (j := 19) rfl) (dby_of dby_70 (j := 20) rfl) rfl
theorem dL_law_4501 : decode cL_law 4501 = .ok (.if_icmp .eq 5, 3) := dc_if_icmp_eq (dby_of dby_70 (j := 21) rfl) (dby_of dby_70 (j := 22) rfl) (dby_of dby_70 (j := 23) rfl) (by decide)
theorem dL_law_4504 : decode cL_law 4504 = .ok (.iconst 0, 1) := dc_iconst_0 (dby_of dby_70 (j := 24) rfl)
theorem dL_law_4505 : decode cL_law 4505 = .ok (.ireturn, 1) := dc_ireturn (dby_of dby_70 (j := 25) rfl)
theorem dL_law_4506 : decode cL_law 4506 = .ok (.iload 5, 2) := dc_iload (dby_of dby_70 (j := 26) rfl) (dby_of dby_70 (j := 27) rfl) rfl
theorem dL_law_4508 : decode cL_law 4508 = .ok (.ifCond .ne 15, 3) := dc_ifCond_ne (dby_of dby_70 (j := 28) rfl) (dby_of dby_70 (j := 29) rfl) (dby_of dby_70 (j := 30) rfl) (by decide)
theorem dL_law_4511 : decode cL_law 4511 = .ok (.aload_n 3, 1) := dc_aload_n_3 (dby_of dby_70 (j := 31) rfl)
theorem dL_law_4512 : decode cL_law 4512 = .ok (.iconst 0, 1) := dc_iconst_0 (dby_of dby_70 (j := 32) rfl)
theorem dL_law_4513 : decode cL_law 4513 = .ok (.laload, 1) := dc_laload (dby_of dby_70 (j := 33) rfl)
theorem dL_law_4514 : decode cL_law 4514 = .ok (.iload 6, 2) := dc_iload (dby_of dby_70 (j := 34) rfl) (dby_of dby_70 (j := 35) rfl) rfl
theorem dL_law_4516 : decode cL_law 4516 = .ok (.i2l, 1) := dc_i2l (dby_of dby_70 (j := 36) rfl)
theorem dL_law_4517 : decode cL_law 4517 = .ok (.lcmp, 1) := dc_lcmp (dby_of dby_70 (j := 37) rfl)
theorem dL_law_4518 : decode cL_law 4518 = .ok (.ifCond .eq 5, 3) := dc_ifCond_eq (dby_of dby_70 (j := 38) rfl) (dby_of dby_70 (j := 39) rfl) (dby_of dby_70 (j := 40) rfl) (by decide)
theorem dL_law_4521 : decode cL_law 4521 = .ok (.iconst 0, 1) := dc_iconst_0 (dby_of dby_70 (j := 41) rfl)
theorem dL_law_4522 : decode cL_law 4522 = .ok (.ireturn, 1) := dc_ireturn (dby_of dby_70 (j := 42) rfl)
theorem dL_law_4523 : decode cL_law 4523 = .ok (.goto 28, 3) := dc_goto (dby_of dby_70 (j := 43) rfl) (dby_of dby_70 (j := 44) rfl) (dby_of dby_70 (j := 45) rfl) (by decide)
theorem dL_law_4526 : decode cL_law 4526 = .ok (.aload_n 1, 1) := dc_aload_n_1 (dby_of dby_70 (j := 46) rfl)
theorem dL_law_4527 : decode cL_law 4527 = .ok (.aload_n 0, 1) := dc_aload_n_0 (dby_of dby_70 (j := 47) rfl)
theorem dL_law_4528 : decode cL_law 4528 = .ok (.iload 4, 2) := dc_iload (dby_of dby_70 (j := 48) rfl) (dby_of dby_70 (j := 49) rfl) rfl
theorem dL_law_4530 : decode cL_law 4530 = .ok (.iconst 1, 1) := dc_iconst_1 (dby_of dby_70 (j := 50) rfl)
theorem dL_law_4531 : decode cL_law 4531 = .ok (.iadd, 1) := dc_iadd (dby_of dby_70 (j := 51) rfl)
theorem dL_law_4532 : decode cL_law 4532 = .ok (.iaload, 1) := dc_iaload (dby_of dby_70 (j := 52) rfl)
theorem dL_law_4533 : decode cL_law 4533 = .ok (.invokevirtual 365, 3) := dc_invokevirtual (dby_of dby_70 (j := 53) rfl) (dby_of dby_70 (j := 54) rfl) (dby_of dby_70 (j := 55) rfl) rfl
theorem dL_law_4536 : decode cL_law 4536 = .ok (.aload_n 2, 1) := dc_aload_n_2 (dby_of dby_70 (j := 56) rfl)
theorem dL_law_4537 : decode cL_law 4537 = .ok (.aload_n 0, 1) := dc_aload_n_0 (dby_of dby_70 (j := 57) rfl)
theorem dL_law_4538 : decode cL_law 4538 = .ok (.iload 4, 2) := dc_iload (dby_of dby_70 (j := 58) rfl) (dby_of dby_70 (j := 59) rfl) rfl
theorem dL_law_4540 : decode cL_law 4540 = .ok (.iconst 1, 1) := dc_iconst_1 (dby_of dby_70 (j := 60) rfl)
theorem dL_law_4541 : decode cL_law 4541 = .ok (.iadd, 1) := dc_iadd (dby_of dby_70 (j := 61) rfl)
theorem dL_law_4542 : decode cL_law 4542 = .ok (.iaload, 1) := dc_iaload (dby_of dby_70 (j := 62) rfl)
theorem dL_law_4543 : decode cL_law 4543 = .ok (.invokevirtual 368, 3) := dc_invokevirtual (dby_of dby_70 (j := 63) rfl) (dby_of dby_71 (j := 0) rfl) (dby_of dby_71 (j := 1) rfl) rfl
theorem dL_law_4546 : decode cL_law 4546 = .ok (.if_icmp .eq 5, 3) := dc_if_icmp_eq (dby_of dby_71 (j := 2) rfl) (dby_of dby_71 (j := 3) rfl) (dby_of dby_71 (j := 4) rfl) (by decide)
theorem dL_law_4549 : decode cL_law 4549 = .ok (.iconst 0, 1) := dc_iconst_0 (dby_of dby_71 (j := 5) rfl)
theorem dL_law_4550 : decode cL_law 4550 = .ok (.ireturn, 1) := dc_ireturn (dby_of dby_71 (j := 6) rfl)
theorem dL_law_4551 : decode cL_law 4551 = .ok (.iinc 4 7, 3) := by decide +kernel
theorem dL_law_4554 : decode cL_law 4554 = .ok (.goto (-4531), 3) := dc_goto (dby_of dby_71 (j := 10) rfl) (dby_of dby_71 (j := 11) rfl) (dby_of dby_71 (j := 12) rfl) (by decide)
theorem dL_law_4557 : decode cL_law 4557 = .ok (.iconst 1, 1) := dc_iconst_1 (dby_of dby_71 (j := 13) rfl)
theorem dL_law_4558 : decode cL_law 4558 = .ok (.ireturn, 1) := dc_ireturn (dby_of dby_71 (j := 14) rfl)
