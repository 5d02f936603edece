/-! the constructors, one after another (by program out of the bytecode) -/
def img (D : DD) (a : Nat) : DD := up2 (up2 (up2 D a 4 1) a 5 0) (a + 1) 4 (-12)
theorem img_ne {D : DD} {a x : Nat} (h : a + 1 < x) : img D a x = D x := by
  unfold img
  rw [up2_ne _ _ _ _ (by omega), up2_ne _ _ _ _ (by omega), up2_ne _ _ _ _ (by omega)]
abbrev Y_X7_init : YT := (cX7_init, 3, none, yX7_init, [], 7)
theorem d_X7_init_100 : decode cX7_init 100 = .ok (.aload_n 0, 1) := by decide +kernel
theorem d_X7_init_101 : decode cX7_init 101 = .ok (.getfield 25, 3) := by decide +kernel
theorem d_X7_init_104 : decode cX7_init 104 = .ok (.invokevirtual 66, 3) := by decide +kernel
theorem d_X7_init_107 : decode cX7_init 107 = .ok (.aload_n 0, 1) := by decide +kernel
theorem d_X7_init_108 : decode cX7_init 108 = .ok (.getfield 25, 3) := by decide +kernel
theorem d_X7_init_111 : decode cX7_init 111 = .ok (.bipush 6, 2) := by decide +kernel
theorem d_X7_init_113 : decode cX7_init 113 = .ok (.invokevirtual 69, 3) := by decide +kernel
theorem d_X7_init_116 : decode cX7_init 116 = .ok (.aload_n 0, 1) := by decide +kernel
theorem d_X7_init_117 : decode cX7_init 117 = .ok (.getfield 25, 3) := by decide +kernel
theorem d_X7_init_120 : decode cX7_init 120 = .ok (.invokevirtual 73, 3) := by decide +kernel
theorem d_X7_init_123 : decode cX7_init 123 = .ok (.pop, 1) := by decide +kernel
theorem d_X7_init_124 : decode cX7_init 124 = .ok (.aload_n 0, 1) := by decide +kernel
theorem d_X7_init_125 : decode cX7_init 125 = .ok (.aload_n 0, 1) := by decide +kernel
theorem d_X7_init_126 : decode cX7_init 126 = .ok (.getfield 25, 3) := by decide +kernel
theorem d_X7_init_129 : decode cX7_init 129 = .ok (.iconst 0, 1) := by decide +kernel
theorem d_X7_init_130 : decode cX7_init 130 = .ok (.invokevirtual 77, 3) := by decide +kernel
theorem d_X7_init_133 : decode cX7_init 133 = .ok (.iconst 0, 1) := by decide +kernel
theorem d_X7_init_134 : decode cX7_init 134 = .ok (.iconst (-1), 1) := by decide +kernel
theorem d_X7_init_135 : decode cX7_init 135 = .ok (.iconst (-1), 1) := by decide +kernel
theorem d_X7_init_136 : decode cX7_init 136 = .ok (.invokevirtual 81, 3) := by decide +kernel
theorem d_X7_init_139 : decode cX7_init 139 = .ok (.aload_n 0, 1) := by decide +kernel
theorem d_X7_init_140 : decode cX7_init 140 = .ok (.getfield 48, 3) := by decide +kernel
theorem d_X7_init_143 : decode cX7_init 143 = .ok (.iconst 0, 1) := by decide +kernel
theorem d_X7_init_144 : decode cX7_init 144 = .ok (.invokevirtual 85, 3) := by decide +kernel
theorem d_X7_init_147 : decode cX7_init 147 = .ok (.pop, 1) := by decide +kernel
theorem d_X7_init_148 : decode cX7_init 148 = .ok (.aload_n 0, 1) := by decide +kernel
theorem d_X7_init_149 : decode cX7_init 149 = .ok (.getfield 25, 3) := by decide +kernel
theorem d_X7_init_152 : decode cX7_init 152 = .ok (.invokevirtual 89, 3) := by decide +kernel
theorem d_X7_init_155 : decode cX7_init 155 = .ok (.aload_n 0, 1) := by decide +kernel
theorem d_X7_init_156 : decode cX7_init 156 = .ok (.getfield 62, 3) := by decide +kernel
theorem d_X7_init_159 : decode cX7_init 159 = .ok (.aload_n 1, 1) := by decide +kernel
theorem d_X7_init_160 : decode cX7_init 160 = .ok (.invokevirtual 92, 3) := by decide +kernel
abbrev Y_X1_keepAsWhole : YT := (cX1_keepAsWhole, 2, none, yX1_keepAsWhole, [], 2)
theorem mk_X1_keepAsWhole : MK Y_X1_keepAsWhole 1 := ⟨KW.at (i := 82) (by decide +kernel) rfl, KW.at (i := 357) (by decide +kernel) rfl, ⟨by decide +kernel, by decide +kernel⟩, by decide +kernel, by decide +kernel, rfl, by decide⟩
theorem vm_X1_keepAsWhole : KW (.instanceMethod (yN Y_X1_keepAsWhole)) ∧ KW (.selects (yN Y_X1_keepAsWhole).cls (yN Y_X1_keepAsWhole) (yN Y_X1_keepAsWhole)) := ⟨KW.at (i := 355) (by decide +kernel) rfl, KW.at (i := 356) (by decide +kernel) rfl⟩
theorem ck_RX7_92 : CKV RX7 92 Y_X1_keepAsWhole 1 := ⟨KW.at (i := 354) (by decide +kernel) rfl, vm_X1_keepAsWhole.1, vm_X1_keepAsWhole.2, mk_X1_keepAsWhole⟩
theorem d_X1_keepAsWhole_0 : decode cX1_keepAsWhole 0 = .ok (.aload_n 0, 1) := by decide +kernel
theorem d_X1_keepAsWhole_1 : decode cX1_keepAsWhole 1 = .ok (.getfield 10, 3) := by decide +kernel
theorem d_X1_keepAsWhole_4 : decode cX1_keepAsWhole 4 = .ok (.aload_n 1, 1) := by decide +kernel
theorem d_X1_keepAsWhole_5 : decode cX1_keepAsWhole 5 = .ok (.invokevirtual 23, 3) := by decide +kernel
theorem d_X1_keepAsWhole_8 : decode cX1_keepAsWhole 8 = .ok (.return_, 1) := by decide +kernel
theorem d_X7_init_163 : decode cX7_init 163 = .ok (.return_, 1) := by decide +kernel
abbrev Y_X8_init : YT := (cX8_init, 2, none, yX8_init, [], 3)
theorem d_X8_init_305 : decode cX8_init 305 = .ok (.aload_n 0, 1) := by decide +kernel
theorem d_X8_init_306 : decode cX8_init 306 = .ok (.getfield 13, 3) := by decide +kernel
theorem d_X8_init_309 : decode cX8_init 309 = .ok (.iconst 0, 1) := by decide +kernel
theorem d_X8_init_310 : decode cX8_init 310 = .ok (.iconst 1, 1) := by decide +kernel
theorem d_X8_init_311 : decode cX8_init 311 = .ok (.iastore, 1) := by decide +kernel
theorem d_X8_init_312 : decode cX8_init 312 = .ok (.aload_n 0, 1) := by decide +kernel
theorem d_X8_init_313 : decode cX8_init 313 = .ok (.getfield 7, 3) := by decide +kernel
theorem d_X8_init_316 : decode cX8_init 316 = .ok (.iconst 4, 1) := by decide +kernel
theorem d_X8_init_317 : decode cX8_init 317 = .ok (.bipush 6, 2) := by decide +kernel
theorem d_X8_init_319 : decode cX8_init 319 = .ok (.iastore, 1) := by decide +kernel
theorem d_X8_init_320 : decode cX8_init 320 = .ok (.aload_n 0, 1) := by decide +kernel
theorem d_X8_init_321 : decode cX8_init 321 = .ok (.getfield 7, 3) := by decide +kernel
theorem d_X8_init_324 : decode cX8_init 324 = .ok (.bipush 10, 2) := by decide +kernel
theorem d_X8_init_326 : decode cX8_init 326 = .ok (.iconst 2, 1) := by decide +kernel
theorem d_X8_init_327 : decode cX8_init 327 = .ok (.iastore, 1) := by decide +kernel
theorem d_X8_init_328 : decode cX8_init 328 = .ok (.aload_n 0, 1) := by decide +kernel
theorem d_X8_init_329 : decode cX8_init 329 = .ok (.getfield 7, 3) := by decide +kernel
theorem d_X8_init_332 : decode cX8_init 332 = .ok (.bipush 12, 2) := by decide +kernel
theorem d_X8_init_334 : decode cX8_init 334 = .ok (.bipush (-4), 2) := by decide +kernel
theorem d_X8_init_336 : decode cX8_init 336 = .ok (.iastore, 1) := by decide +kernel
theorem d_X8_init_337 : decode cX8_init 337 = .ok (.aload_n 0, 1) := by decide +kernel
theorem d_X8_init_338 : decode cX8_init 338 = .ok (.getfield 16, 3) := by decide +kernel
theorem d_X8_init_341 : decode cX8_init 341 = .ok (.iconst 0, 1) := by decide +kernel
theorem d_X8_init_342 : decode cX8_init 342 = .ok (.iconst 1, 1) := by decide +kernel
theorem d_X8_init_343 : decode cX8_init 343 = .ok (.iastore, 1) := by decide +kernel
theorem d_X8_init_344 : decode cX8_init 344 = .ok (.aload_n 0, 1) := by decide +kernel
theorem d_X8_init_345 : decode cX8_init 345 = .ok (.getfield 19, 3) := by decide +kernel
theorem d_X8_init_348 : decode cX8_init 348 = .ok (.iconst 0, 1) := by decide +kernel
theorem d_X8_init_349 : decode cX8_init 349 = .ok (.iconst 1, 1) := by decide +kernel
theorem d_X8_init_350 : decode cX8_init 350 = .ok (.bastore, 1) := by decide +kernel
theorem d_X8_init_351 : decode cX8_init 351 = .ok (.aload_n 0, 1) := by decide +kernel
theorem d_X8_init_352 : decode cX8_init 352 = .ok (.getfield 23, 3) := by decide +kernel
theorem d_X8_init_355 : decode cX8_init 355 = .ok (.iconst 0, 1) := by decide +kernel
theorem d_X8_init_356 : decode cX8_init 356 = .ok (.iconst (-1), 1) := by decide +kernel
theorem d_X8_init_357 : decode cX8_init 357 = .ok (.iastore, 1) := by decide +kernel
theorem d_X8_init_358 : decode cX8_init 358 = .ok (.aload_n 0, 1) := by decide +kernel
theorem d_X8_init_359 : decode cX8_init 359 = .ok (.getfield 29, 3) := by decide +kernel
theorem d_X8_init_362 : decode cX8_init 362 = .ok (.iconst 0, 1) := by decide +kernel
theorem d_X8_init_363 : decode cX8_init 363 = .ok (.iconst (-1), 1) := by decide +kernel
theorem d_X8_init_364 : decode cX8_init 364 = .ok (.iastore, 1) := by decide +kernel
theorem d_X8_init_365 : decode cX8_init 365 = .ok (.aload_n 0, 1) := by decide +kernel
theorem d_X8_init_366 : decode cX8_init 366 = .ok (.getfield 32, 3) := by decide +kernel
theorem d_X8_init_369 : decode cX8_init 369 = .ok (.iconst 0, 1) := by decide +kernel
theorem d_X8_init_370 : decode cX8_init 370 = .ok (.iconst 4, 1) := by decide +kernel
theorem d_X8_init_371 : decode cX8_init 371 = .ok (.iastore, 1) := by decide +kernel
theorem d_X8_init_372 : decode cX8_init 372 = .ok (.aload_n 0, 1) := by decide +kernel
theorem d_X8_init_373 : decode cX8_init 373 = .ok (.getfield 41, 3) := by decide +kernel
theorem d_X8_init_376 : decode cX8_init 376 = .ok (.iconst 0, 1) := by decide +kernel
theorem d_X8_init_377 : decode cX8_init 377 = .ok (.iconst (-1), 1) := by decide +kernel
theorem d_X8_init_378 : decode cX8_init 378 = .ok (.iastore, 1) := by decide +kernel
theorem d_X8_init_379 : decode cX8_init 379 = .ok (.aload_n 0, 1) := by decide +kernel
theorem d_X8_init_380 : decode cX8_init 380 = .ok (.getfield 59, 3) := by decide +kernel
theorem d_X8_init_383 : decode cX8_init 383 = .ok (.iconst 0, 1) := by decide +kernel
theorem d_X8_init_384 : decode cX8_init 384 = .ok (.iconst (-1), 1) := by decide +kernel
theorem d_X8_init_385 : decode cX8_init 385 = .ok (.iastore, 1) := by decide +kernel
theorem d_X8_init_386 : decode cX8_init 386 = .ok (.iconst 0, 1) := by decide +kernel
theorem d_X8_init_387 : decode cX8_init 387 = .ok (.istore_n 1, 1) := by decide +kernel
theorem d_X8_init_388 : decode cX8_init 388 = .ok (.iload_n 1, 1) := by decide +kernel
theorem d_X8_init_389 : decode cX8_init 389 = .ok (.sipush 256, 3) := by decide +kernel
theorem d_X8_init_392 : decode cX8_init 392 = .ok (.if_icmp .ge 16, 3) := by decide +kernel
theorem d_X8_init_395 : decode cX8_init 395 = .ok (.aload_n 0, 1) := by decide +kernel
theorem d_X8_init_396 : decode cX8_init 396 = .ok (.getfield 80, 3) := by decide +kernel
theorem d_X8_init_399 : decode cX8_init 399 = .ok (.iload_n 1, 1) := by decide +kernel
theorem d_X8_init_400 : decode cX8_init 400 = .ok (.iconst (-1), 1) := by decide +kernel
theorem d_X8_init_401 : decode cX8_init 401 = .ok (.iastore, 1) := by decide +kernel
theorem d_X8_init_402 : decode cX8_init 402 = .ok (.iinc 1 1, 3) := by decide +kernel
theorem d_X8_init_405 : decode cX8_init 405 = .ok (.goto (-17), 3) := by decide +kernel
theorem d_X8_init_408 : decode cX8_init 408 = .ok (.aload_n 0, 1) := by decide +kernel
theorem d_X8_init_409 : decode cX8_init 409 = .ok (.getfield 80, 3) := by decide +kernel
theorem d_X8_init_412 : decode cX8_init 412 = .ok (.iconst 0, 1) := by decide +kernel
theorem d_X8_init_413 : decode cX8_init 413 = .ok (.bipush 10, 2) := by decide +kernel
theorem d_X8_init_415 : decode cX8_init 415 = .ok (.iastore, 1) := by decide +kernel
theorem d_X8_init_416 : decode cX8_init 416 = .ok (.aload_n 0, 1) := by decide +kernel
theorem d_X8_init_417 : decode cX8_init 417 = .ok (.getfield 83, 3) := by decide +kernel
theorem d_X8_init_420 : decode cX8_init 420 = .ok (.iconst 0, 1) := by decide +kernel
theorem d_X8_init_421 : decode cX8_init 421 = .ok (.iconst 1, 1) := by decide +kernel
theorem d_X8_init_422 : decode cX8_init 422 = .ok (.iastore, 1) := by decide +kernel
theorem d_X8_init_423 : decode cX8_init 423 = .ok (.aload_n 0, 1) := by decide +kernel
theorem d_X8_init_424 : decode cX8_init 424 = .ok (.iconst 0, 1) := by decide +kernel
theorem d_X8_init_425 : decode cX8_init 425 = .ok (.iconst 2, 1) := by decide +kernel
theorem d_X8_init_426 : decode cX8_init 426 = .ok (.invokevirtual 116, 3) := by decide +kernel
theorem d_X8_init_429 : decode cX8_init 429 = .ok (.return_, 1) := by decide +kernel
theorem d_X7_init_0 : decode cX7_init 0 = .ok (.aload_n 0, 1) := by decide +kernel
theorem d_X7_init_1 : decode cX7_init 1 = .ok (.invokespecial 3, 3) := by decide +kernel
theorem oj_RX7_3 : OJ RX7 3 := ⟨KW.at (i := 99) (by decide +kernel) rfl, KW.at (i := 100) (by decide +kernel) rfl, KW.at (i := 101) (by decide +kernel) rfl⟩
theorem d_X7_init_4 : decode cX7_init 4 = .ok (.aload_n 0, 1) := by decide +kernel
theorem d_X7_init_5 : decode cX7_init 5 = .ok (.bipush 80, 2) := by decide +kernel
theorem d_X7_init_7 : decode cX7_init 7 = .ok (.newarray .int, 2) := by decide +kernel
theorem d_X7_init_9 : decode cX7_init 9 = .ok (.putfield 9, 3) := by decide +kernel
theorem pkr_RX7_9 : PKR RX7 9 7 7 := ⟨RX7, TX7, 8, tyX7, rfl, by decide, ws_X7, KW.at (i := 370) (by decide +kernel) rfl, tyX7_ok, nmX7, rfl, fun x => ⟨rfl, rfl⟩⟩
theorem d_X7_init_12 : decode cX7_init 12 = .ok (.new 13, 3) := by decide +kernel
theorem nk_RX7_13_2 : NK RX7 13 2 6 [6, 7, 8, 9, 0, 0] := ⟨RX2, TX2, tyX2, rfl, ws_X2, tyX2_ok, KW.at (i := 102) (by decide +kernel) rfl, KW.at (i := 103) (by decide +kernel) rfl, KW.at (i := 76) (by decide +kernel) rfl, rfl, rfl⟩
theorem d_X7_init_15 : decode cX7_init 15 = .ok (.dup, 1) := by decide +kernel
theorem d_X7_init_16 : decode cX7_init 16 = .ok (.invokespecial 15, 3) := by decide +kernel
theorem d_X2_init_0 : decode cX2_init 0 = .ok (.aload_n 0, 1) := by decide +kernel
theorem d_X2_init_1 : decode cX2_init 1 = .ok (.invokespecial 3, 3) := by decide +kernel
theorem oj_RX2_3 : OJ RX2 3 := ⟨KW.at (i := 107) (by decide +kernel) rfl, KW.at (i := 100) (by decide +kernel) rfl, KW.at (i := 101) (by decide +kernel) rfl⟩
theorem d_X2_init_4 : decode cX2_init 4 = .ok (.aload_n 0, 1) := by decide +kernel
theorem d_X2_init_5 : decode cX2_init 5 = .ok (.sipush 1024, 3) := by decide +kernel
theorem d_X2_init_8 : decode cX2_init 8 = .ok (.newarray .int, 2) := by decide +kernel
theorem d_X2_init_10 : decode cX2_init 10 = .ok (.putfield 11, 3) := by decide +kernel
theorem pkr_RX2_11 : PKR RX2 11 2 0 := ⟨RX2, TX2, 6, tyX2, rfl, by decide, ws_X2, KW.at (i := 111) (by decide +kernel) rfl, tyX2_ok, nmX2, rfl, fun x => ⟨rfl, rfl⟩⟩
theorem d_X2_init_13 : decode cX2_init 13 = .ok (.aload_n 0, 1) := by decide +kernel
theorem d_X2_init_14 : decode cX2_init 14 = .ok (.sipush 1024, 3) := by decide +kernel
theorem d_X2_init_17 : decode cX2_init 17 = .ok (.newarray .int, 2) := by decide +kernel
theorem d_X2_init_19 : decode cX2_init 19 = .ok (.putfield 15, 3) := by decide +kernel
theorem pkr_RX2_15 : PKR RX2 15 2 1 := ⟨RX2, TX2, 6, tyX2, rfl, by decide, ws_X2, KW.at (i := 114) (by decide +kernel) rfl, tyX2_ok, nmX2, rfl, fun x => ⟨rfl, rfl⟩⟩
theorem d_X2_init_22 : decode cX2_init 22 = .ok (.aload_n 0, 1) := by decide +kernel
theorem d_X2_init_23 : decode cX2_init 23 = .ok (.bipush 80, 2) := by decide +kernel
theorem d_X2_init_25 : decode cX2_init 25 = .ok (.newarray .int, 2) := by decide +kernel
theorem d_X2_init_27 : decode cX2_init 27 = .ok (.putfield 18, 3) := by decide +kernel
theorem pkr_RX2_18 : PKR RX2 18 2 2 := ⟨RX2, TX2, 6, tyX2, rfl, by decide, ws_X2, KW.at (i := 115) (by decide +kernel) rfl, tyX2_ok, nmX2, rfl, fun x => ⟨rfl, rfl⟩⟩
theorem d_X2_init_30 : decode cX2_init 30 = .ok (.aload_n 0, 1) := by decide +kernel
theorem d_X2_init_31 : decode cX2_init 31 = .ok (.sipush 256, 3) := by decide +kernel
theorem d_X2_init_34 : decode cX2_init 34 = .ok (.newarray .int, 2) := by decide +kernel
theorem d_X2_init_36 : decode cX2_init 36 = .ok (.putfield 21, 3) := by decide +kernel
theorem pkr_RX2_21 : PKR RX2 21 2 3 := ⟨RX2, TX2, 6, tyX2, rfl, by decide, ws_X2, KW.at (i := 116) (by decide +kernel) rfl, tyX2_ok, nmX2, rfl, fun x => ⟨rfl, rfl⟩⟩
theorem d_X2_init_39 : decode cX2_init 39 = .ok (.aload_n 0, 1) := by decide +kernel
theorem d_X2_init_40 : decode cX2_init 40 = .ok (.iconst 1, 1) := by decide +kernel
theorem d_X2_init_41 : decode cX2_init 41 = .ok (.putfield 24, 3) := by decide +kernel
theorem d_X2_init_44 : decode cX2_init 44 = .ok (.aload_n 0, 1) := by decide +kernel
theorem d_X2_init_45 : decode cX2_init 45 = .ok (.iconst 0, 1) := by decide +kernel
theorem d_X2_init_46 : decode cX2_init 46 = .ok (.putfield 28, 3) := by decide +kernel
theorem d_X2_init_49 : decode cX2_init 49 = .ok (.aload_n 0, 1) := by decide +kernel
theorem d_X2_init_50 : decode cX2_init 50 = .ok (.getfield 11, 3) := by decide +kernel
theorem d_X2_init_53 : decode cX2_init 53 = .ok (.iconst 4, 1) := by decide +kernel
theorem d_X2_init_54 : decode cX2_init 54 = .ok (.bipush (-12), 2) := by decide +kernel
theorem d_X2_init_56 : decode cX2_init 56 = .ok (.invokestatic 31, 3) := by decide +kernel
theorem d_X2_init_59 : decode cX2_init 59 = .ok (.return_, 1) := by decide +kernel
abbrev Y_X2_init : YT := (cX2_init, 1, none, yX2_init, [], 2)
theorem mk_X2_init : MK Y_X2_init 0 := ⟨KW.at (i := 76) (by decide +kernel) rfl, KW.at (i := 106) (by decide +kernel) rfl, ⟨by decide +kernel, by decide +kernel⟩, by decide +kernel, by decide +kernel, rfl, by decide⟩
theorem cki_RX7_15 : CKI RX7 15 Y_X2_init 0 := ⟨rfl, rfl, KW.at (i := 104) (by decide +kernel) rfl, KW.at (i := 105) (by decide +kernel) rfl, mk_X2_init⟩
theorem d_X7_init_19 : decode cX7_init 19 = .ok (.astore_n 1, 1) := by decide +kernel
theorem d_X7_init_20 : decode cX7_init 20 = .ok (.new 16, 3) := by decide +kernel
theorem nk_RX7_16_7 : NK RX7 16 0 6 [5, 11, 12, 13, 0, 2] := ⟨RX0, TX0, tyX0, rfl, ws_X0, tyX0_ok, KW.at (i := 136) (by decide +kernel) rfl, KW.at (i := 137) (by decide +kernel) rfl, KW.at (i := 77) (by decide +kernel) rfl, rfl, rfl⟩
theorem d_X7_init_23 : decode cX7_init 23 = .ok (.dup, 1) := by decide +kernel
theorem d_X7_init_24 : decode cX7_init 24 = .ok (.aload_n 1, 1) := by decide +kernel
theorem d_X7_init_25 : decode cX7_init 25 = .ok (.invokespecial 18, 3) := by decide +kernel
theorem d_X0_init_0 : decode cX0_init 0 = .ok (.aload_n 0, 1) := by decide +kernel
theorem d_X0_init_1 : decode cX0_init 1 = .ok (.invokespecial 3, 3) := by decide +kernel
theorem oj_RX0_3 : OJ RX0 3 := ⟨KW.at (i := 141) (by decide +kernel) rfl, KW.at (i := 100) (by decide +kernel) rfl, KW.at (i := 101) (by decide +kernel) rfl⟩
theorem d_X0_init_4 : decode cX0_init 4 = .ok (.aload_n 0, 1) := by decide +kernel
theorem d_X0_init_5 : decode cX0_init 5 = .ok (.bipush 6, 2) := by decide +kernel
theorem d_X0_init_7 : decode cX0_init 7 = .ok (.newarray .int, 2) := by decide +kernel
theorem d_X0_init_9 : decode cX0_init 9 = .ok (.putfield 11, 3) := by decide +kernel
theorem pkr_RX0_11 : PKR RX0 11 0 1 := ⟨RX0, TX0, 6, tyX0, rfl, by decide, ws_X0, KW.at (i := 143) (by decide +kernel) rfl, tyX0_ok, nmX0, rfl, fun x => ⟨rfl, rfl⟩⟩
theorem d_X0_init_12 : decode cX0_init 12 = .ok (.aload_n 0, 1) := by decide +kernel
theorem d_X0_init_13 : decode cX0_init 13 = .ok (.bipush 6, 2) := by decide +kernel
theorem d_X0_init_15 : decode cX0_init 15 = .ok (.newarray .int, 2) := by decide +kernel
theorem d_X0_init_17 : decode cX0_init 17 = .ok (.putfield 15, 3) := by decide +kernel
theorem pkr_RX0_15 : PKR RX0 15 0 2 := ⟨RX0, TX0, 6, tyX0, rfl, by decide, ws_X0, KW.at (i := 144) (by decide +kernel) rfl, tyX0_ok, nmX0, rfl, fun x => ⟨rfl, rfl⟩⟩
theorem d_X0_init_20 : decode cX0_init 20 = .ok (.aload_n 0, 1) := by decide +kernel
theorem d_X0_init_21 : decode cX0_init 21 = .ok (.sipush 1024, 3) := by decide +kernel
theorem d_X0_init_24 : decode cX0_init 24 = .ok (.newarray .int, 2) := by decide +kernel
theorem d_X0_init_26 : decode cX0_init 26 = .ok (.putfield 20, 3) := by decide +kernel
theorem pkr_RX0_20 : PKR RX0 20 0 3 := ⟨RX0, TX0, 6, tyX0, rfl, by decide, ws_X0, KW.at (i := 145) (by decide +kernel) rfl, tyX0_ok, nmX0, rfl, fun x => ⟨rfl, rfl⟩⟩
theorem d_X0_init_29 : decode cX0_init 29 = .ok (.aload_n 0, 1) := by decide +kernel
theorem d_X0_init_30 : decode cX0_init 30 = .ok (.aload_n 1, 1) := by decide +kernel
theorem d_X0_init_31 : decode cX0_init 31 = .ok (.putfield 23, 3) := by decide +kernel
theorem pkr_RX0_23 : PKR RX0 23 0 0 := ⟨RX0, TX0, 6, tyX0, rfl, by decide, ws_X0, KW.at (i := 142) (by decide +kernel) rfl, tyX0_ok, nmX0, rfl, fun x => ⟨rfl, rfl⟩⟩
theorem d_X0_init_34 : decode cX0_init 34 = .ok (.return_, 1) := by decide +kernel
abbrev Y_X0_init : YT := (cX0_init, 2, none, yX0_init, [], 1)
theorem mk_X0_init : MK Y_X0_init 1 := ⟨KW.at (i := 77) (by decide +kernel) rfl, KW.at (i := 140) (by decide +kernel) rfl, ⟨by decide +kernel, by decide +kernel⟩, by decide +kernel, by decide +kernel, rfl, by decide⟩
theorem cki_RX7_18 : CKI RX7 18 Y_X0_init 1 := ⟨rfl, rfl, KW.at (i := 138) (by decide +kernel) rfl, KW.at (i := 139) (by decide +kernel) rfl, mk_X0_init⟩
theorem d_X7_init_28 : decode cX7_init 28 = .ok (.astore_n 2, 1) := by decide +kernel
theorem d_X7_init_29 : decode cX7_init 29 = .ok (.aload_n 0, 1) := by decide +kernel
theorem d_X7_init_30 : decode cX7_init 30 = .ok (.aload_n 1, 1) := by decide +kernel
theorem d_X7_init_31 : decode cX7_init 31 = .ok (.putfield 21, 3) := by decide +kernel
theorem pkr_RX7_21 : PKR RX7 21 7 0 := ⟨RX7, TX7, 8, tyX7, rfl, by decide, ws_X7, KW.at (i := 363) (by decide +kernel) rfl, tyX7_ok, nmX7, rfl, fun x => ⟨rfl, rfl⟩⟩
theorem d_X7_init_34 : decode cX7_init 34 = .ok (.aload_n 0, 1) := by decide +kernel
theorem d_X7_init_35 : decode cX7_init 35 = .ok (.aload_n 2, 1) := by decide +kernel
theorem d_X7_init_36 : decode cX7_init 36 = .ok (.putfield 25, 3) := by decide +kernel
theorem pkr_RX7_25 : PKR RX7 25 7 1 := ⟨RX7, TX7, 8, tyX7, rfl, by decide, ws_X7, KW.at (i := 364) (by decide +kernel) rfl, tyX7_ok, nmX7, rfl, fun x => ⟨rfl, rfl⟩⟩
theorem d_X7_init_39 : decode cX7_init 39 = .ok (.aload_n 0, 1) := by decide +kernel
theorem d_X7_init_40 : decode cX7_init 40 = .ok (.new 29, 3) := by decide +kernel
theorem nk_RX7_29_11 : NK RX7 29 3 2 [5, 10] := ⟨RX3, TX3, tyX3, rfl, ws_X3, tyX3_ok, KW.at (i := 162) (by decide +kernel) rfl, KW.at (i := 163) (by decide +kernel) rfl, KW.at (i := 78) (by decide +kernel) rfl, rfl, rfl⟩
theorem d_X7_init_43 : decode cX7_init 43 = .ok (.dup, 1) := by decide +kernel
theorem d_X7_init_44 : decode cX7_init 44 = .ok (.aload_n 1, 1) := by decide +kernel
theorem d_X7_init_45 : decode cX7_init 45 = .ok (.aload_n 2, 1) := by decide +kernel
theorem d_X7_init_46 : decode cX7_init 46 = .ok (.invokespecial 31, 3) := by decide +kernel
theorem d_X3_init_0 : decode cX3_init 0 = .ok (.aload_n 0, 1) := by decide +kernel
theorem d_X3_init_1 : decode cX3_init 1 = .ok (.invokespecial 3, 3) := by decide +kernel
theorem oj_RX3_3 : OJ RX3 3 := ⟨KW.at (i := 167) (by decide +kernel) rfl, KW.at (i := 100) (by decide +kernel) rfl, KW.at (i := 101) (by decide +kernel) rfl⟩
theorem d_X3_init_4 : decode cX3_init 4 = .ok (.aload_n 0, 1) := by decide +kernel
theorem d_X3_init_5 : decode cX3_init 5 = .ok (.aload_n 1, 1) := by decide +kernel
theorem d_X3_init_6 : decode cX3_init 6 = .ok (.putfield 9, 3) := by decide +kernel
theorem pkr_RX3_9 : PKR RX3 9 3 0 := ⟨RX3, TX3, 2, tyX3, rfl, by decide, ws_X3, KW.at (i := 168) (by decide +kernel) rfl, tyX3_ok, nmX3, rfl, fun x => ⟨rfl, rfl⟩⟩
theorem d_X3_init_9 : decode cX3_init 9 = .ok (.aload_n 0, 1) := by decide +kernel
theorem d_X3_init_10 : decode cX3_init 10 = .ok (.aload_n 2, 1) := by decide +kernel
theorem d_X3_init_11 : decode cX3_init 11 = .ok (.putfield 15, 3) := by decide +kernel
theorem pkr_RX3_15 : PKR RX3 15 3 1 := ⟨RX3, TX3, 2, tyX3, rfl, by decide, ws_X3, KW.at (i := 169) (by decide +kernel) rfl, tyX3_ok, nmX3, rfl, fun x => ⟨rfl, rfl⟩⟩
theorem d_X3_init_14 : decode cX3_init 14 = .ok (.return_, 1) := by decide +kernel
abbrev Y_X3_init : YT := (cX3_init, 3, none, yX3_init, [], 1)
theorem mk_X3_init : MK Y_X3_init 2 := ⟨KW.at (i := 78) (by decide +kernel) rfl, KW.at (i := 166) (by decide +kernel) rfl, ⟨by decide +kernel, by decide +kernel⟩, by decide +kernel, by decide +kernel, rfl, by decide⟩
theorem cki_RX7_31 : CKI RX7 31 Y_X3_init 2 := ⟨rfl, rfl, KW.at (i := 164) (by decide +kernel) rfl, KW.at (i := 165) (by decide +kernel) rfl, mk_X3_init⟩
theorem d_X7_init_49 : decode cX7_init 49 = .ok (.putfield 34, 3) := by decide +kernel
theorem pkr_RX7_34 : PKR RX7 34 7 2 := ⟨RX7, TX7, 8, tyX7, rfl, by decide, ws_X7, KW.at (i := 365) (by decide +kernel) rfl, tyX7_ok, nmX7, rfl, fun x => ⟨rfl, rfl⟩⟩
theorem d_X7_init_52 : decode cX7_init 52 = .ok (.aload_n 0, 1) := by decide +kernel
theorem d_X7_init_53 : decode cX7_init 53 = .ok (.new 38, 3) := by decide +kernel
theorem nk_RX7_38_12 : NK RX7 38 5 2 [5, 10] := ⟨RX5, TX5, tyX5, rfl, ws_X5, tyX5_ok, KW.at (i := 175) (by decide +kernel) rfl, KW.at (i := 176) (by decide +kernel) rfl, KW.at (i := 79) (by decide +kernel) rfl, rfl, rfl⟩
theorem d_X7_init_56 : decode cX7_init 56 = .ok (.dup, 1) := by decide +kernel
theorem d_X7_init_57 : decode cX7_init 57 = .ok (.aload_n 1, 1) := by decide +kernel
theorem d_X7_init_58 : decode cX7_init 58 = .ok (.aload_n 2, 1) := by decide +kernel
theorem d_X7_init_59 : decode cX7_init 59 = .ok (.invokespecial 40, 3) := by decide +kernel
theorem d_X5_init_0 : decode cX5_init 0 = .ok (.aload_n 0, 1) := by decide +kernel
theorem d_X5_init_1 : decode cX5_init 1 = .ok (.invokespecial 3, 3) := by decide +kernel
theorem oj_RX5_3 : OJ RX5 3 := ⟨KW.at (i := 180) (by decide +kernel) rfl, KW.at (i := 100) (by decide +kernel) rfl, KW.at (i := 101) (by decide +kernel) rfl⟩
theorem d_X5_init_4 : decode cX5_init 4 = .ok (.aload_n 0, 1) := by decide +kernel
theorem d_X5_init_5 : decode cX5_init 5 = .ok (.aload_n 1, 1) := by decide +kernel
theorem d_X5_init_6 : decode cX5_init 6 = .ok (.putfield 9, 3) := by decide +kernel
theorem pkr_RX5_9 : PKR RX5 9 5 0 := ⟨RX5, TX5, 2, tyX5, rfl, by decide, ws_X5, KW.at (i := 181) (by decide +kernel) rfl, tyX5_ok, nmX5, rfl, fun x => ⟨rfl, rfl⟩⟩
theorem d_X5_init_9 : decode cX5_init 9 = .ok (.aload_n 0, 1) := by decide +kernel
theorem d_X5_init_10 : decode cX5_init 10 = .ok (.aload_n 2, 1) := by decide +kernel
theorem d_X5_init_11 : decode cX5_init 11 = .ok (.putfield 15, 3) := by decide +kernel
theorem pkr_RX5_15 : PKR RX5 15 5 1 := ⟨RX5, TX5, 2, tyX5, rfl, by decide, ws_X5, KW.at (i := 182) (by decide +kernel) rfl, tyX5_ok, nmX5, rfl, fun x => ⟨rfl, rfl⟩⟩
theorem d_X5_init_14 : decode cX5_init 14 = .ok (.return_, 1) := by decide +kernel
abbrev Y_X5_init : YT := (cX5_init, 3, none, yX5_init, [], 1)
theorem mk_X5_init : MK Y_X5_init 2 := ⟨KW.at (i := 79) (by decide +kernel) rfl, KW.at (i := 179) (by decide +kernel) rfl, ⟨by decide +kernel, by decide +kernel⟩, by decide +kernel, by decide +kernel, rfl, by decide⟩
theorem cki_RX7_40 : CKI RX7 40 Y_X5_init 2 := ⟨rfl, rfl, KW.at (i := 177) (by decide +kernel) rfl, KW.at (i := 178) (by decide +kernel) rfl, mk_X5_init⟩
theorem d_X7_init_62 : decode cX7_init 62 = .ok (.putfield 41, 3) := by decide +kernel
theorem pkr_RX7_41 : PKR RX7 41 7 3 := ⟨RX7, TX7, 8, tyX7, rfl, by decide, ws_X7, KW.at (i := 366) (by decide +kernel) rfl, tyX7_ok, nmX7, rfl, fun x => ⟨rfl, rfl⟩⟩
theorem d_X7_init_65 : decode cX7_init 65 = .ok (.aload_n 0, 1) := by decide +kernel
theorem d_X7_init_66 : decode cX7_init 66 = .ok (.new 45, 3) := by decide +kernel
theorem nk_RX7_45_13 : NK RX7 45 4 3 [5, 10, 17] := ⟨RX4, TX4, tyX4, rfl, ws_X4, tyX4_ok, KW.at (i := 188) (by decide +kernel) rfl, KW.at (i := 189) (by decide +kernel) rfl, KW.at (i := 80) (by decide +kernel) rfl, rfl, rfl⟩
theorem d_X7_init_69 : decode cX7_init 69 = .ok (.dup, 1) := by decide +kernel
theorem d_X7_init_70 : decode cX7_init 70 = .ok (.aload_n 1, 1) := by decide +kernel
theorem d_X7_init_71 : decode cX7_init 71 = .ok (.aload_n 2, 1) := by decide +kernel
theorem d_X7_init_72 : decode cX7_init 72 = .ok (.invokespecial 47, 3) := by decide +kernel
theorem d_X4_init_0 : decode cX4_init 0 = .ok (.aload_n 0, 1) := by decide +kernel
theorem d_X4_init_1 : decode cX4_init 1 = .ok (.invokespecial 3, 3) := by decide +kernel
theorem oj_RX4_3 : OJ RX4 3 := ⟨KW.at (i := 193) (by decide +kernel) rfl, KW.at (i := 100) (by decide +kernel) rfl, KW.at (i := 101) (by decide +kernel) rfl⟩
theorem d_X4_init_4 : decode cX4_init 4 = .ok (.aload_n 0, 1) := by decide +kernel
theorem d_X4_init_5 : decode cX4_init 5 = .ok (.sipush 256, 3) := by decide +kernel
theorem d_X4_init_8 : decode cX4_init 8 = .ok (.newarray .int, 2) := by decide +kernel
theorem d_X4_init_10 : decode cX4_init 10 = .ok (.putfield 9, 3) := by decide +kernel
theorem pkr_RX4_9 : PKR RX4 9 4 2 := ⟨RX4, TX4, 3, tyX4, rfl, by decide, ws_X4, KW.at (i := 196) (by decide +kernel) rfl, tyX4_ok, nmX4, rfl, fun x => ⟨rfl, rfl⟩⟩
theorem d_X4_init_13 : decode cX4_init 13 = .ok (.aload_n 0, 1) := by decide +kernel
theorem d_X4_init_14 : decode cX4_init 14 = .ok (.aload_n 1, 1) := by decide +kernel
theorem d_X4_init_15 : decode cX4_init 15 = .ok (.putfield 15, 3) := by decide +kernel
theorem pkr_RX4_15 : PKR RX4 15 4 0 := ⟨RX4, TX4, 3, tyX4, rfl, by decide, ws_X4, KW.at (i := 194) (by decide +kernel) rfl, tyX4_ok, nmX4, rfl, fun x => ⟨rfl, rfl⟩⟩
theorem d_X4_init_18 : decode cX4_init 18 = .ok (.aload_n 0, 1) := by decide +kernel
theorem d_X4_init_19 : decode cX4_init 19 = .ok (.aload_n 2, 1) := by decide +kernel
theorem d_X4_init_20 : decode cX4_init 20 = .ok (.putfield 19, 3) := by decide +kernel
theorem pkr_RX4_19 : PKR RX4 19 4 1 := ⟨RX4, TX4, 3, tyX4, rfl, by decide, ws_X4, KW.at (i := 195) (by decide +kernel) rfl, tyX4_ok, nmX4, rfl, fun x => ⟨rfl, rfl⟩⟩
theorem d_X4_init_23 : decode cX4_init 23 = .ok (.return_, 1) := by decide +kernel
abbrev Y_X4_init : YT := (cX4_init, 3, none, yX4_init, [], 1)
theorem mk_X4_init : MK Y_X4_init 2 := ⟨KW.at (i := 80) (by decide +kernel) rfl, KW.at (i := 192) (by decide +kernel) rfl, ⟨by decide +kernel, by decide +kernel⟩, by decide +kernel, by decide +kernel, rfl, by decide⟩
theorem cki_RX7_47 : CKI RX7 47 Y_X4_init 2 := ⟨rfl, rfl, KW.at (i := 190) (by decide +kernel) rfl, KW.at (i := 191) (by decide +kernel) rfl, mk_X4_init⟩
theorem d_X7_init_75 : decode cX7_init 75 = .ok (.putfield 48, 3) := by decide +kernel
theorem pkr_RX7_48 : PKR RX7 48 7 4 := ⟨RX7, TX7, 8, tyX7, rfl, by decide, ws_X7, KW.at (i := 367) (by decide +kernel) rfl, tyX7_ok, nmX7, rfl, fun x => ⟨rfl, rfl⟩⟩
theorem d_X7_init_78 : decode cX7_init 78 = .ok (.aload_n 0, 1) := by decide +kernel
theorem d_X7_init_79 : decode cX7_init 79 = .ok (.new 52, 3) := by decide +kernel
theorem nk_RX7_52_15 : NK RX7 52 6 5 [19, 20, 21, 22, 0] := ⟨RX6, TX6, tyX6, rfl, ws_X6, tyX6_ok, KW.at (i := 204) (by decide +kernel) rfl, KW.at (i := 205) (by decide +kernel) rfl, KW.at (i := 81) (by decide +kernel) rfl, rfl, rfl⟩
theorem d_X7_init_82 : decode cX7_init 82 = .ok (.dup, 1) := by decide +kernel
theorem d_X7_init_83 : decode cX7_init 83 = .ok (.invokespecial 54, 3) := by decide +kernel
theorem d_X6_init_0 : decode cX6_init 0 = .ok (.aload_n 0, 1) := by decide +kernel
theorem d_X6_init_1 : decode cX6_init 1 = .ok (.invokespecial 3, 3) := by decide +kernel
theorem oj_RX6_3 : OJ RX6 3 := ⟨KW.at (i := 209) (by decide +kernel) rfl, KW.at (i := 100) (by decide +kernel) rfl, KW.at (i := 101) (by decide +kernel) rfl⟩
theorem d_X6_init_4 : decode cX6_init 4 = .ok (.aload_n 0, 1) := by decide +kernel
theorem d_X6_init_5 : decode cX6_init 5 = .ok (.bipush 80, 2) := by decide +kernel
theorem d_X6_init_7 : decode cX6_init 7 = .ok (.newarray .int, 2) := by decide +kernel
theorem d_X6_init_9 : decode cX6_init 9 = .ok (.putfield 9, 3) := by decide +kernel
theorem pkr_RX6_9 : PKR RX6 9 6 0 := ⟨RX6, TX6, 5, tyX6, rfl, by decide, ws_X6, KW.at (i := 210) (by decide +kernel) rfl, tyX6_ok, nmX6, rfl, fun x => ⟨rfl, rfl⟩⟩
theorem d_X6_init_12 : decode cX6_init 12 = .ok (.aload_n 0, 1) := by decide +kernel
theorem d_X6_init_13 : decode cX6_init 13 = .ok (.bipush 80, 2) := by decide +kernel
theorem d_X6_init_15 : decode cX6_init 15 = .ok (.newarray .int, 2) := by decide +kernel
theorem d_X6_init_17 : decode cX6_init 17 = .ok (.putfield 15, 3) := by decide +kernel
theorem pkr_RX6_15 : PKR RX6 15 6 1 := ⟨RX6, TX6, 5, tyX6, rfl, by decide, ws_X6, KW.at (i := 211) (by decide +kernel) rfl, tyX6_ok, nmX6, rfl, fun x => ⟨rfl, rfl⟩⟩
theorem d_X6_init_20 : decode cX6_init 20 = .ok (.aload_n 0, 1) := by decide +kernel
theorem d_X6_init_21 : decode cX6_init 21 = .ok (.bipush 80, 2) := by decide +kernel
theorem d_X6_init_23 : decode cX6_init 23 = .ok (.newarray .int, 2) := by decide +kernel
theorem d_X6_init_25 : decode cX6_init 25 = .ok (.putfield 18, 3) := by decide +kernel
theorem pkr_RX6_18 : PKR RX6 18 6 2 := ⟨RX6, TX6, 5, tyX6, rfl, by decide, ws_X6, KW.at (i := 212) (by decide +kernel) rfl, tyX6_ok, nmX6, rfl, fun x => ⟨rfl, rfl⟩⟩
theorem d_X6_init_28 : decode cX6_init 28 = .ok (.aload_n 0, 1) := by decide +kernel
theorem d_X6_init_29 : decode cX6_init 29 = .ok (.bipush 80, 2) := by decide +kernel
theorem d_X6_init_31 : decode cX6_init 31 = .ok (.newarray .int, 2) := by decide +kernel
theorem d_X6_init_33 : decode cX6_init 33 = .ok (.putfield 21, 3) := by decide +kernel
theorem pkr_RX6_21 : PKR RX6 21 6 3 := ⟨RX6, TX6, 5, tyX6, rfl, by decide, ws_X6, KW.at (i := 213) (by decide +kernel) rfl, tyX6_ok, nmX6, rfl, fun x => ⟨rfl, rfl⟩⟩
theorem d_X6_init_36 : decode cX6_init 36 = .ok (.return_, 1) := by decide +kernel
abbrev Y_X6_init : YT := (cX6_init, 1, none, yX6_init, [], 1)
theorem mk_X6_init : MK Y_X6_init 0 := ⟨KW.at (i := 81) (by decide +kernel) rfl, KW.at (i := 208) (by decide +kernel) rfl, ⟨by decide +kernel, by decide +kernel⟩, by decide +kernel, by decide +kernel, rfl, by decide⟩
theorem cki_RX7_54 : CKJ RX7 54 Y_X6_init 0 := ⟨rfl, rfl, KW.at (i := 206) (by decide +kernel) rfl, KW.at (i := 207) (by decide +kernel) rfl, mk_X6_init⟩
theorem d_X7_init_86 : decode cX7_init 86 = .ok (.putfield 55, 3) := by decide +kernel
theorem pkr_RX7_55 : PKR RX7 55 7 5 := ⟨RX7, TX7, 8, tyX7, rfl, by decide, ws_X7, KW.at (i := 368) (by decide +kernel) rfl, tyX7_ok, nmX7, rfl, fun x => ⟨rfl, rfl⟩⟩
theorem d_X7_init_89 : decode cX7_init 89 = .ok (.aload_n 0, 1) := by decide +kernel
theorem d_X7_init_90 : decode cX7_init 90 = .ok (.new 59, 3) := by decide +kernel
theorem nk_RX7_59_20 : NK RX7 59 1 7 [24, 29, 34, 0, 0, 0, 1] := ⟨RX1, TX1, tyX1, rfl, ws_X1, tyX1_ok, KW.at (i := 226) (by decide +kernel) rfl, KW.at (i := 227) (by decide +kernel) rfl, KW.at (i := 82) (by decide +kernel) rfl, rfl, rfl⟩
theorem d_X7_init_93 : decode cX7_init 93 = .ok (.dup, 1) := by decide +kernel
theorem d_X7_init_94 : decode cX7_init 94 = .ok (.invokespecial 61, 3) := by decide +kernel
theorem d_X1_init_0 : decode cX1_init 0 = .ok (.aload_n 0, 1) := by decide +kernel
theorem d_X1_init_1 : decode cX1_init 1 = .ok (.invokespecial 1, 3) := by decide +kernel
theorem oj_RX1_1 : OJ RX1 1 := ⟨KW.at (i := 231) (by decide +kernel) rfl, KW.at (i := 100) (by decide +kernel) rfl, KW.at (i := 101) (by decide +kernel) rfl⟩
theorem d_X1_init_4 : decode cX1_init 4 = .ok (.aload_n 0, 1) := by decide +kernel
theorem d_X1_init_5 : decode cX1_init 5 = .ok (.new 7, 3) := by decide +kernel
theorem nk_RX1_7_21 : NK RX1 7 2 6 [25, 26, 27, 28, 0, 0] := ⟨RX2, TX2, tyX2, rfl, ws_X2, tyX2_ok, KW.at (i := 232) (by decide +kernel) rfl, KW.at (i := 103) (by decide +kernel) rfl, KW.at (i := 76) (by decide +kernel) rfl, rfl, rfl⟩
theorem d_X1_init_8 : decode cX1_init 8 = .ok (.dup, 1) := by decide +kernel
theorem d_X1_init_9 : decode cX1_init 9 = .ok (.invokespecial 9, 3) := by decide +kernel
theorem cki_RX1_9 : CKI RX1 9 Y_X2_init 0 := ⟨rfl, rfl, KW.at (i := 233) (by decide +kernel) rfl, KW.at (i := 105) (by decide +kernel) rfl, mk_X2_init⟩
theorem d_X1_init_12 : decode cX1_init 12 = .ok (.putfield 10, 3) := by decide +kernel
theorem pkr_RX1_10 : PKR RX1 10 1 0 := ⟨RX1, TX1, 7, tyX1, rfl, by decide, ws_X1, KW.at (i := 234) (by decide +kernel) rfl, tyX1_ok, nmX1, rfl, fun x => ⟨rfl, rfl⟩⟩
theorem d_X1_init_15 : decode cX1_init 15 = .ok (.aload_n 0, 1) := by decide +kernel
theorem d_X1_init_16 : decode cX1_init 16 = .ok (.new 7, 3) := by decide +kernel
theorem nk_RX1_7_26 : NK RX1 7 2 6 [30, 31, 32, 33, 0, 0] := ⟨RX2, TX2, tyX2, rfl, ws_X2, tyX2_ok, KW.at (i := 232) (by decide +kernel) rfl, KW.at (i := 103) (by decide +kernel) rfl, KW.at (i := 76) (by decide +kernel) rfl, rfl, rfl⟩
theorem d_X1_init_19 : decode cX1_init 19 = .ok (.dup, 1) := by decide +kernel
theorem d_X1_init_20 : decode cX1_init 20 = .ok (.invokespecial 9, 3) := by decide +kernel
theorem d_X1_init_23 : decode cX1_init 23 = .ok (.putfield 16, 3) := by decide +kernel
theorem pkr_RX1_16 : PKR RX1 16 1 1 := ⟨RX1, TX1, 7, tyX1, rfl, by decide, ws_X1, KW.at (i := 235) (by decide +kernel) rfl, tyX1_ok, nmX1, rfl, fun x => ⟨rfl, rfl⟩⟩
theorem d_X1_init_26 : decode cX1_init 26 = .ok (.aload_n 0, 1) := by decide +kernel
theorem d_X1_init_27 : decode cX1_init 27 = .ok (.iconst 2, 1) := by decide +kernel
theorem d_X1_init_28 : decode cX1_init 28 = .ok (.newarray .int, 2) := by decide +kernel
theorem d_X1_init_30 : decode cX1_init 30 = .ok (.putfield 19, 3) := by decide +kernel
theorem pkr_RX1_19 : PKR RX1 19 1 2 := ⟨RX1, TX1, 7, tyX1, rfl, by decide, ws_X1, KW.at (i := 236) (by decide +kernel) rfl, tyX1_ok, nmX1, rfl, fun x => ⟨rfl, rfl⟩⟩
theorem d_X1_init_33 : decode cX1_init 33 = .ok (.return_, 1) := by decide +kernel
abbrev Y_X1_init : YT := (cX1_init, 1, none, yX1_init, [], 3)
theorem mk_X1_init : MK Y_X1_init 0 := ⟨KW.at (i := 82) (by decide +kernel) rfl, KW.at (i := 230) (by decide +kernel) rfl, ⟨by decide +kernel, by decide +kernel⟩, by decide +kernel, by decide +kernel, rfl, by decide⟩
theorem cki_RX7_61 : CKJ RX7 61 Y_X1_init 0 := ⟨rfl, rfl, KW.at (i := 228) (by decide +kernel) rfl, KW.at (i := 229) (by decide +kernel) rfl, mk_X1_init⟩
theorem d_X7_init_97 : decode cX7_init 97 = .ok (.putfield 62, 3) := by decide +kernel
theorem pkr_RX7_62 : PKR RX7 62 7 6 := ⟨RX7, TX7, 8, tyX7, rfl, by decide, ws_X7, KW.at (i := 369) (by decide +kernel) rfl, tyX7_ok, nmX7, rfl, fun x => ⟨rfl, rfl⟩⟩
theorem d_X8_init_0 : decode cX8_init 0 = .ok (.aload_n 0, 1) := by decide +kernel
theorem d_X8_init_1 : decode cX8_init 1 = .ok (.invokespecial 1, 3) := by decide +kernel
theorem oj_RX8_1 : OJ RX8 1 := ⟨KW.at (i := 1074) (by decide +kernel) rfl, KW.at (i := 100) (by decide +kernel) rfl, KW.at (i := 101) (by decide +kernel) rfl⟩
theorem d_X8_init_4 : decode cX8_init 4 = .ok (.aload_n 0, 1) := by decide +kernel
theorem d_X8_init_5 : decode cX8_init 5 = .ok (.sipush 3072, 3) := by decide +kernel
theorem d_X8_init_8 : decode cX8_init 8 = .ok (.newarray .int, 2) := by decide +kernel
theorem d_X8_init_10 : decode cX8_init 10 = .ok (.putfield 7, 3) := by decide +kernel
theorem pkr_RX8_7 : PKR RX8 7 8 0 := ⟨RX8, TX8, 43, tyX8, rfl, by decide, ws_X8, KW.at (i := 1082) (by decide +kernel) rfl, tyX8_ok, nmX8, rfl, fun x => ⟨rfl, rfl⟩⟩
theorem d_X8_init_13 : decode cX8_init 13 = .ok (.aload_n 0, 1) := by decide +kernel
theorem d_X8_init_14 : decode cX8_init 14 = .ok (.iconst 3, 1) := by decide +kernel
theorem d_X8_init_15 : decode cX8_init 15 = .ok (.newarray .int, 2) := by decide +kernel
theorem d_X8_init_17 : decode cX8_init 17 = .ok (.putfield 13, 3) := by decide +kernel
theorem pkr_RX8_13 : PKR RX8 13 8 1 := ⟨RX8, TX8, 43, tyX8, rfl, by decide, ws_X8, KW.at (i := 1083) (by decide +kernel) rfl, tyX8_ok, nmX8, rfl, fun x => ⟨rfl, rfl⟩⟩
theorem d_X8_init_20 : decode cX8_init 20 = .ok (.aload_n 0, 1) := by decide +kernel
theorem d_X8_init_21 : decode cX8_init 21 = .ok (.iconst 3, 1) := by decide +kernel
theorem d_X8_init_22 : decode cX8_init 22 = .ok (.newarray .int, 2) := by decide +kernel
theorem d_X8_init_24 : decode cX8_init 24 = .ok (.putfield 16, 3) := by decide +kernel
theorem pkr_RX8_16 : PKR RX8 16 8 2 := ⟨RX8, TX8, 43, tyX8, rfl, by decide, ws_X8, KW.at (i := 1084) (by decide +kernel) rfl, tyX8_ok, nmX8, rfl, fun x => ⟨rfl, rfl⟩⟩
theorem d_X8_init_27 : decode cX8_init 27 = .ok (.aload_n 0, 1) := by decide +kernel
theorem d_X8_init_28 : decode cX8_init 28 = .ok (.sipush 240, 3) := by decide +kernel
theorem d_X8_init_31 : decode cX8_init 31 = .ok (.newarray .boolean, 2) := by decide +kernel
theorem d_X8_init_33 : decode cX8_init 33 = .ok (.putfield 19, 3) := by decide +kernel
theorem pkr_RX8_19 : PKR RX8 19 8 3 := ⟨RX8, TX8, 43, tyX8, rfl, by decide, ws_X8, KW.at (i := 1085) (by decide +kernel) rfl, tyX8_ok, nmX8, rfl, fun x => ⟨rfl, rfl⟩⟩
theorem d_X8_init_36 : decode cX8_init 36 = .ok (.aload_n 0, 1) := by decide +kernel
theorem d_X8_init_37 : decode cX8_init 37 = .ok (.sipush 240, 3) := by decide +kernel
theorem d_X8_init_40 : decode cX8_init 40 = .ok (.newarray .int, 2) := by decide +kernel
theorem d_X8_init_42 : decode cX8_init 42 = .ok (.putfield 23, 3) := by decide +kernel
theorem pkr_RX8_23 : PKR RX8 23 8 4 := ⟨RX8, TX8, 43, tyX8, rfl, by decide, ws_X8, KW.at (i := 1086) (by decide +kernel) rfl, tyX8_ok, nmX8, rfl, fun x => ⟨rfl, rfl⟩⟩
theorem d_X8_init_45 : decode cX8_init 45 = .ok (.aload_n 0, 1) := by decide +kernel
theorem d_X8_init_46 : decode cX8_init 46 = .ok (.sipush 240, 3) := by decide +kernel
theorem d_X8_init_49 : decode cX8_init 49 = .ok (.newarray .int, 2) := by decide +kernel
theorem d_X8_init_51 : decode cX8_init 51 = .ok (.putfield 26, 3) := by decide +kernel
theorem pkr_RX8_26 : PKR RX8 26 8 5 := ⟨RX8, TX8, 43, tyX8, rfl, by decide, ws_X8, KW.at (i := 1087) (by decide +kernel) rfl, tyX8_ok, nmX8, rfl, fun x => ⟨rfl, rfl⟩⟩
theorem d_X8_init_54 : decode cX8_init 54 = .ok (.aload_n 0, 1) := by decide +kernel
theorem d_X8_init_55 : decode cX8_init 55 = .ok (.sipush 240, 3) := by decide +kernel
theorem d_X8_init_58 : decode cX8_init 58 = .ok (.newarray .int, 2) := by decide +kernel
theorem d_X8_init_60 : decode cX8_init 60 = .ok (.putfield 29, 3) := by decide +kernel
theorem pkr_RX8_29 : PKR RX8 29 8 6 := ⟨RX8, TX8, 43, tyX8, rfl, by decide, ws_X8, KW.at (i := 1088) (by decide +kernel) rfl, tyX8_ok, nmX8, rfl, fun x => ⟨rfl, rfl⟩⟩
theorem d_X8_init_63 : decode cX8_init 63 = .ok (.aload_n 0, 1) := by decide +kernel
theorem d_X8_init_64 : decode cX8_init 64 = .ok (.sipush 240, 3) := by decide +kernel
theorem d_X8_init_67 : decode cX8_init 67 = .ok (.newarray .int, 2) := by decide +kernel
theorem d_X8_init_69 : decode cX8_init 69 = .ok (.putfield 32, 3) := by decide +kernel
theorem pkr_RX8_32 : PKR RX8 32 8 7 := ⟨RX8, TX8, 43, tyX8, rfl, by decide, ws_X8, KW.at (i := 1089) (by decide +kernel) rfl, tyX8_ok, nmX8, rfl, fun x => ⟨rfl, rfl⟩⟩
theorem d_X8_init_72 : decode cX8_init 72 = .ok (.aload_n 0, 1) := by decide +kernel
theorem d_X8_init_73 : decode cX8_init 73 = .ok (.sipush 240, 3) := by decide +kernel
theorem d_X8_init_76 : decode cX8_init 76 = .ok (.newarray .int, 2) := by decide +kernel
theorem d_X8_init_78 : decode cX8_init 78 = .ok (.putfield 35, 3) := by decide +kernel
theorem pkr_RX8_35 : PKR RX8 35 8 8 := ⟨RX8, TX8, 43, tyX8, rfl, by decide, ws_X8, KW.at (i := 1090) (by decide +kernel) rfl, tyX8_ok, nmX8, rfl, fun x => ⟨rfl, rfl⟩⟩
theorem d_X8_init_81 : decode cX8_init 81 = .ok (.aload_n 0, 1) := by decide +kernel
theorem d_X8_init_82 : decode cX8_init 82 = .ok (.sipush 240, 3) := by decide +kernel
theorem d_X8_init_85 : decode cX8_init 85 = .ok (.newarray .int, 2) := by decide +kernel
theorem d_X8_init_87 : decode cX8_init 87 = .ok (.putfield 38, 3) := by decide +kernel
theorem pkr_RX8_38 : PKR RX8 38 8 9 := ⟨RX8, TX8, 43, tyX8, rfl, by decide, ws_X8, KW.at (i := 1091) (by decide +kernel) rfl, tyX8_ok, nmX8, rfl, fun x => ⟨rfl, rfl⟩⟩
theorem d_X8_init_90 : decode cX8_init 90 = .ok (.aload_n 0, 1) := by decide +kernel
theorem d_X8_init_91 : decode cX8_init 91 = .ok (.sipush 240, 3) := by decide +kernel
theorem d_X8_init_94 : decode cX8_init 94 = .ok (.newarray .int, 2) := by decide +kernel
theorem d_X8_init_96 : decode cX8_init 96 = .ok (.putfield 41, 3) := by decide +kernel
theorem pkr_RX8_41 : PKR RX8 41 8 10 := ⟨RX8, TX8, 43, tyX8, rfl, by decide, ws_X8, KW.at (i := 1092) (by decide +kernel) rfl, tyX8_ok, nmX8, rfl, fun x => ⟨rfl, rfl⟩⟩
theorem d_X8_init_99 : decode cX8_init 99 = .ok (.aload_n 0, 1) := by decide +kernel
theorem d_X8_init_100 : decode cX8_init 100 = .ok (.sipush 1920, 3) := by decide +kernel
theorem d_X8_init_103 : decode cX8_init 103 = .ok (.newarray .int, 2) := by decide +kernel
theorem d_X8_init_105 : decode cX8_init 105 = .ok (.putfield 44, 3) := by decide +kernel
theorem pkr_RX8_44 : PKR RX8 44 8 11 := ⟨RX8, TX8, 43, tyX8, rfl, by decide, ws_X8, KW.at (i := 1093) (by decide +kernel) rfl, tyX8_ok, nmX8, rfl, fun x => ⟨rfl, rfl⟩⟩
theorem d_X8_init_108 : decode cX8_init 108 = .ok (.aload_n 0, 1) := by decide +kernel
theorem d_X8_init_109 : decode cX8_init 109 = .ok (.sipush 1920, 3) := by decide +kernel
theorem d_X8_init_112 : decode cX8_init 112 = .ok (.newarray .int, 2) := by decide +kernel
theorem d_X8_init_114 : decode cX8_init 114 = .ok (.putfield 47, 3) := by decide +kernel
theorem pkr_RX8_47 : PKR RX8 47 8 12 := ⟨RX8, TX8, 43, tyX8, rfl, by decide, ws_X8, KW.at (i := 1094) (by decide +kernel) rfl, tyX8_ok, nmX8, rfl, fun x => ⟨rfl, rfl⟩⟩
theorem d_X8_init_117 : decode cX8_init 117 = .ok (.aload_n 0, 1) := by decide +kernel
theorem d_X8_init_118 : decode cX8_init 118 = .ok (.sipush 7680, 3) := by decide +kernel
theorem d_X8_init_121 : decode cX8_init 121 = .ok (.newarray .int, 2) := by decide +kernel
theorem d_X8_init_123 : decode cX8_init 123 = .ok (.putfield 50, 3) := by decide +kernel
theorem pkr_RX8_50 : PKR RX8 50 8 13 := ⟨RX8, TX8, 43, tyX8, rfl, by decide, ws_X8, KW.at (i := 1095) (by decide +kernel) rfl, tyX8_ok, nmX8, rfl, fun x => ⟨rfl, rfl⟩⟩
theorem d_X8_init_126 : decode cX8_init 126 = .ok (.aload_n 0, 1) := by decide +kernel
theorem d_X8_init_127 : decode cX8_init 127 = .ok (.sipush 7680, 3) := by decide +kernel
theorem d_X8_init_130 : decode cX8_init 130 = .ok (.newarray .int, 2) := by decide +kernel
theorem d_X8_init_132 : decode cX8_init 132 = .ok (.putfield 53, 3) := by decide +kernel
theorem pkr_RX8_53 : PKR RX8 53 8 14 := ⟨RX8, TX8, 43, tyX8, rfl, by decide, ws_X8, KW.at (i := 1096) (by decide +kernel) rfl, tyX8_ok, nmX8, rfl, fun x => ⟨rfl, rfl⟩⟩
theorem d_X8_init_135 : decode cX8_init 135 = .ok (.aload_n 0, 1) := by decide +kernel
theorem d_X8_init_136 : decode cX8_init 136 = .ok (.sipush 240, 3) := by decide +kernel
theorem d_X8_init_139 : decode cX8_init 139 = .ok (.newarray .int, 2) := by decide +kernel
theorem d_X8_init_141 : decode cX8_init 141 = .ok (.putfield 56, 3) := by decide +kernel
theorem pkr_RX8_56 : PKR RX8 56 8 15 := ⟨RX8, TX8, 43, tyX8, rfl, by decide, ws_X8, KW.at (i := 1097) (by decide +kernel) rfl, tyX8_ok, nmX8, rfl, fun x => ⟨rfl, rfl⟩⟩
theorem d_X8_init_144 : decode cX8_init 144 = .ok (.aload_n 0, 1) := by decide +kernel
theorem d_X8_init_145 : decode cX8_init 145 = .ok (.sipush 240, 3) := by decide +kernel
theorem d_X8_init_148 : decode cX8_init 148 = .ok (.newarray .int, 2) := by decide +kernel
theorem d_X8_init_150 : decode cX8_init 150 = .ok (.putfield 59, 3) := by decide +kernel
theorem pkr_RX8_59 : PKR RX8 59 8 16 := ⟨RX8, TX8, 43, tyX8, rfl, by decide, ws_X8, KW.at (i := 1098) (by decide +kernel) rfl, tyX8_ok, nmX8, rfl, fun x => ⟨rfl, rfl⟩⟩
theorem d_X8_init_153 : decode cX8_init 153 = .ok (.aload_n 0, 1) := by decide +kernel
theorem d_X8_init_154 : decode cX8_init 154 = .ok (.sipush 240, 3) := by decide +kernel
theorem d_X8_init_157 : decode cX8_init 157 = .ok (.newarray .int, 2) := by decide +kernel
theorem d_X8_init_159 : decode cX8_init 159 = .ok (.putfield 62, 3) := by decide +kernel
theorem pkr_RX8_62 : PKR RX8 62 8 17 := ⟨RX8, TX8, 43, tyX8, rfl, by decide, ws_X8, KW.at (i := 1099) (by decide +kernel) rfl, tyX8_ok, nmX8, rfl, fun x => ⟨rfl, rfl⟩⟩
theorem d_X8_init_162 : decode cX8_init 162 = .ok (.aload_n 0, 1) := by decide +kernel
theorem d_X8_init_163 : decode cX8_init 163 = .ok (.sipush 1920, 3) := by decide +kernel
theorem d_X8_init_166 : decode cX8_init 166 = .ok (.newarray .int, 2) := by decide +kernel
theorem d_X8_init_168 : decode cX8_init 168 = .ok (.putfield 65, 3) := by decide +kernel
theorem pkr_RX8_65 : PKR RX8 65 8 18 := ⟨RX8, TX8, 43, tyX8, rfl, by decide, ws_X8, KW.at (i := 1100) (by decide +kernel) rfl, tyX8_ok, nmX8, rfl, fun x => ⟨rfl, rfl⟩⟩
theorem d_X8_init_171 : decode cX8_init 171 = .ok (.aload_n 0, 1) := by decide +kernel
theorem d_X8_init_172 : decode cX8_init 172 = .ok (.sipush 1920, 3) := by decide +kernel
theorem d_X8_init_175 : decode cX8_init 175 = .ok (.newarray .int, 2) := by decide +kernel
theorem d_X8_init_177 : decode cX8_init 177 = .ok (.putfield 68, 3) := by decide +kernel
theorem pkr_RX8_68 : PKR RX8 68 8 19 := ⟨RX8, TX8, 43, tyX8, rfl, by decide, ws_X8, KW.at (i := 1101) (by decide +kernel) rfl, tyX8_ok, nmX8, rfl, fun x => ⟨rfl, rfl⟩⟩
theorem d_X8_init_180 : decode cX8_init 180 = .ok (.aload_n 0, 1) := by decide +kernel
theorem d_X8_init_181 : decode cX8_init 181 = .ok (.sipush 1920, 3) := by decide +kernel
theorem d_X8_init_184 : decode cX8_init 184 = .ok (.newarray .int, 2) := by decide +kernel
theorem d_X8_init_186 : decode cX8_init 186 = .ok (.putfield 71, 3) := by decide +kernel
theorem pkr_RX8_71 : PKR RX8 71 8 20 := ⟨RX8, TX8, 43, tyX8, rfl, by decide, ws_X8, KW.at (i := 1102) (by decide +kernel) rfl, tyX8_ok, nmX8, rfl, fun x => ⟨rfl, rfl⟩⟩
theorem d_X8_init_189 : decode cX8_init 189 = .ok (.aload_n 0, 1) := by decide +kernel
theorem d_X8_init_190 : decode cX8_init 190 = .ok (.sipush 1920, 3) := by decide +kernel
theorem d_X8_init_193 : decode cX8_init 193 = .ok (.newarray .int, 2) := by decide +kernel
theorem d_X8_init_195 : decode cX8_init 195 = .ok (.putfield 74, 3) := by decide +kernel
theorem pkr_RX8_74 : PKR RX8 74 8 21 := ⟨RX8, TX8, 43, tyX8, rfl, by decide, ws_X8, KW.at (i := 1103) (by decide +kernel) rfl, tyX8_ok, nmX8, rfl, fun x => ⟨rfl, rfl⟩⟩
theorem d_X8_init_198 : decode cX8_init 198 = .ok (.aload_n 0, 1) := by decide +kernel
theorem d_X8_init_199 : decode cX8_init 199 = .ok (.sipush 7680, 3) := by decide +kernel
theorem d_X8_init_202 : decode cX8_init 202 = .ok (.newarray .int, 2) := by decide +kernel
theorem d_X8_init_204 : decode cX8_init 204 = .ok (.putfield 77, 3) := by decide +kernel
theorem pkr_RX8_77 : PKR RX8 77 8 22 := ⟨RX8, TX8, 43, tyX8, rfl, by decide, ws_X8, KW.at (i := 1104) (by decide +kernel) rfl, tyX8_ok, nmX8, rfl, fun x => ⟨rfl, rfl⟩⟩
theorem d_X8_init_207 : decode cX8_init 207 = .ok (.aload_n 0, 1) := by decide +kernel
theorem d_X8_init_208 : decode cX8_init 208 = .ok (.sipush 768, 3) := by decide +kernel
theorem d_X8_init_211 : decode cX8_init 211 = .ok (.newarray .int, 2) := by decide +kernel
theorem d_X8_init_213 : decode cX8_init 213 = .ok (.putfield 80, 3) := by decide +kernel
theorem pkr_RX8_80 : PKR RX8 80 8 23 := ⟨RX8, TX8, 43, tyX8, rfl, by decide, ws_X8, KW.at (i := 1105) (by decide +kernel) rfl, tyX8_ok, nmX8, rfl, fun x => ⟨rfl, rfl⟩⟩
theorem d_X8_init_216 : decode cX8_init 216 = .ok (.aload_n 0, 1) := by decide +kernel
theorem d_X8_init_217 : decode cX8_init 217 = .ok (.sipush 768, 3) := by decide +kernel
theorem d_X8_init_220 : decode cX8_init 220 = .ok (.newarray .int, 2) := by decide +kernel
theorem d_X8_init_222 : decode cX8_init 222 = .ok (.putfield 83, 3) := by decide +kernel
theorem pkr_RX8_83 : PKR RX8 83 8 24 := ⟨RX8, TX8, 43, tyX8, rfl, by decide, ws_X8, KW.at (i := 1106) (by decide +kernel) rfl, tyX8_ok, nmX8, rfl, fun x => ⟨rfl, rfl⟩⟩
theorem d_X8_init_225 : decode cX8_init 225 = .ok (.aload_n 0, 1) := by decide +kernel
theorem d_X8_init_226 : decode cX8_init 226 = .ok (.bipush 64, 2) := by decide +kernel
theorem d_X8_init_228 : decode cX8_init 228 = .ok (.newarray .boolean, 2) := by decide +kernel
theorem d_X8_init_230 : decode cX8_init 230 = .ok (.putfield 86, 3) := by decide +kernel
theorem pkr_RX8_86 : PKR RX8 86 8 25 := ⟨RX8, TX8, 43, tyX8, rfl, by decide, ws_X8, KW.at (i := 1107) (by decide +kernel) rfl, tyX8_ok, nmX8, rfl, fun x => ⟨rfl, rfl⟩⟩
theorem d_X8_init_233 : decode cX8_init 233 = .ok (.aload_n 0, 1) := by decide +kernel
theorem d_X8_init_234 : decode cX8_init 234 = .ok (.bipush 80, 2) := by decide +kernel
theorem d_X8_init_236 : decode cX8_init 236 = .ok (.newarray .int, 2) := by decide +kernel
theorem d_X8_init_238 : decode cX8_init 238 = .ok (.putfield 89, 3) := by decide +kernel
theorem pkr_RX8_89 : PKR RX8 89 8 26 := ⟨RX8, TX8, 43, tyX8, rfl, by decide, ws_X8, KW.at (i := 1108) (by decide +kernel) rfl, tyX8_ok, nmX8, rfl, fun x => ⟨rfl, rfl⟩⟩
theorem d_X8_init_241 : decode cX8_init 241 = .ok (.aload_n 0, 1) := by decide +kernel
theorem d_X8_init_242 : decode cX8_init 242 = .ok (.bipush 80, 2) := by decide +kernel
theorem d_X8_init_244 : decode cX8_init 244 = .ok (.newarray .boolean, 2) := by decide +kernel
theorem d_X8_init_246 : decode cX8_init 246 = .ok (.putfield 92, 3) := by decide +kernel
theorem pkr_RX8_92 : PKR RX8 92 8 27 := ⟨RX8, TX8, 43, tyX8, rfl, by decide, ws_X8, KW.at (i := 1109) (by decide +kernel) rfl, tyX8_ok, nmX8, rfl, fun x => ⟨rfl, rfl⟩⟩
theorem d_X8_init_249 : decode cX8_init 249 = .ok (.aload_n 0, 1) := by decide +kernel
theorem d_X8_init_250 : decode cX8_init 250 = .ok (.bipush 80, 2) := by decide +kernel
theorem d_X8_init_252 : decode cX8_init 252 = .ok (.newarray .boolean, 2) := by decide +kernel
theorem d_X8_init_254 : decode cX8_init 254 = .ok (.putfield 95, 3) := by decide +kernel
theorem pkr_RX8_95 : PKR RX8 95 8 28 := ⟨RX8, TX8, 43, tyX8, rfl, by decide, ws_X8, KW.at (i := 1110) (by decide +kernel) rfl, tyX8_ok, nmX8, rfl, fun x => ⟨rfl, rfl⟩⟩
theorem d_X8_init_257 : decode cX8_init 257 = .ok (.aload_n 0, 1) := by decide +kernel
theorem d_X8_init_258 : decode cX8_init 258 = .ok (.bipush 80, 2) := by decide +kernel
theorem d_X8_init_260 : decode cX8_init 260 = .ok (.newarray .int, 2) := by decide +kernel
theorem d_X8_init_262 : decode cX8_init 262 = .ok (.putfield 98, 3) := by decide +kernel
theorem pkr_RX8_98 : PKR RX8 98 8 30 := ⟨RX8, TX8, 43, tyX8, rfl, by decide, ws_X8, KW.at (i := 1112) (by decide +kernel) rfl, tyX8_ok, nmX8, rfl, fun x => ⟨rfl, rfl⟩⟩
theorem d_X8_init_265 : decode cX8_init 265 = .ok (.aload_n 0, 1) := by decide +kernel
theorem d_X8_init_266 : decode cX8_init 266 = .ok (.bipush 80, 2) := by decide +kernel
theorem d_X8_init_268 : decode cX8_init 268 = .ok (.newarray .int, 2) := by decide +kernel
theorem d_X8_init_270 : decode cX8_init 270 = .ok (.putfield 101, 3) := by decide +kernel
theorem pkr_RX8_101 : PKR RX8 101 8 31 := ⟨RX8, TX8, 43, tyX8, rfl, by decide, ws_X8, KW.at (i := 1113) (by decide +kernel) rfl, tyX8_ok, nmX8, rfl, fun x => ⟨rfl, rfl⟩⟩
theorem d_X8_init_273 : decode cX8_init 273 = .ok (.aload_n 0, 1) := by decide +kernel
theorem d_X8_init_274 : decode cX8_init 274 = .ok (.iconst 2, 1) := by decide +kernel
theorem d_X8_init_275 : decode cX8_init 275 = .ok (.newarray .int, 2) := by decide +kernel
theorem d_X8_init_277 : decode cX8_init 277 = .ok (.putfield 104, 3) := by decide +kernel
theorem pkr_RX8_104 : PKR RX8 104 8 36 := ⟨RX8, TX8, 43, tyX8, rfl, by decide, ws_X8, KW.at (i := 1118) (by decide +kernel) rfl, tyX8_ok, nmX8, rfl, fun x => ⟨rfl, rfl⟩⟩
theorem d_X8_init_280 : decode cX8_init 280 = .ok (.aload_n 0, 1) := by decide +kernel
theorem d_X8_init_281 : decode cX8_init 281 = .ok (.bipush 8, 2) := by decide +kernel
theorem d_X8_init_283 : decode cX8_init 283 = .ok (.newarray .int, 2) := by decide +kernel
theorem d_X8_init_285 : decode cX8_init 285 = .ok (.putfield 107, 3) := by decide +kernel
theorem pkr_RX8_107 : PKR RX8 107 8 38 := ⟨RX8, TX8, 43, tyX8, rfl, by decide, ws_X8, KW.at (i := 1120) (by decide +kernel) rfl, tyX8_ok, nmX8, rfl, fun x => ⟨rfl, rfl⟩⟩
theorem d_X8_init_288 : decode cX8_init 288 = .ok (.aload_n 0, 1) := by decide +kernel
theorem d_X8_init_289 : decode cX8_init 289 = .ok (.bipush 8, 2) := by decide +kernel
theorem d_X8_init_291 : decode cX8_init 291 = .ok (.newarray .int, 2) := by decide +kernel
theorem d_X8_init_293 : decode cX8_init 293 = .ok (.putfield 110, 3) := by decide +kernel
theorem pkr_RX8_110 : PKR RX8 110 8 39 := ⟨RX8, TX8, 43, tyX8, rfl, by decide, ws_X8, KW.at (i := 1121) (by decide +kernel) rfl, tyX8_ok, nmX8, rfl, fun x => ⟨rfl, rfl⟩⟩
theorem d_X8_init_296 : decode cX8_init 296 = .ok (.aload_n 0, 1) := by decide +kernel
theorem d_X8_init_297 : decode cX8_init 297 = .ok (.sipush 1024, 3) := by decide +kernel
theorem d_X8_init_300 : decode cX8_init 300 = .ok (.newarray .int, 2) := by decide +kernel
theorem d_X8_init_302 : decode cX8_init 302 = .ok (.putfield 113, 3) := by decide +kernel
theorem pkr_RX8_113 : PKR RX8 113 8 40 := ⟨RX8, TX8, 43, tyX8, rfl, by decide, ws_X8, KW.at (i := 1122) (by decide +kernel) rfl, tyX8_ok, nmX8, rfl, fun x => ⟨rfl, rfl⟩⟩
noncomputable section
def pI_copyFrom_21_2 (D : DD) : DD :=
  gD (cpy2 D 3 22 1024) fun D1 =>
  gD (cpy2 D1 4 23 1024) fun D2 =>
  gD (cpy2 D2 5 24 80) fun D3 =>
  gD (cpy2 D3 6 25 256) fun D4 =>
  gD (up2 D4 21 4 (D4 2 4)) fun D5 =>
  gD (up2 D5 21 5 (D5 2 5)) fun D6 =>
  D6
def pF_keepAsWhole (D : DD) : DD :=
  gD (pI_copyFrom_21_2 D) fun D1 =>
  D1
def pH_ini (D : DD) : Res :=
  gD (pC_wantNothing D) fun D1 =>
  gD (pC_want 6 D1) fun D2 =>
  bnd (pC_getAllWanted D2) fun v1 D3 =>
  gD (pH_enterKey (pC_got 0 D3) 0 (-1) (-1) D3) fun D4 =>
  bnd (pS_join 0 D4) fun v2 D5 =>
  gD (pC_forgetDirty D5) fun D6 =>
  gD (pF_keepAsWhole D6) fun D7 =>
  okR 0 D7
def pM_ini_388 : Nat → Int → DD → (DD → Res) → Res
  | 0, _, _, _ => none
  | n + 1, a1, D, K =>
    if (w32 a1) < 256 then (
      wrA 768 56 a1 (-1) D fun D1 =>
      pM_ini_388 n (a1 + 1) D1 K
    ) else (
      K D
    )
def pM_ini (D : DD) : Res :=
  gD (up2 D 34 0 1) fun D1 =>
  gD (up2 D1 33 4 6) fun D2 =>
  gD (up2 D2 33 10 2) fun D3 =>
  gD (up2 D3 33 12 (-4)) fun D4 =>
  gD (up2 D4 35 0 1) fun D5 =>
  gD (up2 D5 36 0 1) fun D6 =>
  gD (up2 D6 37 0 (-1)) fun D7 =>
  gD (up2 D7 39 0 (-1)) fun D8 =>
  gD (up2 D8 40 0 4) fun D9 =>
  gD (up2 D9 43 0 (-1)) fun D10 =>
  gD (up2 D10 49 0 (-1)) fun D11 =>
  pM_ini_388 fu 0 D11 fun D12 =>
    gD (up2 D12 56 0 10) fun D13 =>
    gD (up2 D13 57 0 1) fun D14 =>
    bnd (pM_copies 0 2 D14) fun _ D15 =>
    okR 0 D15
end
set_option maxRecDepth 20000 in
theorem run_pI_copyFrom_21_2 {Γ : GG} {rg : Nat → Bool} {κ : Nat} {Φ : OT → DD → Prop} (R : cov rg rg0) {D : DD} (h : WPD Φ (pI_copyFrom_21_2 D)) : Run Γ rg κ Y_X2_copyFrom 0 [(29, 0), (10, 0)] [] D Φ := by
  unfold pI_copyFrom_21_2 at h
  show Run Γ rg κ Y_X2_copyFrom 0 [(29, 0), (10, 0)] [] D Φ
  refine r_aload_n d_X2_copyFrom_0 rfl (by decide) ?_
  refine r_getR (t := 3) d_X2_copyFrom_1 fk_RX2_11 sh_2 rfl (by decide) (R 2 rfl) ?_
  refine r_iconst d_X2_copyFrom_4 ?_
  refine r_aload_n d_X2_copyFrom_5 rfl (by decide) ?_
  refine r_getR (t := 22) d_X2_copyFrom_6 fk_RX2_11 sh_21 rfl (by decide) (R 21 rfl) ?_
  refine r_iconst d_X2_copyFrom_9 ?_
  refine r_sipush d_X2_copyFrom_10 (by decide) ?_
  refine c_acopy (n := 1024) d_X2_copyFrom_13 ak_RX2_35 sh_3 sh_22 (by decide) (by decide) (R 3 rfl) (R 22 rfl) (by decide) rfl (by decide) (by decide) (Nat.le_of_ble_eq_true rfl) (by decide) h (fun D1 h => ?_)
  refine r_aload_n d_X2_copyFrom_16 rfl (by decide) ?_
  refine r_getR (t := 4) d_X2_copyFrom_17 fk_RX2_15 sh_2 rfl (by decide) (R 2 rfl) ?_
  refine r_iconst d_X2_copyFrom_20 ?_
  show Run Γ rg κ Y_X2_copyFrom 21 [(29, 0), (10, 0)] [(0, 0), (12, 0)] D1 Φ
  refine r_aload_n d_X2_copyFrom_21 rfl (by decide) ?_
  refine r_getR (t := 23) d_X2_copyFrom_22 fk_RX2_15 sh_21 rfl (by decide) (R 21 rfl) ?_
  refine r_iconst d_X2_copyFrom_25 ?_
  refine r_sipush d_X2_copyFrom_26 (by decide) ?_
  refine c_acopy (n := 1024) d_X2_copyFrom_29 ak_RX2_35 sh_4 sh_23 (by decide) (by decide) (R 4 rfl) (R 23 rfl) (by decide) rfl (by decide) (by decide) (Nat.le_of_ble_eq_true rfl) (by decide) h (fun D2 h => ?_)
  refine r_aload_n d_X2_copyFrom_32 rfl (by decide) ?_
  refine r_getR (t := 5) d_X2_copyFrom_33 fk_RX2_18 sh_2 rfl (by decide) (R 2 rfl) ?_
  refine r_iconst d_X2_copyFrom_36 ?_
  refine r_aload_n d_X2_copyFrom_37 rfl (by decide) ?_
  refine r_getR (t := 24) d_X2_copyFrom_38 fk_RX2_18 sh_21 rfl (by decide) (R 21 rfl) ?_
  refine r_iconst d_X2_copyFrom_41 ?_
  refine r_bipush d_X2_copyFrom_42 (by decide) ?_
  show Run Γ rg κ Y_X2_copyFrom 44 [(29, 0), (10, 0)] [(0, 80), (0, 0), (32, 0), (0, 0), (13, 0)] D2 Φ
  refine c_acopy (n := 80) d_X2_copyFrom_44 ak_RX2_35 sh_5 sh_24 (by decide) (by decide) (R 5 rfl) (R 24 rfl) (by decide) rfl (by decide) (by decide) (Nat.le_of_ble_eq_true rfl) (by decide) h (fun D3 h => ?_)
  refine r_aload_n d_X2_copyFrom_47 rfl (by decide) ?_
  refine r_getR (t := 6) d_X2_copyFrom_48 fk_RX2_21 sh_2 rfl (by decide) (R 2 rfl) ?_
  refine r_iconst d_X2_copyFrom_51 ?_
  refine r_aload_n d_X2_copyFrom_52 rfl (by decide) ?_
  refine r_getR (t := 25) d_X2_copyFrom_53 fk_RX2_21 sh_21 rfl (by decide) (R 21 rfl) ?_
  refine r_iconst d_X2_copyFrom_56 ?_
  refine r_sipush d_X2_copyFrom_57 (by decide) ?_
  refine c_acopy (n := 256) d_X2_copyFrom_60 ak_RX2_35 sh_6 sh_25 (by decide) (by decide) (R 6 rfl) (R 25 rfl) (by decide) rfl (by decide) (by decide) (Nat.le_of_ble_eq_true rfl) (by decide) h (fun D4 h => ?_)
  refine r_aload_n d_X2_copyFrom_63 rfl (by decide) ?_
  refine r_aload_n d_X2_copyFrom_64 rfl (by decide) ?_
  refine r_getI d_X2_copyFrom_65 fk_RX2_24 sh_2 rfl (by decide) (by decide) (R 2 rfl) ?_
  show Run Γ rg κ Y_X2_copyFrom 68 [(29, 0), (10, 0)] [(0, (D4 2 4)), (29, 0)] D4 Φ
  refine c_putI (k := 4) d_X2_copyFrom_68 pk_RX2_24 sh_21 rfl (by decide) (R 21 rfl) h (fun D5 h => ?_)
  refine r_aload_n d_X2_copyFrom_71 rfl (by decide) ?_
  refine r_aload_n d_X2_copyFrom_72 rfl (by decide) ?_
  refine r_getI d_X2_copyFrom_73 fk_RX2_28 sh_2 rfl (by decide) (by decide) (R 2 rfl) ?_
  refine c_putI (k := 5) d_X2_copyFrom_76 pk_RX2_28 sh_21 rfl (by decide) (R 21 rfl) h (fun D6 h => ?_)
  exact d_vret d_X2_copyFrom_79 rfl h
set_option maxRecDepth 20000 in
theorem run_pF_keepAsWhole {Γ : GG} {rg : Nat → Bool} {κ : Nat} {Φ : OT → DD → Prop} (R : cov rg rg0) {D : DD} (h : WPD Φ (pF_keepAsWhole D)) : Run Γ rg κ Y_X1_keepAsWhole 0 [(28, 0), (10, 0)] [] D Φ := by
  unfold pF_keepAsWhole at h
  show Run Γ rg κ Y_X1_keepAsWhole 0 [(28, 0), (10, 0)] [] D Φ
  refine r_aload_n d_X1_keepAsWhole_0 rfl (by decide) ?_
  refine r_getR (t := 21) d_X1_keepAsWhole_1 fk_RX1_10 sh_20 rfl (by decide) (R 20 rfl) ?_
  refine r_aload_n d_X1_keepAsWhole_4 rfl (by decide) ?_
  refine c_callVD (a := 21) (z := 0) (as := [(10, 0)]) (rest := []) (ls' := [(29, 0), (10, 0)]) d_X1_keepAsWhole_5 ck_RX1_23 rfl sh_21 rfl (by decide) (R 21 rfl) rfl rfl (Nat.le_of_ble_eq_true rfl) (Nat.le_of_ble_eq_true rfl) (by decide) rfl rfl (fun Ψ hΨ => run_pI_copyFrom_21_2 R hΨ) h (fun D1 h => ?_)
  show Run Γ rg κ Y_X1_keepAsWhole 8 [(28, 0), (10, 0)] [] D1 Φ
  exact d_vret d_X1_keepAsWhole_8 rfl h
set_option maxRecDepth 20000 in
theorem run_pH_ini {Γ : GG} {rg : Nat → Bool} {κ : Nat} {Φ : OT → DD → Prop} (R : cov rg rg0) {D : DD} (h : WP none κ Φ (pH_ini D)) : Run Γ rg κ Y_X7_init 100 [(8, 0), (10, 0), (15, 0)] [] D Φ := by
  unfold pH_ini at h
  show Run Γ rg κ Y_X7_init 100 [(8, 0), (10, 0), (15, 0)] [] D Φ
  refine r_aload_n d_X7_init_100 rfl (by decide) ?_
  refine r_getR (t := 7) d_X7_init_101 fk_RX7_25 sh_0 rfl (by decide) (R 0 rfl) ?_
  refine c_callVD (a := 7) (z := 0) (as := []) (rest := []) (ls' := [(15, 0)]) d_X7_init_104 ck_RX7_66 rfl sh_7 rfl (by decide) (R 7 rfl) rfl rfl (Nat.le_of_ble_eq_true rfl) (Nat.le_of_ble_eq_true rfl) (by decide) rfl rfl (fun Ψ hΨ => run_pC_wantNothing R hΨ) h (fun D1 h => ?_)
  show Run Γ rg κ Y_X7_init 107 [(8, 0), (10, 0), (15, 0)] [] D1 Φ
  refine r_aload_n d_X7_init_107 rfl (by decide) ?_
  refine r_getR (t := 7) d_X7_init_108 fk_RX7_25 sh_0 rfl (by decide) (R 0 rfl) ?_
  refine r_bipush d_X7_init_111 (by decide) ?_
  refine c_callVD (a := 7) (z := 0) (as := [(0, 6)]) (rest := []) (ls' := [(15, 0), (0, 6)]) d_X7_init_113 ck_RX7_69 rfl sh_7 rfl (by decide) (R 7 rfl) rfl rfl (Nat.le_of_ble_eq_true rfl) (Nat.le_of_ble_eq_true rfl) (by decide) rfl rfl (fun Ψ hΨ => run_pC_want R _ hΨ) h (fun D2 h => ?_)
  show Run Γ rg κ Y_X7_init 116 [(8, 0), (10, 0), (15, 0)] [] D2 Φ
  refine r_aload_n d_X7_init_116 rfl (by decide) ?_
  refine r_getR (t := 7) d_X7_init_117 fk_RX7_25 sh_0 rfl (by decide) (R 0 rfl) ?_
  refine c_callVi (t' := (some .boolean)) (a := 7) (z := 0) (as := []) (rest := []) (ls' := [(15, 0), (5, 0), (5, 0), (5, 0)]) d_X7_init_120 ck_RX7_73 rfl sh_7 rfl (by decide) (R 7 rfl) rfl rfl (Nat.le_of_ble_eq_true rfl) (Nat.le_of_ble_eq_true rfl) (by decide) rfl rfl (fun _ => rfl) (fun κ' Ψ hΨ => run_pC_getAllWanted R hΨ) h (fun v1 D3 h => ?_)
  show Run Γ rg κ Y_X7_init 123 [(8, 0), (10, 0), (15, 0)] [(0, v1)] D3 Φ
  refine r_pop d_X7_init_123 (show (0 : Nat) ≠ 1 by decide) ?_
  show Run Γ rg κ Y_X7_init 124 [(8, 0), (10, 0), (15, 0)] [] D3 Φ
  refine r_aload_n d_X7_init_124 rfl (by decide) ?_
  refine r_aload_n d_X7_init_125 rfl (by decide) ?_
  refine r_getR (t := 7) d_X7_init_126 fk_RX7_25 sh_0 rfl (by decide) (R 0 rfl) ?_
  refine r_iconst d_X7_init_129 ?_
  refine c_callVPi (a := 7) (z := 0) (as := [(0, 0)]) (rest := [(8, 0)]) (ls' := [(15, 0), (0, 0)]) d_X7_init_130 ck_RX7_77 rfl sh_7 rfl (by decide) (R 7 rfl) rfl rfl (Nat.le_of_ble_eq_true rfl) (Nat.le_of_ble_eq_true rfl) (by decide) rfl rfl (fun Ψ hΨ => run_pC_got R _ rfl hΨ) ?_
  show Run Γ rg κ Y_X7_init 133 [(8, 0), (10, 0), (15, 0)] [(0, (pC_got 0 D3)), (8, 0)] D3 Φ
  refine r_iconst d_X7_init_133 ?_
  refine r_iconst d_X7_init_134 ?_
  refine r_iconst d_X7_init_135 ?_
  refine c_callVD (a := 0) (z := 0) (as := [(0, (pC_got 0 D3)), (0, 0), (0, (-1)), (0, (-1))]) (rest := []) (ls' := [(8, 0), (0, (pC_got 0 D3)), (0, 0), (0, (-1)), (0, (-1))]) d_X7_init_136 ck_RX7_81 rfl sh_0 rfl (by decide) (R 0 rfl) rfl rfl (Nat.le_of_ble_eq_true rfl) (Nat.le_of_ble_eq_true rfl) (by decide) rfl rfl (fun Ψ hΨ => run_pH_enterKey R _ _ _ _ hΨ) h (fun D4 h => ?_)
  show Run Γ rg κ Y_X7_init 139 [(8, 0), (10, 0), (15, 0)] [] D4 Φ
  refine r_aload_n d_X7_init_139 rfl (by decide) ?_
  refine r_getR (t := 13) d_X7_init_140 fk_RX7_48 sh_0 rfl (by decide) (R 0 rfl) ?_
  refine r_iconst d_X7_init_143 ?_
  show Run Γ rg κ Y_X7_init 144 [(8, 0), (10, 0), (15, 0)] [(0, 0), (21, 0)] D4 Φ
  refine c_callVi (t' := (some .boolean)) (a := 13) (z := 0) (as := [(0, 0)]) (rest := []) (ls' := [(21, 0), (0, 0)]) d_X7_init_144 ck_RX7_85 rfl sh_13 rfl (by decide) (R 13 rfl) rfl rfl (Nat.le_of_ble_eq_true rfl) (Nat.le_of_ble_eq_true rfl) (by decide) rfl rfl (fun _ => rfl) (fun κ' Ψ hΨ => run_pS_join R _ hΨ) h (fun v2 D5 h => ?_)
  show Run Γ rg κ Y_X7_init 147 [(8, 0), (10, 0), (15, 0)] [(0, v2)] D5 Φ
  refine r_pop d_X7_init_147 (show (0 : Nat) ≠ 1 by decide) ?_
  refine r_aload_n d_X7_init_148 rfl (by decide) ?_
  refine r_getR (t := 7) d_X7_init_149 fk_RX7_25 sh_0 rfl (by decide) (R 0 rfl) ?_
  refine c_callVD (a := 7) (z := 0) (as := []) (rest := []) (ls' := [(15, 0)]) d_X7_init_152 ck_RX7_89 rfl sh_7 rfl (by decide) (R 7 rfl) rfl rfl (Nat.le_of_ble_eq_true rfl) (Nat.le_of_ble_eq_true rfl) (by decide) rfl rfl (fun Ψ hΨ => run_pC_forgetDirty R hΨ) h (fun D6 h => ?_)
  show Run Γ rg κ Y_X7_init 155 [(8, 0), (10, 0), (15, 0)] [] D6 Φ
  refine r_aload_n d_X7_init_155 rfl (by decide) ?_
  refine r_getR (t := 20) d_X7_init_156 fk_RX7_62 sh_0 rfl (by decide) (R 0 rfl) ?_
  refine r_aload_n d_X7_init_159 rfl (by decide) ?_
  refine c_callVD (a := 20) (z := 0) (as := [(10, 0)]) (rest := []) (ls' := [(28, 0), (10, 0)]) d_X7_init_160 ck_RX7_92 rfl sh_20 rfl (by decide) (R 20 rfl) rfl rfl (Nat.le_of_ble_eq_true rfl) (Nat.le_of_ble_eq_true rfl) (by decide) rfl rfl (fun Ψ hΨ => run_pF_keepAsWhole R hΨ) h (fun D7 h => ?_)
  show Run Γ rg κ Y_X7_init 163 [(8, 0), (10, 0), (15, 0)] [] D7 Φ
  exact c_vret d_X7_init_163 rfl h
set_option maxRecDepth 20000 in
theorem run_pM_ini_388 {Γ : GG} {rg : Nat → Bool} {κ : Nat} {Φ : OT → DD → Prop} (R : cov rg rg1) {K : DD → Res} (hK : ∀ (D : DD), WP none κ Φ (K D) → Run Γ rg κ Y_X8_init 408 [(40, 0), (5, 0)] [] D Φ) : ∀ (n : Nat) (a1 : Int) (D : DD), WP none κ Φ (pM_ini_388 n a1 D K) → Run Γ rg κ Y_X8_init 388 [(40, 0), (0, a1)] [] D Φ := by
  intro n
  induction n with
  | zero => intro a1 D h; exact h.no.elim
  | succ n ih =>
    intro a1 D h
    rw [pM_ini_388] at h
    show Run Γ rg κ Y_X8_init 388 [(40, 0), (0, a1)] [] D Φ
    refine r_iload_n d_X8_init_388 rfl ?_
    refine r_sipush d_X8_init_389 (by decide) ?_
    refine c_icmp_ge (tgt := 408) d_X8_init_392 (by decide) (nz_w _) (nz_k rfl) h (fun h => ?_) (fun h => ?_)
    · skip
      exact Run.forget (ls' := [(40, 0), (5, 0)]) ⟨Or.inr rfl, Or.inl rfl, trivial⟩ (hK D h)
    · skip
      show Run Γ rg κ Y_X8_init 395 [(40, 0), (0, a1)] [] D Φ
      refine r_aload_n d_X8_init_395 rfl (by decide) ?_
      refine r_getR (t := 56) d_X8_init_396 fk_RX8_80 sh_32 rfl (by decide) (R 32 rfl) ?_
      refine r_iload_n d_X8_init_399 rfl ?_
      refine r_iconst d_X8_init_400 ?_
      refine c_iast d_X8_init_401 sh_56 (by decide) (R 56 rfl) (by decide) h (fun D1 h => ?_)
      refine r_iinc d_X8_init_402 rfl (by decide) rfl ?_
      show Run Γ rg κ Y_X8_init 405 [(40, 0), (0, (a1 + 1))] [] D1 Φ
      refine r_goto (tgt := 388) d_X8_init_405 (by decide) ?_
      exact (ih (a1 + 1) D1 h)
set_option maxRecDepth 20000 in
theorem run_pM_ini {Γ : GG} {rg : Nat → Bool} {κ : Nat} {Φ : OT → DD → Prop} (R : cov rg rg1) {D : DD} (h : WP none κ Φ (pM_ini D)) : Run Γ rg κ Y_X8_init 305 [(40, 0), (5, 0)] [] D Φ := by
  unfold pM_ini at h
  show Run Γ rg κ Y_X8_init 305 [(40, 0), (5, 0)] [] D Φ
  refine r_aload_n d_X8_init_305 rfl (by decide) ?_
  refine r_getR (t := 34) d_X8_init_306 fk_RX8_13 sh_32 rfl (by decide) (R 32 rfl) ?_
  refine r_iconst d_X8_init_309 ?_
  refine r_iconst d_X8_init_310 ?_
  refine c_iast0 (k := 0) d_X8_init_311 sh_34 (by decide) (R 34 rfl) (by decide) rfl (by decide) h (fun D1 h => ?_)
  refine r_aload_n d_X8_init_312 rfl (by decide) ?_
  refine r_getR (t := 33) d_X8_init_313 fk_RX8_7 sh_32 rfl (by decide) (R 32 rfl) ?_
  refine r_iconst d_X8_init_316 ?_
  refine r_bipush d_X8_init_317 (by decide) ?_
  refine c_iast0 (k := 4) d_X8_init_319 sh_33 (by decide) (R 33 rfl) (by decide) rfl (by decide) h (fun D2 h => ?_)
  refine r_aload_n d_X8_init_320 rfl (by decide) ?_
  show Run Γ rg κ Y_X8_init 321 [(40, 0), (5, 0)] [(40, 0)] D2 Φ
  refine r_getR (t := 33) d_X8_init_321 fk_RX8_7 sh_32 rfl (by decide) (R 32 rfl) ?_
  refine r_bipush d_X8_init_324 (by decide) ?_
  refine r_iconst d_X8_init_326 ?_
  refine c_iast0 (k := 10) d_X8_init_327 sh_33 (by decide) (R 33 rfl) (by decide) rfl (by decide) h (fun D3 h => ?_)
  refine r_aload_n d_X8_init_328 rfl (by decide) ?_
  refine r_getR (t := 33) d_X8_init_329 fk_RX8_7 sh_32 rfl (by decide) (R 32 rfl) ?_
  refine r_bipush d_X8_init_332 (by decide) ?_
  refine r_bipush d_X8_init_334 (by decide) ?_
  refine c_iast0 (k := 12) d_X8_init_336 sh_33 (by decide) (R 33 rfl) (by decide) rfl (by decide) h (fun D4 h => ?_)
  refine r_aload_n d_X8_init_337 rfl (by decide) ?_
  refine r_getR (t := 35) d_X8_init_338 fk_RX8_16 sh_32 rfl (by decide) (R 32 rfl) ?_
  refine r_iconst d_X8_init_341 ?_
  show Run Γ rg κ Y_X8_init 342 [(40, 0), (5, 0)] [(0, 0), (43, 0)] D4 Φ
  refine r_iconst d_X8_init_342 ?_
  refine c_iast0 (k := 0) d_X8_init_343 sh_35 (by decide) (R 35 rfl) (by decide) rfl (by decide) h (fun D5 h => ?_)
  refine r_aload_n d_X8_init_344 rfl (by decide) ?_
  refine r_getR (t := 36) d_X8_init_345 fk_RX8_19 sh_32 rfl (by decide) (R 32 rfl) ?_
  refine r_iconst d_X8_init_348 ?_
  refine r_iconst d_X8_init_349 ?_
  refine c_zast0 (k := 0) d_X8_init_350 sh_36 (by decide) (R 36 rfl) (by decide) rfl (by decide) (Or.inr rfl) h (fun D6 h => ?_)
  refine r_aload_n d_X8_init_351 rfl (by decide) ?_
  refine r_getR (t := 37) d_X8_init_352 fk_RX8_23 sh_32 rfl (by decide) (R 32 rfl) ?_
  refine r_iconst d_X8_init_355 ?_
  refine r_iconst d_X8_init_356 ?_
  refine c_iast0 (k := 0) d_X8_init_357 sh_37 (by decide) (R 37 rfl) (by decide) rfl (by decide) h (fun D7 h => ?_)
  show Run Γ rg κ Y_X8_init 358 [(40, 0), (5, 0)] [] D7 Φ
  refine r_aload_n d_X8_init_358 rfl (by decide) ?_
  refine r_getR (t := 39) d_X8_init_359 fk_RX8_29 sh_32 rfl (by decide) (R 32 rfl) ?_
  refine r_iconst d_X8_init_362 ?_
  refine r_iconst d_X8_init_363 ?_
  refine c_iast0 (k := 0) d_X8_init_364 sh_39 (by decide) (R 39 rfl) (by decide) rfl (by decide) h (fun D8 h => ?_)
  refine r_aload_n d_X8_init_365 rfl (by decide) ?_
  refine r_getR (t := 40) d_X8_init_366 fk_RX8_32 sh_32 rfl (by decide) (R 32 rfl) ?_
  refine r_iconst d_X8_init_369 ?_
  refine r_iconst d_X8_init_370 ?_
  refine c_iast0 (k := 0) d_X8_init_371 sh_40 (by decide) (R 40 rfl) (by decide) rfl (by decide) h (fun D9 h => ?_)
  refine r_aload_n d_X8_init_372 rfl (by decide) ?_
  refine r_getR (t := 43) d_X8_init_373 fk_RX8_41 sh_32 rfl (by decide) (R 32 rfl) ?_
  show Run Γ rg κ Y_X8_init 376 [(40, 0), (5, 0)] [(51, 0)] D9 Φ
  refine r_iconst d_X8_init_376 ?_
  refine r_iconst d_X8_init_377 ?_
  refine c_iast0 (k := 0) d_X8_init_378 sh_43 (by decide) (R 43 rfl) (by decide) rfl (by decide) h (fun D10 h => ?_)
  refine r_aload_n d_X8_init_379 rfl (by decide) ?_
  refine r_getR (t := 49) d_X8_init_380 fk_RX8_59 sh_32 rfl (by decide) (R 32 rfl) ?_
  refine r_iconst d_X8_init_383 ?_
  refine r_iconst d_X8_init_384 ?_
  refine c_iast0 (k := 0) d_X8_init_385 sh_49 (by decide) (R 49 rfl) (by decide) rfl (by decide) h (fun D11 h => ?_)
  refine r_iconst d_X8_init_386 ?_
  refine r_istore_n d_X8_init_387 (by decide) rfl ?_
  show Run Γ rg κ Y_X8_init 388 [(40, 0), (0, 0)] [] D11 Φ
  refine run_pM_ini_388 R ?_ fu 0 D11 h
  intro D12 h
  show Run Γ rg κ Y_X8_init 408 [(40, 0), (5, 0)] [] D12 Φ
  refine r_aload_n d_X8_init_408 rfl (by decide) ?_
  refine r_getR (t := 56) d_X8_init_409 fk_RX8_80 sh_32 rfl (by decide) (R 32 rfl) ?_
  refine r_iconst d_X8_init_412 ?_
  refine r_bipush d_X8_init_413 (by decide) ?_
  refine c_iast0 (k := 0) d_X8_init_415 sh_56 (by decide) (R 56 rfl) (by decide) rfl (by decide) h (fun D13 h => ?_)
  refine r_aload_n d_X8_init_416 rfl (by decide) ?_
  refine r_getR (t := 57) d_X8_init_417 fk_RX8_83 sh_32 rfl (by decide) (R 32 rfl) ?_
  refine r_iconst d_X8_init_420 ?_
  refine r_iconst d_X8_init_421 ?_
  refine c_iast0 (k := 0) d_X8_init_422 sh_57 (by decide) (R 57 rfl) (by decide) rfl (by decide) h (fun D14 h => ?_)
  refine r_aload_n d_X8_init_423 rfl (by decide) ?_
  show Run Γ rg κ Y_X8_init 424 [(40, 0), (5, 0)] [(40, 0)] D14 Φ
  refine r_iconst d_X8_init_424 ?_
  refine r_iconst d_X8_init_425 ?_
  refine c_callVv (a := 32) (z := 0) (as := [(0, 0), (0, 2)]) (rest := []) (ls' := [(40, 0), (0, 0), (0, 2), (5, 0)]) d_X8_init_426 ck_RX8_116 rfl sh_32 rfl (by decide) (R 32 rfl) rfl rfl (Nat.le_of_ble_eq_true rfl) (Nat.le_of_ble_eq_true rfl) (by decide) rfl rfl (fun κ' Ψ hΨ => run_pM_copies R _ _ hΨ) h (fun _ D15 h => ?_)
  show Run Γ rg κ Y_X8_init 429 [(40, 0), (5, 0)] [] D15 Φ
  exact c_vret d_X8_init_429 rfl h
