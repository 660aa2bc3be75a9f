theorem zu_J4 : ∀ w ∈ u_ws RJ4 TJ4 4, w ∈ zGT := fun w h => zGT_of ((by decide +kernel : ∀ w ∈ u_ws RJ4 TJ4 4, w ∈ lw_tbl) w h) ((by decide +kernel : ∀ w ∈ u_ws RJ4 TJ4 4, goodWord w = true) w h)
theorem zf_J5_15 : zFW RJ5 15 9 0 := ⟨RJ4, TJ4, 4, by decide, rfl, by decide, zu_J4, zGT_in 307 (by decide +kernel) rfl⟩
theorem zg_J0_38 : Cond.fieldLink RJ0 38 "java/lang/String" "COMPACT_STRINGS" "Z" ∈ zGT := zGT_in 427 (by decide +kernel) rfl
theorem zi_1 : Int32.ofInt (1) = (1 : Int32) := by decide +kernel
theorem zf_J0_15 : zFS RJ0 15 1 := Or.inr ⟨rfl, zGT_in 546 (by decide +kernel) rfl⟩
theorem zf_J0_9 : zFS RJ0 9 0 := Or.inl ⟨rfl, zGT_in 545 (by decide +kernel) rfl⟩
theorem zc_J0_335 : zCV RJ0 335 yJ0_coder_7d493 cJ0_coder_7d493 1 (some .byte) 20 0 := by
  refine ⟨RJ0, Or.inr ⟨rfl, rfl⟩, ?_, rfl, by decide +kernel, by decide +kernel, by decide +kernel⟩
  exact zV5 (zGT_in 423 (by decide +kernel) rfl) (zGT_in 424 (by decide +kernel) rfl) (zGT_in 425 (by decide +kernel) rfl) (zGT_in 34 (by decide +kernel) rfl) (zGT_in 426 (by decide +kernel) rfl)
theorem zi_0 : Int32.ofInt (0) = (0 : Int32) := by decide +kernel
theorem zg_J0_1053 : Cond.fieldLink RJ0 1053 "jdk/internal/util/Preconditions" "SIOOBE_FORMATTER" "Ljava/util/function/BiFunction;" ∈ zGT := zGT_in 405 (by decide +kernel) rfl
theorem zs_J0_1059 : zCS RJ0 1059 yJ3_checkIndex_8e157 cJ3_checkIndex_8e157 3 (some .int) 3 := by
  refine ⟨?_, by decide +kernel, by decide +kernel, by decide +kernel⟩
  exact zS4 (zGT_in 583 (by decide +kernel) rfl) (zGT_in 584 (by decide +kernel) rfl) (zGT_in 40 (by decide +kernel) rfl) (zGT_in 585 (by decide +kernel) rfl)
theorem zs_J1_9 : zCS RJ1 9 yJ0_checkIndex_df160 cJ0_checkIndex_df160 2 none 2 := by
  refine ⟨?_, by decide +kernel, by decide +kernel, by decide +kernel⟩
  exact zS4 (zGT_in 644 (by decide +kernel) rfl) (zGT_in 581 (by decide +kernel) rfl) (zGT_in 34 (by decide +kernel) rfl) (zGT_in 582 (by decide +kernel) rfl)
theorem zsi_255 : (Int16.ofInt (255)).toInt32 = (255 : Int32) := by decide +kernel
theorem zc_J0_492 : zCV RJ0 492 yJ0_isLatin1_aae02 cJ0_isLatin1_aae02 1 (some .boolean) 20 0 := by
  refine ⟨RJ0, Or.inr ⟨rfl, rfl⟩, ?_, rfl, by decide +kernel, by decide +kernel, by decide +kernel⟩
  exact zV5 (zGT_in 637 (by decide +kernel) rfl) (zGT_in 638 (by decide +kernel) rfl) (zGT_in 639 (by decide +kernel) rfl) (zGT_in 34 (by decide +kernel) rfl) (zGT_in 640 (by decide +kernel) rfl)
theorem zs_J0_495 : zCS RJ0 495 yJ1_charAt_3b067 cJ1_charAt_3b067 2 (some .char) 2 := by
  refine ⟨?_, by decide +kernel, by decide +kernel, by decide +kernel⟩
  exact zS4 (zGT_in 641 (by decide +kernel) rfl) (zGT_in 642 (by decide +kernel) rfl) (zGT_in 41 (by decide +kernel) rfl) (zGT_in 643 (by decide +kernel) rfl)
theorem zo_J5_3 : zOI RJ5 3 := ⟨zGT_in 297 (by decide +kernel) rfl, zGT_in 63 (by decide +kernel) rfl, zGT_in 64 (by decide +kernel) rfl⟩
theorem zg_J5_18 : Cond.fieldLink RJ5 18 "java/lang/String" "COMPACT_STRINGS" "Z" ∈ zGT := zGT_in 298 (by decide +kernel) rfl
theorem zar_byte : Cond.arrayClass .byte ∈ zGT := zGT_in 99 (by decide +kernel) rfl
theorem zp_J5_15 : zPW RJ5 15 9 0 (.array .byte) := ⟨RJ4, TJ4, 4, tyJ4, ⟨by decide, rfl, by decide, zu_J4, zGT_in 307 (by decide +kernel) rfl⟩, tyJ4_ok, nmJ4, rfl, by decide +kernel⟩
theorem zf_J5_22 : zFW RJ5 22 9 1 := ⟨RJ4, TJ4, 4, by decide, rfl, by decide, zu_J4, zGT_in 308 (by decide +kernel) rfl⟩
theorem zp_J5_22 : zPW RJ5 22 9 1 .byte := ⟨RJ4, TJ4, 4, tyJ4, ⟨by decide, rfl, by decide, zu_J4, zGT_in 308 (by decide +kernel) rfl⟩, tyJ4_ok, nmJ4, rfl, by decide +kernel⟩
theorem zbi_16 : (Int8.ofInt (16)).toInt32 = (16 : Int32) := by decide +kernel
theorem zci_J4_1 : zCI RJ4 1 yJ5_init_d00df cJ5_init_d00df 2 1 := ⟨zGT_in 294 (by decide +kernel) rfl, zGT_in 295 (by decide +kernel) rfl, zGT_in 32 (by decide +kernel) rfl, zGT_in 296 (by decide +kernel) rfl, by decide +kernel, by decide +kernel, by decide +kernel, by decide +kernel⟩
theorem zm_J7_304 : zMW RJ7 304 Lib.Math.min.name Lib.Math.min.code 2 := ⟨zGT_in 382 (by decide +kernel) rfl, zGT_in 383 (by decide +kernel) rfl, zGT_in 37 (by decide +kernel) rfl, zGT_in 384 (by decide +kernel) rfl⟩
theorem zy_J7_150 : zYW RJ7 150 := ⟨zGT_in 385 (by decide +kernel) rfl, zGT_in 387 (by decide +kernel) rfl, zGT_in 386 (by decide +kernel) rfl, zGT_in 39 (by decide +kernel) rfl⟩
theorem zm_J8_194 : zMW RJ8 194 Lib.Math.max.name Lib.Math.max.code 2 := ⟨zGT_in 364 (by decide +kernel) rfl, zGT_in 365 (by decide +kernel) rfl, zGT_in 37 (by decide +kernel) rfl, zGT_in 366 (by decide +kernel) rfl⟩
theorem zk_J8_200 : Cond.constant RJ8 200 (2147483639 : Int32) ∈ zGT := zGT_in 367 (by decide +kernel) rfl
theorem zi_2 : Int32.ofInt (2) = (2 : Int32) := by decide +kernel
theorem zs_J5_114 : zCS RJ5 114 yJ8_newLength_cabcc cJ8_newLength_cabcc 4 (some .int) 3 := by
  refine ⟨?_, by decide +kernel, by decide +kernel, by decide +kernel⟩
  exact zS4 (zGT_in 361 (by decide +kernel) rfl) (zGT_in 362 (by decide +kernel) rfl) (zGT_in 36 (by decide +kernel) rfl) (zGT_in 363 (by decide +kernel) rfl)
theorem zk_J5_39 : Cond.constant RJ5 39 (2147483647 : Int32) ∈ zGT := zGT_in 371 (by decide +kernel) rfl
theorem zcu_J5_104 : zCU RJ5 104 yJ5_newCapacity_0f7a4 cJ5_newCapacity_0f7a4 6 (some .int) 1 := ⟨zGT_in 357 (by decide +kernel) rfl, zGT_in 1206 (by decide +kernel) rfl, zGT_in 359 (by decide +kernel) rfl, zGT_in 32 (by decide +kernel) rfl, zGT_in 360 (by decide +kernel) rfl, Or.inl (zGT_sel 0 rfl), by decide +kernel, by decide +kernel, by decide +kernel⟩
theorem zs_J5_108 : zCS RJ5 108 yJ7_copyOf_9075b cJ7_copyOf_9075b 3 (some (.array .byte)) 2 := by
  refine ⟨?_, by decide +kernel, by decide +kernel, by decide +kernel⟩
  exact zS4 (zGT_in 372 (by decide +kernel) rfl) (zGT_in 373 (by decide +kernel) rfl) (zGT_in 38 (by decide +kernel) rfl) (zGT_in 374 (by decide +kernel) rfl)
theorem zf_J5_79 : zFW RJ5 79 9 3 := ⟨RJ4, TJ4, 4, by decide, rfl, by decide, zu_J4, zGT_in 310 (by decide +kernel) rfl⟩
theorem zcu_J5_100 : zCU RJ5 100 yJ5_ensureCapacityInternal_d00df cJ5_ensureCapacityInternal_d00df 3 none 1 := ⟨zGT_in 353 (by decide +kernel) rfl, zGT_in 1205 (by decide +kernel) rfl, zGT_in 355 (by decide +kernel) rfl, zGT_in 32 (by decide +kernel) rfl, zGT_in 356 (by decide +kernel) rfl, Or.inl (zGT_sel 1 rfl), by decide +kernel, by decide +kernel, by decide +kernel⟩
theorem zcu_J5_83 : zCU RJ5 83 yJ5_isLatin1_aae02 cJ5_isLatin1_aae02 1 (some .boolean) 0 := ⟨zGT_in 388 (by decide +kernel) rfl, zGT_in 390 (by decide +kernel) rfl, zGT_in 389 (by decide +kernel) rfl, zGT_in 32 (by decide +kernel) rfl, zGT_in 392 (by decide +kernel) rfl, Or.inl (zGT_in 391 (by decide +kernel) rfl), by decide +kernel, by decide +kernel, by decide +kernel⟩
theorem zp_J5_79 : zPW RJ5 79 9 3 .int := ⟨RJ4, TJ4, 4, tyJ4, ⟨by decide, rfl, by decide, zu_J4, zGT_in 310 (by decide +kernel) rfl⟩, tyJ4_ok, nmJ4, rfl, by decide +kernel⟩
theorem zs_J5_191 : zCS RJ5 191 yJ1_canEncode_fc78d cJ1_canEncode_fc78d 1 (some .boolean) 1 := by
  refine ⟨?_, by decide +kernel, by decide +kernel, by decide +kernel⟩
  exact zS4 (zGT_in 571 (by decide +kernel) rfl) (zGT_in 572 (by decide +kernel) rfl) (zGT_in 41 (by decide +kernel) rfl) (zGT_in 573 (by decide +kernel) rfl)
theorem zc_J5_40 : zCV RJ5 40 yJ0_coder_7d493 cJ0_coder_7d493 1 (some .byte) 20 0 := by
  refine ⟨RJ0, Or.inr ⟨rfl, rfl⟩, ?_, rfl, by decide +kernel, by decide +kernel, by decide +kernel⟩
  exact zV5 (zGT_in 436 (by decide +kernel) rfl) (zGT_in 424 (by decide +kernel) rfl) (zGT_in 425 (by decide +kernel) rfl) (zGT_in 34 (by decide +kernel) rfl) (zGT_in 426 (by decide +kernel) rfl)
theorem zy_J0_212 : zYW RJ0 212 := ⟨zGT_in 460 (by decide +kernel) rfl, zGT_in 387 (by decide +kernel) rfl, zGT_in 386 (by decide +kernel) rfl, zGT_in 39 (by decide +kernel) rfl⟩
theorem zcu_J5_397 : zCU RJ5 397 yJ5_inflateIfNeededFor_a7421 cJ5_inflateIfNeededFor_a7421 2 none 1 := ⟨zGT_in 432 (by decide +kernel) rfl, zGT_in 1208 (by decide +kernel) rfl, zGT_in 434 (by decide +kernel) rfl, zGT_in 32 (by decide +kernel) rfl, zGT_in 435 (by decide +kernel) rfl, Or.inl (zGT_sel 2 rfl), by decide +kernel, by decide +kernel, by decide +kernel⟩
theorem zc_J5_399 : zCV RJ5 399 yJ0_getBytes_840e7 cJ0_getBytes_840e7 4 none 20 3 := by
  refine ⟨RJ0, Or.inr ⟨rfl, rfl⟩, ?_, rfl, by decide +kernel, by decide +kernel, by decide +kernel⟩
  exact zV5 (zGT_in 456 (by decide +kernel) rfl) (zGT_in 457 (by decide +kernel) rfl) (zGT_in 458 (by decide +kernel) rfl) (zGT_in 34 (by decide +kernel) rfl) (zGT_in 459 (by decide +kernel) rfl)
theorem zc_J5_32 : zCV RJ5 32 yJ0_length_8abf5 cJ0_length_8abf5 1 (some .int) 20 0 := by
  refine ⟨RJ0, Or.inr ⟨rfl, rfl⟩, ?_, rfl, by decide +kernel, by decide +kernel, by decide +kernel⟩
  exact zV5 (zGT_in 419 (by decide +kernel) rfl) (zGT_in 420 (by decide +kernel) rfl) (zGT_in 421 (by decide +kernel) rfl) (zGT_in 34 (by decide +kernel) rfl) (zGT_in 422 (by decide +kernel) rfl)
theorem zcu_J5_208 : zCU RJ5 208 yJ5_putStringAt_47b60 cJ5_putStringAt_47b60 3 none 2 := ⟨zGT_in 428 (by decide +kernel) rfl, zGT_in 1207 (by decide +kernel) rfl, zGT_in 430 (by decide +kernel) rfl, zGT_in 32 (by decide +kernel) rfl, zGT_in 431 (by decide +kernel) rfl, Or.inl (zGT_sel 3 rfl), by decide +kernel, by decide +kernel, by decide +kernel⟩
theorem zbi_m10 : (Int8.ofInt (-10)).toInt32 = (-10 : Int32) := by decide +kernel
theorem zbi_10 : (Int8.ofInt (10)).toInt32 = (10 : Int32) := by decide +kernel
theorem zbi_m100 : (Int8.ofInt (-100)).toInt32 = (-100 : Int32) := by decide +kernel
theorem zbi_100 : (Int8.ofInt (100)).toInt32 = (100 : Int32) := by decide +kernel
theorem zi_m1 : Int32.ofInt (-1) = (-1 : Int32) := by decide +kernel
theorem zg_J6_83 : Cond.fieldLink RJ6 83 "java/lang/Integer" "DigitOnes" "[B" ∈ zGT := zGT_in 482 (by decide +kernel) rfl
theorem zg_J6_87 : Cond.fieldLink RJ6 87 "java/lang/Integer" "DigitTens" "[B" ∈ zGT := zGT_in 484 (by decide +kernel) rfl
theorem zbi_m9 : (Int8.ofInt (-9)).toInt32 = (-9 : Int32) := by decide +kernel
theorem zbi_45 : (Int8.ofInt (45)).toInt32 = (45 : Int32) := by decide +kernel
theorem zs_J5_245 : zCS RJ5 245 yJ6_stringSize_0f7a4 cJ6_stringSize_0f7a4 4 (some .int) 1 := by
  refine ⟨?_, by decide +kernel, by decide +kernel, by decide +kernel⟩
  exact zS4 (zGT_in 476 (by decide +kernel) rfl) (zGT_in 477 (by decide +kernel) rfl) (zGT_in 42 (by decide +kernel) rfl) (zGT_in 478 (by decide +kernel) rfl)
theorem zs_J5_248 : zCS RJ5 248 yJ6_getChars_ba4f3 cJ6_getChars_ba4f3 7 (some .int) 3 := by
  refine ⟨?_, by decide +kernel, by decide +kernel, by decide +kernel⟩
  exact zS4 (zGT_in 479 (by decide +kernel) rfl) (zGT_in 480 (by decide +kernel) rfl) (zGT_in 42 (by decide +kernel) rfl) (zGT_in 481 (by decide +kernel) rfl)
theorem zsu_J4_50 : zCUS RJ4 50 yJ5_append_3fe6f cJ5_append_3fe6f 2 (some (.object "java/lang/AbstractStringBuilder")) 1 := ⟨zU6 (zGT_in 568 (by decide +kernel) rfl) (zGT_in 1211 (by decide +kernel) rfl) (zGT_in 319 (by decide +kernel) rfl) (zGT_in 569 (by decide +kernel) rfl) (zGT_in 32 (by decide +kernel) rfl) (zGT_in 570 (by decide +kernel) rfl), by decide +kernel, by decide +kernel⟩
theorem zsu_J4_29 : zCUS RJ4 29 yJ5_append_cf1ce cJ5_append_cf1ce 3 (some (.object "java/lang/AbstractStringBuilder")) 1 := ⟨zU6 (zGT_in 346 (by decide +kernel) rfl) (zGT_in 1203 (by decide +kernel) rfl) (zGT_in 319 (by decide +kernel) rfl) (zGT_in 347 (by decide +kernel) rfl) (zGT_in 32 (by decide +kernel) rfl) (zGT_in 348 (by decide +kernel) rfl), by decide +kernel, by decide +kernel⟩
theorem zsu_J4_53 : zCUS RJ4 53 yJ5_append_c97b9 cJ5_append_c97b9 4 (some (.object "java/lang/AbstractStringBuilder")) 1 := ⟨zU6 (zGT_in 473 (by decide +kernel) rfl) (zGT_in 1210 (by decide +kernel) rfl) (zGT_in 319 (by decide +kernel) rfl) (zGT_in 474 (by decide +kernel) rfl) (zGT_in 32 (by decide +kernel) rfl) (zGT_in 475 (by decide +kernel) rfl), by decide +kernel, by decide +kernel⟩
theorem zsu_J4_343 : zCUS RJ4 343 yJ5_length_8abf5 cJ5_length_8abf5 1 (some .int) 0 := ⟨zU6 (zGT_in 520 (by decide +kernel) rfl) (zGT_in 516 (by decide +kernel) rfl) (zGT_in 319 (by decide +kernel) rfl) (zGT_in 515 (by decide +kernel) rfl) (zGT_in 32 (by decide +kernel) rfl) (zGT_in 521 (by decide +kernel) rfl), by decide +kernel, by decide +kernel⟩
theorem zo_X0_3 : zOI RX0 3 := ⟨zGT_in 196 (by decide +kernel) rfl, zGT_in 63 (by decide +kernel) rfl, zGT_in 64 (by decide +kernel) rfl⟩
theorem zbi_12 : (Int8.ofInt (12)).toInt32 = (12 : Int32) := by decide +kernel
theorem zar_int : Cond.arrayClass .int ∈ zGT := zGT_in 160 (by decide +kernel) rfl
theorem zu_X0 : ∀ w ∈ u_ws RX0 TX0 9, w ∈ zGT := fun w h => zGT_of ((by decide +kernel : ∀ w ∈ u_ws RX0 TX0 9, w ∈ lw_tbl) w h) ((by decide +kernel : ∀ w ∈ u_ws RX0 TX0 9, goodWord w = true) w h)
theorem zf_X0_9 : zFW RX0 9 0 6 := ⟨RX0, TX0, 9, by decide, rfl, by decide, zu_X0, zGT_in 214 (by decide +kernel) rfl⟩
theorem zpf_X0_9 : zPF RX0 9 0 6 (.array .int) := ⟨RX0, TX0, 9, tyX0, ⟨by decide, rfl, by decide, zu_X0, zGT_in 214 (by decide +kernel) rfl⟩, tyX0_ok, nmX0, rfl, rfl, by decide +kernel⟩
theorem zi_4 : Int32.ofInt (4) = (4 : Int32) := by decide +kernel
theorem zf_X0_15 : zFW RX0 15 0 7 := ⟨RX0, TX0, 9, by decide, rfl, by decide, zu_X0, zGT_in 215 (by decide +kernel) rfl⟩
theorem zpf_X0_15 : zPF RX0 15 0 7 (.array .int) := ⟨RX0, TX0, 9, tyX0, ⟨by decide, rfl, by decide, zu_X0, zGT_in 215 (by decide +kernel) rfl⟩, tyX0_ok, nmX0, rfl, rfl, by decide +kernel⟩
theorem zbi_24 : (Int8.ofInt (24)).toInt32 = (24 : Int32) := by decide +kernel
theorem zf_X0_18 : zFW RX0 18 0 8 := ⟨RX0, TX0, 9, by decide, rfl, by decide, zu_X0, zGT_in 218 (by decide +kernel) rfl⟩
theorem zpf_X0_18 : zPF RX0 18 0 8 (.array .int) := ⟨RX0, TX0, 9, tyX0, ⟨by decide, rfl, by decide, zu_X0, zGT_in 218 (by decide +kernel) rfl⟩, tyX0_ok, nmX0, rfl, rfl, by decide +kernel⟩
theorem zf_X0_28 : zFW RX0 28 0 2 := ⟨RX0, TX0, 9, by decide, rfl, by decide, zu_X0, zGT_in 204 (by decide +kernel) rfl⟩
theorem zp_X0_28 : zPW RX0 28 0 2 .int := ⟨RX0, TX0, 9, tyX0, ⟨by decide, rfl, by decide, zu_X0, zGT_in 204 (by decide +kernel) rfl⟩, tyX0_ok, nmX0, rfl, by decide +kernel⟩
theorem zbi_m3 : (Int8.ofInt (-3)).toInt32 = (-3 : Int32) := by decide +kernel
theorem zf_X0_21 : zFW RX0 21 0 0 := ⟨RX0, TX0, 9, by decide, rfl, by decide, zu_X0, zGT_in 197 (by decide +kernel) rfl⟩
theorem zp_X0_21 : zPW RX0 21 0 0 .int := ⟨RX0, TX0, 9, tyX0, ⟨by decide, rfl, by decide, zu_X0, zGT_in 197 (by decide +kernel) rfl⟩, tyX0_ok, nmX0, rfl, by decide +kernel⟩
theorem zf_X0_25 : zFW RX0 25 0 1 := ⟨RX0, TX0, 9, by decide, rfl, by decide, zu_X0, zGT_in 201 (by decide +kernel) rfl⟩
theorem zp_X0_25 : zPW RX0 25 0 1 .int := ⟨RX0, TX0, 9, tyX0, ⟨by decide, rfl, by decide, zu_X0, zGT_in 201 (by decide +kernel) rfl⟩, tyX0_ok, nmX0, rfl, by decide +kernel⟩
theorem zc_X0_31 : zCV RX0 31 yX0_enter cX0_enter 2 none 0 1 := by
  refine ⟨RX0, Or.inl ⟨by decide, TX0, 9, rfl⟩, ?_, rfl, by decide +kernel, by decide +kernel, by decide +kernel⟩
  exact zV5 (zGT_in 803 (by decide +kernel) rfl) (zGT_in 804 (by decide +kernel) rfl) (zGT_in 805 (by decide +kernel) rfl) (zGT_in 30 (by decide +kernel) rfl) (zGT_in 806 (by decide +kernel) rfl)
theorem zf_X0_35 : zFW RX0 35 0 3 := ⟨RX0, TX0, 9, by decide, rfl, by decide, zu_X0, zGT_in 207 (by decide +kernel) rfl⟩
theorem zp_X0_35 : zPW RX0 35 0 3 .int := ⟨RX0, TX0, 9, tyX0, ⟨by decide, rfl, by decide, zu_X0, zGT_in 207 (by decide +kernel) rfl⟩, tyX0_ok, nmX0, rfl, by decide +kernel⟩
theorem zf_X0_38 : zFW RX0 38 0 4 := ⟨RX0, TX0, 9, by decide, rfl, by decide, zu_X0, zGT_in 210 (by decide +kernel) rfl⟩
theorem zp_X0_38 : zPW RX0 38 0 4 .int := ⟨RX0, TX0, 9, tyX0, ⟨by decide, rfl, by decide, zu_X0, zGT_in 210 (by decide +kernel) rfl⟩, tyX0_ok, nmX0, rfl, by decide +kernel⟩
theorem zf_X0_41 : zFW RX0 41 0 5 := ⟨RX0, TX0, 9, by decide, rfl, by decide, zu_X0, zGT_in 211 (by decide +kernel) rfl⟩
theorem zp_X0_41 : zPW RX0 41 0 5 .boolean := ⟨RX0, TX0, 9, tyX0, ⟨by decide, rfl, by decide, zu_X0, zGT_in 211 (by decide +kernel) rfl⟩, tyX0_ok, nmX0, rfl, by decide +kernel⟩
theorem zy_X0_45 : zYW RX0 45 := ⟨zGT_in 838 (by decide +kernel) rfl, zGT_in 387 (by decide +kernel) rfl, zGT_in 386 (by decide +kernel) rfl, zGT_in 39 (by decide +kernel) rfl⟩
theorem zc_X0_51 : zCV RX0 51 yX0_isAtTable cX0_isAtTable 1 (some .boolean) 0 0 := by
  refine ⟨RX0, Or.inl ⟨by decide, TX0, 9, rfl⟩, ?_, rfl, by decide +kernel, by decide +kernel, by decide +kernel⟩
  exact zV5 (zGT_in 859 (by decide +kernel) rfl) (zGT_in 860 (by decide +kernel) rfl) (zGT_in 861 (by decide +kernel) rfl) (zGT_in 30 (by decide +kernel) rfl) (zGT_in 862 (by decide +kernel) rfl)
theorem zbi_6 : (Int8.ofInt (6)).toInt32 = (6 : Int32) := by decide +kernel
theorem zc_X0_55 : zCV RX0 55 yX0_hasCount cX0_hasCount 2 (some .boolean) 0 1 := by
  refine ⟨RX0, Or.inl ⟨by decide, TX0, 9, rfl⟩, ?_, rfl, by decide +kernel, by decide +kernel, by decide +kernel⟩
  exact zV5 (zGT_in 940 (by decide +kernel) rfl) (zGT_in 941 (by decide +kernel) rfl) (zGT_in 942 (by decide +kernel) rfl) (zGT_in 30 (by decide +kernel) rfl) (zGT_in 943 (by decide +kernel) rfl)
theorem zc_X0_59 : zCV RX0 59 yX0_foundBy cX0_foundBy 3 (some .int) 0 2 := by
  refine ⟨RX0, Or.inl ⟨by decide, TX0, 9, rfl⟩, ?_, rfl, by decide +kernel, by decide +kernel, by decide +kernel⟩
  exact zV5 (zGT_in 897 (by decide +kernel) rfl) (zGT_in 898 (by decide +kernel) rfl) (zGT_in 899 (by decide +kernel) rfl) (zGT_in 30 (by decide +kernel) rfl) (zGT_in 900 (by decide +kernel) rfl)
theorem zc_X0_67 : zCV RX0 67 yX0_agree cX0_agree 5 (some .boolean) 0 3 := by
  refine ⟨RX0, Or.inl ⟨by decide, TX0, 9, rfl⟩, ?_, rfl, by decide +kernel, by decide +kernel, by decide +kernel⟩
  exact zV5 (zGT_in 893 (by decide +kernel) rfl) (zGT_in 895 (by decide +kernel) rfl) (zGT_in 17 (by decide +kernel) rfl) (zGT_in 30 (by decide +kernel) rfl) (zGT_in 896 (by decide +kernel) rfl)
theorem zc_X0_63 : zCV RX0 63 yX0_isRepeatedAfter cX0_isRepeatedAfter 4 (some .boolean) 0 2 := by
  refine ⟨RX0, Or.inl ⟨by decide, TX0, 9, rfl⟩, ?_, rfl, by decide +kernel, by decide +kernel, by decide +kernel⟩
  exact zV5 (zGT_in 889 (by decide +kernel) rfl) (zGT_in 891 (by decide +kernel) rfl) (zGT_in 16 (by decide +kernel) rfl) (zGT_in 30 (by decide +kernel) rfl) (zGT_in 892 (by decide +kernel) rfl)
theorem zo_X5_3 : zOI RX5 3 := ⟨zGT_in 105 (by decide +kernel) rfl, zGT_in 63 (by decide +kernel) rfl, zGT_in 64 (by decide +kernel) rfl⟩
theorem zi_5 : Int32.ofInt (5) = (5 : Int32) := by decide +kernel
theorem zu_X5 : ∀ w ∈ u_ws RX5 TX5 10, w ∈ zGT := fun w h => zGT_of ((by decide +kernel : ∀ w ∈ u_ws RX5 TX5 10, w ∈ lw_tbl) w h) ((by decide +kernel : ∀ w ∈ u_ws RX5 TX5 10, goodWord w = true) w h)
theorem zf_X5_9 : zFW RX5 9 5 0 := ⟨RX5, TX5, 10, by decide, rfl, by decide, zu_X5, zGT_in 108 (by decide +kernel) rfl⟩
theorem zpf_X5_9 : zPF RX5 9 5 0 (.array .int) := ⟨RX5, TX5, 10, tyX5, ⟨by decide, rfl, by decide, zu_X5, zGT_in 108 (by decide +kernel) rfl⟩, tyX5_ok, nmX5, rfl, rfl, by decide +kernel⟩
theorem zml_X5_15 : Cond.classLink RX5 15 ("[" ++ (FieldType.array .int).toString) ∈ zGT := zGT_in 106 (by decide +kernel) rfl
theorem zf_X5_17 : zFW RX5 17 5 1 := ⟨RX5, TX5, 10, by decide, rfl, by decide, zu_X5, zGT_in 113 (by decide +kernel) rfl⟩
theorem zpf_X5_17 : zPF RX5 17 5 1 (.array (.array .int)) := ⟨RX5, TX5, 10, tyX5, ⟨by decide, rfl, by decide, zu_X5, zGT_in 113 (by decide +kernel) rfl⟩, tyX5_ok, nmX5, rfl, rfl, by decide +kernel⟩
theorem zf_X5_20 : zFW RX5 20 5 2 := ⟨RX5, TX5, 10, by decide, rfl, by decide, zu_X5, zGT_in 115 (by decide +kernel) rfl⟩
theorem zpf_X5_20 : zPF RX5 20 5 2 (.array .int) := ⟨RX5, TX5, 10, tyX5, ⟨by decide, rfl, by decide, zu_X5, zGT_in 115 (by decide +kernel) rfl⟩, tyX5_ok, nmX5, rfl, rfl, by decide +kernel⟩
theorem zf_X5_23 : zFW RX5 23 5 3 := ⟨RX5, TX5, 10, by decide, rfl, by decide, zu_X5, zGT_in 117 (by decide +kernel) rfl⟩
theorem zpf_X5_23 : zPF RX5 23 5 3 (.array .int) := ⟨RX5, TX5, 10, tyX5, ⟨by decide, rfl, by decide, zu_X5, zGT_in 117 (by decide +kernel) rfl⟩, tyX5_ok, nmX5, rfl, rfl, by decide +kernel⟩
theorem zf_X5_26 : zFW RX5 26 5 4 := ⟨RX5, TX5, 10, by decide, rfl, by decide, zu_X5, zGT_in 119 (by decide +kernel) rfl⟩
theorem zpf_X5_26 : zPF RX5 26 5 4 (.array .int) := ⟨RX5, TX5, 10, tyX5, ⟨by decide, rfl, by decide, zu_X5, zGT_in 119 (by decide +kernel) rfl⟩, tyX5_ok, nmX5, rfl, rfl, by decide +kernel⟩
theorem zf_X5_29 : zFW RX5 29 5 5 := ⟨RX5, TX5, 10, by decide, rfl, by decide, zu_X5, zGT_in 123 (by decide +kernel) rfl⟩
theorem zpf_X5_29 : zPF RX5 29 5 5 (.array .int) := ⟨RX5, TX5, 10, tyX5, ⟨by decide, rfl, by decide, zu_X5, zGT_in 123 (by decide +kernel) rfl⟩, tyX5_ok, nmX5, rfl, rfl, by decide +kernel⟩
theorem zf_X5_32 : zFW RX5 32 5 6 := ⟨RX5, TX5, 10, by decide, rfl, by decide, zu_X5, zGT_in 127 (by decide +kernel) rfl⟩
theorem zpf_X5_32 : zPF RX5 32 5 6 (.array .int) := ⟨RX5, TX5, 10, tyX5, ⟨by decide, rfl, by decide, zu_X5, zGT_in 127 (by decide +kernel) rfl⟩, tyX5_ok, nmX5, rfl, rfl, by decide +kernel⟩
theorem zf_X5_35 : zFW RX5 35 5 7 := ⟨RX5, TX5, 10, by decide, rfl, by decide, zu_X5, zGT_in 130 (by decide +kernel) rfl⟩
theorem zpf_X5_35 : zPF RX5 35 5 7 (.array (.array .int)) := ⟨RX5, TX5, 10, tyX5, ⟨by decide, rfl, by decide, zu_X5, zGT_in 130 (by decide +kernel) rfl⟩, tyX5_ok, nmX5, rfl, rfl, by decide +kernel⟩
theorem zf_X5_38 : zFW RX5 38 5 8 := ⟨RX5, TX5, 10, by decide, rfl, by decide, zu_X5, zGT_in 133 (by decide +kernel) rfl⟩
theorem zpf_X5_38 : zPF RX5 38 5 8 (.array .int) := ⟨RX5, TX5, 10, tyX5, ⟨by decide, rfl, by decide, zu_X5, zGT_in 133 (by decide +kernel) rfl⟩, tyX5_ok, nmX5, rfl, rfl, by decide +kernel⟩
theorem zf_X5_41 : zFW RX5 41 5 9 := ⟨RX5, TX5, 10, by decide, rfl, by decide, zu_X5, zGT_in 136 (by decide +kernel) rfl⟩
theorem zpf_X5_41 : zPF RX5 41 5 9 (.array .int) := ⟨RX5, TX5, 10, tyX5, ⟨by decide, rfl, by decide, zu_X5, zGT_in 136 (by decide +kernel) rfl⟩, tyX5_ok, nmX5, rfl, rfl, by decide +kernel⟩
theorem zo_X6_3 : zOI RX6 3 := ⟨zGT_in 189 (by decide +kernel) rfl, zGT_in 63 (by decide +kernel) rfl, zGT_in 64 (by decide +kernel) rfl⟩
theorem zal_X6_9 : Cond.classLink RX6 9 "CountHall$Box" ∈ zGT := zGT_in 190 (by decide +kernel) rfl
theorem zu_X6 : ∀ w ∈ u_ws RX6 TX6 5, w ∈ zGT := fun w h => zGT_of ((by decide +kernel : ∀ w ∈ u_ws RX6 TX6 5, w ∈ lw_tbl) w h) ((by decide +kernel : ∀ w ∈ u_ws RX6 TX6 5, goodWord w = true) w h)
theorem zf_X6_11 : zFW RX6 11 6 0 := ⟨RX6, TX6, 5, by decide, rfl, by decide, zu_X6, zGT_in 239 (by decide +kernel) rfl⟩
theorem zpf_X6_11 : zPF RX6 11 6 0 (.array (.object "CountHall$Box")) := ⟨RX6, TX6, 5, tyX6, ⟨by decide, rfl, by decide, zu_X6, zGT_in 239 (by decide +kernel) rfl⟩, tyX6_ok, nmX6, rfl, rfl, by decide +kernel⟩
theorem zf_X6_17 : zFW RX6 17 6 1 := ⟨RX6, TX6, 5, by decide, rfl, by decide, zu_X6, zGT_in 242 (by decide +kernel) rfl⟩
theorem zpf_X6_17 : zPF RX6 17 6 1 (.array .int) := ⟨RX6, TX6, 5, tyX6, ⟨by decide, rfl, by decide, zu_X6, zGT_in 242 (by decide +kernel) rfl⟩, tyX6_ok, nmX6, rfl, rfl, by decide +kernel⟩
theorem zf_X6_21 : zFW RX6 21 6 2 := ⟨RX6, TX6, 5, by decide, rfl, by decide, zu_X6, zGT_in 245 (by decide +kernel) rfl⟩
theorem zpf_X6_21 : zPF RX6 21 6 2 (.array .int) := ⟨RX6, TX6, 5, tyX6, ⟨by decide, rfl, by decide, zu_X6, zGT_in 245 (by decide +kernel) rfl⟩, tyX6_ok, nmX6, rfl, rfl, by decide +kernel⟩
theorem za_X6_9 : zAW RX6 9 0 [.int 0, .int 0, .int 0, .int 0, .int 0, .int 0, .null, .null, .null] := ⟨RX0, TX0, 9, tyX0, by decide, rfl, rfl, zu_X0, tyX0_ok, (fun j hj => by rcases (show j = 0 ∨ j = 1 ∨ j = 2 ∨ j = 3 ∨ j = 4 ∨ j = 5 ∨ j = 6 ∨ j = 7 ∨ j = 8 by omega) with rfl | rfl | rfl | rfl | rfl | rfl | rfl | rfl | rfl <;> rfl), zGT_in 190 (by decide +kernel) rfl, zGT_in 192 (by decide +kernel) rfl, zGT_in 30 (by decide +kernel) rfl⟩
theorem zci_X6_24 : zCIN RX6 24 yX0_init cX0_init 1 0 "CountHall" := ⟨by decide +kernel, zGT_in 194 (by decide +kernel) rfl, zGT_in 30 (by decide +kernel) rfl, zGT_in 195 (by decide +kernel) rfl, by decide +kernel, by decide +kernel, by decide +kernel, by decide +kernel⟩
theorem zsi_5000 : (Int16.ofInt (5000)).toInt32 = (5000 : Int32) := by decide +kernel
theorem zf_X6_25 : zFW RX6 25 6 4 := ⟨RX6, TX6, 5, by decide, rfl, by decide, zu_X6, zGT_in 251 (by decide +kernel) rfl⟩
theorem zp_X6_25 : zPW RX6 25 6 4 .int := ⟨RX6, TX6, 5, tyX6, ⟨by decide, rfl, by decide, zu_X6, zGT_in 251 (by decide +kernel) rfl⟩, tyX6_ok, nmX6, rfl, by decide +kernel⟩
theorem zo_X1_3 : zOI RX1 3 := ⟨zGT_in 181 (by decide +kernel) rfl, zGT_in 63 (by decide +kernel) rfl, zGT_in 64 (by decide +kernel) rfl⟩
theorem za_X1_9 : zAW RX1 9 5 [.null, .null, .null, .null, .null, .null, .null, .null, .null, .null] := ⟨RX5, TX5, 10, tyX5, by decide, rfl, rfl, zu_X5, tyX5_ok, (fun j hj => by rcases (show j = 0 ∨ j = 1 ∨ j = 2 ∨ j = 3 ∨ j = 4 ∨ j = 5 ∨ j = 6 ∨ j = 7 ∨ j = 8 ∨ j = 9 by omega) with rfl | rfl | rfl | rfl | rfl | rfl | rfl | rfl | rfl | rfl <;> rfl), zGT_in 182 (by decide +kernel) rfl, zGT_in 101 (by decide +kernel) rfl, zGT_in 27 (by decide +kernel) rfl⟩
theorem zci_X1_11 : zCIN RX1 11 yX5_init cX5_init 1 0 "CountHall" := ⟨by decide +kernel, zGT_in 103 (by decide +kernel) rfl, zGT_in 27 (by decide +kernel) rfl, zGT_in 104 (by decide +kernel) rfl, by decide +kernel, by decide +kernel, by decide +kernel, by decide +kernel⟩
theorem zu_X1 : ∀ w ∈ u_ws RX1 TX1 2, w ∈ zGT := fun w h => zGT_of ((by decide +kernel : ∀ w ∈ u_ws RX1 TX1 2, w ∈ lw_tbl) w h) ((by decide +kernel : ∀ w ∈ u_ws RX1 TX1 2, goodWord w = true) w h)
theorem zf_X1_12 : zFW RX1 12 1 0 := ⟨RX1, TX1, 2, by decide, rfl, by decide, zu_X1, zGT_in 263 (by decide +kernel) rfl⟩
theorem zp_X1_12 : zPW RX1 12 1 0 (.object "CountHall$Plan") := ⟨RX1, TX1, 2, tyX1, ⟨by decide, rfl, by decide, zu_X1, zGT_in 263 (by decide +kernel) rfl⟩, tyX1_ok, nmX1, rfl, by decide +kernel⟩
theorem za_X1_18 : zAW RX1 18 6 [.null, .null, .null, .int 0, .int 0] := ⟨RX6, TX6, 5, tyX6, by decide, rfl, rfl, zu_X6, tyX6_ok, (fun j hj => by rcases (show j = 0 ∨ j = 1 ∨ j = 2 ∨ j = 3 ∨ j = 4 by omega) with rfl | rfl | rfl | rfl | rfl <;> rfl), zGT_in 184 (by decide +kernel) rfl, zGT_in 185 (by decide +kernel) rfl, zGT_in 29 (by decide +kernel) rfl⟩
theorem zci_X1_20 : zCI RX1 20 yX6_init cX6_init 2 0 := ⟨zGT_in 186 (by decide +kernel) rfl, zGT_in 187 (by decide +kernel) rfl, zGT_in 29 (by decide +kernel) rfl, zGT_in 188 (by decide +kernel) rfl, by decide +kernel, by decide +kernel, by decide +kernel, by decide +kernel⟩
theorem zf_X1_21 : zFW RX1 21 1 1 := ⟨RX1, TX1, 2, by decide, rfl, by decide, zu_X1, zGT_in 265 (by decide +kernel) rfl⟩
theorem zpf_X1_21 : zPF RX1 21 1 1 (.object "CountHall$State") := ⟨RX1, TX1, 2, tyX1, ⟨by decide, rfl, by decide, zu_X1, zGT_in 265 (by decide +kernel) rfl⟩, tyX1_ok, nmX1, rfl, rfl, by decide +kernel⟩
theorem zf_X6_29 : zFW RX6 29 5 0 := ⟨RX5, TX5, 10, by decide, rfl, by decide, zu_X5, zGT_in 109 (by decide +kernel) rfl⟩
theorem zi_3 : Int32.ofInt (3) = (3 : Int32) := by decide +kernel
theorem zf_X6_34 : zFW RX6 34 5 6 := ⟨RX5, TX5, 10, by decide, rfl, by decide, zu_X5, zGT_in 128 (by decide +kernel) rfl⟩
theorem zc_X6_37 : zCV RX6 37 yX0_begin cX0_begin 2 none 0 1 := by
  refine ⟨RX0, Or.inl ⟨by decide, TX0, 9, rfl⟩, ?_, rfl, by decide +kernel, by decide +kernel, by decide +kernel⟩
  exact zV5 (zGT_in 799 (by decide +kernel) rfl) (zGT_in 800 (by decide +kernel) rfl) (zGT_in 801 (by decide +kernel) rfl) (zGT_in 30 (by decide +kernel) rfl) (zGT_in 802 (by decide +kernel) rfl)
theorem zf_X6_41 : zFW RX6 41 5 9 := ⟨RX5, TX5, 10, by decide, rfl, by decide, zu_X5, zGT_in 137 (by decide +kernel) rfl⟩
theorem zy_X6_42 : zYW RX6 42 := ⟨zGT_in 807 (by decide +kernel) rfl, zGT_in 387 (by decide +kernel) rfl, zGT_in 386 (by decide +kernel) rfl, zGT_in 39 (by decide +kernel) rfl⟩
theorem zf_X6_48 : zFW RX6 48 6 3 := ⟨RX6, TX6, 5, by decide, rfl, by decide, zu_X6, zGT_in 248 (by decide +kernel) rfl⟩
theorem zp_X6_48 : zPW RX6 48 6 3 .int := ⟨RX6, TX6, 5, tyX6, ⟨by decide, rfl, by decide, zu_X6, zGT_in 248 (by decide +kernel) rfl⟩, tyX6_ok, nmX6, rfl, by decide +kernel⟩
theorem zc_X1_25 : zCV RX1 25 yX6_begin cX6_begin 3 none 6 1 := by
  refine ⟨RX6, Or.inl ⟨by decide, TX6, 5, rfl⟩, ?_, rfl, by decide +kernel, by decide +kernel, by decide +kernel⟩
  exact zV5 (zGT_in 795 (by decide +kernel) rfl) (zGT_in 796 (by decide +kernel) rfl) (zGT_in 797 (by decide +kernel) rfl) (zGT_in 29 (by decide +kernel) rfl) (zGT_in 798 (by decide +kernel) rfl)
theorem zf_X1_29 : zFW RX1 29 5 0 := ⟨RX5, TX5, 10, by decide, rfl, by decide, zu_X5, zGT_in 110 (by decide +kernel) rfl⟩
theorem zf_X1_33 : zFW RX1 33 6 0 := ⟨RX6, TX6, 5, by decide, rfl, by decide, zu_X6, zGT_in 240 (by decide +kernel) rfl⟩
theorem zf_X1_37 : zFW RX1 37 0 0 := ⟨RX0, TX0, 9, by decide, rfl, by decide, zu_X0, zGT_in 198 (by decide +kernel) rfl⟩
theorem zbi_m4 : (Int8.ofInt (-4)).toInt32 = (-4 : Int32) := by decide +kernel
theorem zc_X5_52 : zCV RX5 52 yX5_slipped cX5_slipped 6 (some .int) 5 3 := by
  refine ⟨RX5, Or.inl ⟨by decide, TX5, 10, rfl⟩, ?_, rfl, by decide +kernel, by decide +kernel, by decide +kernel⟩
  exact zV5 (zGT_in 881 (by decide +kernel) rfl) (zGT_in 883 (by decide +kernel) rfl) (zGT_in 15 (by decide +kernel) rfl) (zGT_in 27 (by decide +kernel) rfl) (zGT_in 884 (by decide +kernel) rfl)
theorem zc_X5_44 : zCV RX5 44 yX5_piles cX5_piles 1 (some .int) 5 0 := by
  refine ⟨RX5, Or.inl ⟨by decide, TX5, 10, rfl⟩, ?_, rfl, by decide +kernel, by decide +kernel, by decide +kernel⟩
  exact zV5 (zGT_in 880 (by decide +kernel) rfl) (zGT_in 765 (by decide +kernel) rfl) (zGT_in 766 (by decide +kernel) rfl) (zGT_in 27 (by decide +kernel) rfl) (zGT_in 767 (by decide +kernel) rfl)
theorem zf_X1_43 : zFW RX1 43 0 3 := ⟨RX0, TX0, 9, by decide, rfl, by decide, zu_X0, zGT_in 208 (by decide +kernel) rfl⟩
theorem zf_X1_46 : zFW RX1 46 0 7 := ⟨RX0, TX0, 9, by decide, rfl, by decide, zu_X0, zGT_in 216 (by decide +kernel) rfl⟩
theorem zc_X1_49 : zCV RX1 49 yX5_piles cX5_piles 1 (some .int) 5 0 := by
  refine ⟨RX5, Or.inl ⟨by decide, TX5, 10, rfl⟩, ?_, rfl, by decide +kernel, by decide +kernel, by decide +kernel⟩
  exact zV5 (zGT_in 875 (by decide +kernel) rfl) (zGT_in 765 (by decide +kernel) rfl) (zGT_in 766 (by decide +kernel) rfl) (zGT_in 27 (by decide +kernel) rfl) (zGT_in 767 (by decide +kernel) rfl)
theorem zf_X1_53 : zFW RX1 53 0 8 := ⟨RX0, TX0, 9, by decide, rfl, by decide, zu_X0, zGT_in 219 (by decide +kernel) rfl⟩
theorem zc_X1_56 : zCV RX1 56 yX5_wouldFind cX5_wouldFind 6 (some .int) 5 3 := by
  refine ⟨RX5, Or.inl ⟨by decide, TX5, 10, rfl⟩, ?_, rfl, by decide +kernel, by decide +kernel, by decide +kernel⟩
  exact zV5 (zGT_in 876 (by decide +kernel) rfl) (zGT_in 877 (by decide +kernel) rfl) (zGT_in 878 (by decide +kernel) rfl) (zGT_in 27 (by decide +kernel) rfl) (zGT_in 879 (by decide +kernel) rfl)
theorem zp_X1_43 : zPW RX1 43 0 3 .int := ⟨RX0, TX0, 9, tyX0, ⟨by decide, rfl, by decide, zu_X0, zGT_in 208 (by decide +kernel) rfl⟩, tyX0_ok, nmX0, rfl, by decide +kernel⟩
theorem zc_X1_60 : zCV RX1 60 yX0_chooseValid cX0_chooseValid 3 none 0 1 := by
  refine ⟨RX0, Or.inl ⟨by decide, TX0, 9, rfl⟩, ?_, rfl, by decide +kernel, by decide +kernel, by decide +kernel⟩
  exact zV5 (zGT_in 885 (by decide +kernel) rfl) (zGT_in 886 (by decide +kernel) rfl) (zGT_in 887 (by decide +kernel) rfl) (zGT_in 30 (by decide +kernel) rfl) (zGT_in 888 (by decide +kernel) rfl)
theorem zc_X1_79 : zCV RX1 79 yX0_bearsGoodSeal cX0_bearsGoodSeal 1 (some .boolean) 0 0 := by
  refine ⟨RX0, Or.inl ⟨by decide, TX0, 9, rfl⟩, ?_, rfl, by decide +kernel, by decide +kernel, by decide +kernel⟩
  exact zV5 (zGT_in 1007 (by decide +kernel) rfl) (zGT_in 856 (by decide +kernel) rfl) (zGT_in 857 (by decide +kernel) rfl) (zGT_in 30 (by decide +kernel) rfl) (zGT_in 858 (by decide +kernel) rfl)
theorem zc_X1_75 : zCV RX1 75 yX0_wasCountedAt cX0_wasCountedAt 3 (some .boolean) 0 1 := by
  refine ⟨RX0, Or.inl ⟨by decide, TX0, 9, rfl⟩, ?_, rfl, by decide +kernel, by decide +kernel, by decide +kernel⟩
  exact zV5 (zGT_in 1003 (by decide +kernel) rfl) (zGT_in 1004 (by decide +kernel) rfl) (zGT_in 1005 (by decide +kernel) rfl) (zGT_in 30 (by decide +kernel) rfl) (zGT_in 1006 (by decide +kernel) rfl)
theorem zc_X1_64 : zCV RX1 64 yX1_boxOn cX1_boxOn 3 (some .int) 1 1 := by
  refine ⟨RX1, Or.inl ⟨by decide, TX1, 2, rfl⟩, ?_, rfl, by decide +kernel, by decide +kernel, by decide +kernel⟩
  exact zV5 (zGT_in 998 (by decide +kernel) rfl) (zGT_in 848 (by decide +kernel) rfl) (zGT_in 849 (by decide +kernel) rfl) (zGT_in 28 (by decide +kernel) rfl) (zGT_in 850 (by decide +kernel) rfl)
theorem zc_X1_72 : zCV RX1 72 yX0_openOn cX0_openOn 3 (some .int) 0 1 := by
  refine ⟨RX0, Or.inl ⟨by decide, TX0, 9, rfl⟩, ?_, rfl, by decide +kernel, by decide +kernel, by decide +kernel⟩
  exact zV5 (zGT_in 1008 (by decide +kernel) rfl) (zGT_in 864 (by decide +kernel) rfl) (zGT_in 865 (by decide +kernel) rfl) (zGT_in 30 (by decide +kernel) rfl) (zGT_in 866 (by decide +kernel) rfl)
theorem zc_X1_68 : zCV RX1 68 yX1_boxFor cX1_boxFor 6 (some .int) 1 2 := by
  refine ⟨RX1, Or.inl ⟨by decide, TX1, 2, rfl⟩, ?_, rfl, by decide +kernel, by decide +kernel, by decide +kernel⟩
  exact zV5 (zGT_in 999 (by decide +kernel) rfl) (zGT_in 1001 (by decide +kernel) rfl) (zGT_in 20 (by decide +kernel) rfl) (zGT_in 28 (by decide +kernel) rfl) (zGT_in 1002 (by decide +kernel) rfl)
theorem zf_X6_55 : zFW RX6 55 0 1 := ⟨RX0, TX0, 9, by decide, rfl, by decide, zu_X0, zGT_in 202 (by decide +kernel) rfl⟩
theorem zp_X6_55 : zPW RX6 55 0 1 .int := ⟨RX0, TX0, 9, tyX0, ⟨by decide, rfl, by decide, zu_X0, zGT_in 202 (by decide +kernel) rfl⟩, tyX0_ok, nmX0, rfl, by decide +kernel⟩
theorem zc_X6_58 : zCV RX6 58 yX0_enter cX0_enter 2 none 0 1 := by
  refine ⟨RX0, Or.inl ⟨by decide, TX0, 9, rfl⟩, ?_, rfl, by decide +kernel, by decide +kernel, by decide +kernel⟩
  exact zV5 (zGT_in 909 (by decide +kernel) rfl) (zGT_in 804 (by decide +kernel) rfl) (zGT_in 805 (by decide +kernel) rfl) (zGT_in 30 (by decide +kernel) rfl) (zGT_in 806 (by decide +kernel) rfl)
theorem zf_X6_61 : zFW RX6 61 0 0 := ⟨RX0, TX0, 9, by decide, rfl, by decide, zu_X0, zGT_in 199 (by decide +kernel) rfl⟩
theorem zp_X6_61 : zPW RX6 61 0 0 .int := ⟨RX0, TX0, 9, tyX0, ⟨by decide, rfl, by decide, zu_X0, zGT_in 199 (by decide +kernel) rfl⟩, tyX0_ok, nmX0, rfl, by decide +kernel⟩
theorem zc_X1_83 : zCV RX1 83 yX1_addCount cX1_addCount 6 none 1 2 := by
  refine ⟨RX1, Or.inl ⟨by decide, TX1, 2, rfl⟩, ?_, rfl, by decide +kernel, by decide +kernel, by decide +kernel⟩
  exact zV5 (zGT_in 1013 (by decide +kernel) rfl) (zGT_in 872 (by decide +kernel) rfl) (zGT_in 873 (by decide +kernel) rfl) (zGT_in 28 (by decide +kernel) rfl) (zGT_in 874 (by decide +kernel) rfl)
theorem zf_X1_87 : zFW RX1 87 0 2 := ⟨RX0, TX0, 9, by decide, rfl, by decide, zu_X0, zGT_in 205 (by decide +kernel) rfl⟩
theorem zc_X1_90 : zCV RX1 90 yX6_sealUp cX6_sealUp 3 none 6 1 := by
  refine ⟨RX6, Or.inl ⟨by decide, TX6, 5, rfl⟩, ?_, rfl, by decide +kernel, by decide +kernel, by decide +kernel⟩
  exact zV5 (zGT_in 1014 (by decide +kernel) rfl) (zGT_in 906 (by decide +kernel) rfl) (zGT_in 907 (by decide +kernel) rfl) (zGT_in 29 (by decide +kernel) rfl) (zGT_in 908 (by decide +kernel) rfl)
theorem zc_X1_93 : zCV RX1 93 yX0_foundValidly cX0_foundValidly 2 (some .int) 0 1 := by
  refine ⟨RX0, Or.inl ⟨by decide, TX0, 9, rfl⟩, ?_, rfl, by decide +kernel, by decide +kernel, by decide +kernel⟩
  exact zV5 (zGT_in 936 (by decide +kernel) rfl) (zGT_in 937 (by decide +kernel) rfl) (zGT_in 938 (by decide +kernel) rfl) (zGT_in 30 (by decide +kernel) rfl) (zGT_in 939 (by decide +kernel) rfl)
theorem zf_X1_96 : zFW RX1 96 5 5 := ⟨RX5, TX5, 10, by decide, rfl, by decide, zu_X5, zGT_in 124 (by decide +kernel) rfl⟩
theorem zc_X1_99 : zCV RX1 99 yX1_papersTooMany cX1_papersTooMany 5 (some .int) 1 1 := by
  refine ⟨RX1, Or.inl ⟨by decide, TX1, 2, rfl⟩, ?_, rfl, by decide +kernel, by decide +kernel, by decide +kernel⟩
  exact zV5 (zGT_in 953 (by decide +kernel) rfl) (zGT_in 954 (by decide +kernel) rfl) (zGT_in 955 (by decide +kernel) rfl) (zGT_in 28 (by decide +kernel) rfl) (zGT_in 956 (by decide +kernel) rfl)
theorem zm_X1_102 : zMW RX1 102 Lib.Math.abs.name Lib.Math.abs.code 1 := ⟨zGT_in 957 (by decide +kernel) rfl, zGT_in 958 (by decide +kernel) rfl, zGT_in 37 (by decide +kernel) rfl, zGT_in 959 (by decide +kernel) rfl⟩
theorem zf_X1_107 : zFW RX1 107 6 1 := ⟨RX6, TX6, 5, by decide, rfl, by decide, zu_X6, zGT_in 244 (by decide +kernel) rfl⟩
theorem zf_X1_138 : zFW RX1 138 5 4 := ⟨RX5, TX5, 10, by decide, rfl, by decide, zu_X5, zGT_in 122 (by decide +kernel) rfl⟩
theorem zc_X1_141 : zCV RX1 141 yX1_foundInWard cX1_foundInWard 5 (some .int) 1 2 := by
  refine ⟨RX1, Or.inl ⟨by decide, TX1, 2, rfl⟩, ?_, rfl, by decide +kernel, by decide +kernel, by decide +kernel⟩
  exact zV5 (zGT_in 932 (by decide +kernel) rfl) (zGT_in 933 (by decide +kernel) rfl) (zGT_in 934 (by decide +kernel) rfl) (zGT_in 28 (by decide +kernel) rfl) (zGT_in 935 (by decide +kernel) rfl)
theorem zm_X1_144 : zMW RX1 144 Lib.Math.min.name Lib.Math.min.code 2 := ⟨zGT_in 968 (by decide +kernel) rfl, zGT_in 383 (by decide +kernel) rfl, zGT_in 37 (by decide +kernel) rfl, zGT_in 384 (by decide +kernel) rfl⟩
theorem zm_X1_147 : zMW RX1 147 Lib.Math.max.name Lib.Math.max.code 2 := ⟨zGT_in 969 (by decide +kernel) rfl, zGT_in 365 (by decide +kernel) rfl, zGT_in 37 (by decide +kernel) rfl, zGT_in 366 (by decide +kernel) rfl⟩
theorem zc_X1_150 : zCV RX1 150 yX1_lead cX1_lead 6 (some .int) 1 1 := by
  refine ⟨RX1, Or.inl ⟨by decide, TX1, 2, rfl⟩, ?_, rfl, by decide +kernel, by decide +kernel, by decide +kernel⟩
  exact zV5 (zGT_in 964 (by decide +kernel) rfl) (zGT_in 965 (by decide +kernel) rfl) (zGT_in 966 (by decide +kernel) rfl) (zGT_in 28 (by decide +kernel) rfl) (zGT_in 967 (by decide +kernel) rfl)
theorem zf_X1_153 : zFW RX1 153 6 3 := ⟨RX6, TX6, 5, by decide, rfl, by decide, zu_X6, zGT_in 249 (by decide +kernel) rfl⟩
theorem zf_X1_156 : zFW RX1 156 6 2 := ⟨RX6, TX6, 5, by decide, rfl, by decide, zu_X6, zGT_in 246 (by decide +kernel) rfl⟩
theorem zc_X1_159 : zCV RX1 159 yX1_isWardDeclared cX1_isWardDeclared 3 (some .boolean) 1 1 := by
  refine ⟨RX1, Or.inl ⟨by decide, TX1, 2, rfl⟩, ?_, rfl, by decide +kernel, by decide +kernel, by decide +kernel⟩
  exact zV5 (zGT_in 948 (by decide +kernel) rfl) (zGT_in 852 (by decide +kernel) rfl) (zGT_in 853 (by decide +kernel) rfl) (zGT_in 28 (by decide +kernel) rfl) (zGT_in 854 (by decide +kernel) rfl)
theorem zc_X1_162 : zCV RX1 162 yX1_isBoxOff cX1_isBoxOff 2 (some .boolean) 1 1 := by
  refine ⟨RX1, Or.inl ⟨by decide, TX1, 2, rfl⟩, ?_, rfl, by decide +kernel, by decide +kernel, by decide +kernel⟩
  exact zV5 (zGT_in 949 (by decide +kernel) rfl) (zGT_in 950 (by decide +kernel) rfl) (zGT_in 951 (by decide +kernel) rfl) (zGT_in 28 (by decide +kernel) rfl) (zGT_in 952 (by decide +kernel) rfl)
theorem zf_X1_121 : zFW RX1 121 0 5 := ⟨RX0, TX0, 9, by decide, rfl, by decide, zu_X0, zGT_in 212 (by decide +kernel) rfl⟩
theorem zc_X1_165 : zCV RX1 165 yX1_isWardClose cX1_isWardClose 4 (some .boolean) 1 1 := by
  refine ⟨RX1, Or.inl ⟨by decide, TX1, 2, rfl⟩, ?_, rfl, by decide +kernel, by decide +kernel, by decide +kernel⟩
  exact zV5 (zGT_in 960 (by decide +kernel) rfl) (zGT_in 961 (by decide +kernel) rfl) (zGT_in 962 (by decide +kernel) rfl) (zGT_in 28 (by decide +kernel) rfl) (zGT_in 963 (by decide +kernel) rfl)
theorem zc_X1_168 : zCV RX1 168 yX1_mustBeCounted cX1_mustBeCounted 4 (some .boolean) 1 1 := by
  refine ⟨RX1, Or.inl ⟨by decide, TX1, 2, rfl⟩, ?_, rfl, by decide +kernel, by decide +kernel, by decide +kernel⟩
  exact zV5 (zGT_in 990 (by decide +kernel) rfl) (zGT_in 992 (by decide +kernel) rfl) (zGT_in 19 (by decide +kernel) rfl) (zGT_in 28 (by decide +kernel) rfl) (zGT_in 993 (by decide +kernel) rfl)
theorem zc_X1_171 : zCV RX1 171 yX1_foundInAll cX1_foundInAll 4 (some .int) 1 1 := by
  refine ⟨RX1, Or.inl ⟨by decide, TX1, 2, rfl⟩, ?_, rfl, by decide +kernel, by decide +kernel, by decide +kernel⟩
  exact zV5 (zGT_in 928 (by decide +kernel) rfl) (zGT_in 930 (by decide +kernel) rfl) (zGT_in 18 (by decide +kernel) rfl) (zGT_in 28 (by decide +kernel) rfl) (zGT_in 931 (by decide +kernel) rfl)
theorem zc_X1_174 : zCV RX1 174 yX1_reasonAgainst cX1_reasonAgainst 9 (some .int) 1 1 := by
  refine ⟨RX1, Or.inl ⟨by decide, TX1, 2, rfl⟩, ?_, rfl, by decide +kernel, by decide +kernel, by decide +kernel⟩
  exact zV5 (zGT_in 944 (by decide +kernel) rfl) (zGT_in 945 (by decide +kernel) rfl) (zGT_in 946 (by decide +kernel) rfl) (zGT_in 28 (by decide +kernel) rfl) (zGT_in 947 (by decide +kernel) rfl)
theorem zo_X2_3 : zOI RX2 3 := ⟨zGT_in 277 (by decide +kernel) rfl, zGT_in 63 (by decide +kernel) rfl, zGT_in 64 (by decide +kernel) rfl⟩
theorem zal_X2_9 : Cond.classLink RX2 9 "CountHall$State" ∈ zGT := zGT_in 278 (by decide +kernel) rfl
theorem zu_X2 : ∀ w ∈ u_ws RX2 TX2 2, w ∈ zGT := fun w h => zGT_of ((by decide +kernel : ∀ w ∈ u_ws RX2 TX2 2, w ∈ lw_tbl) w h) ((by decide +kernel : ∀ w ∈ u_ws RX2 TX2 2, goodWord w = true) w h)
theorem zf_X2_11 : zFW RX2 11 2 0 := ⟨RX2, TX2, 2, by decide, rfl, by decide, zu_X2, zGT_in 281 (by decide +kernel) rfl⟩
theorem zpf_X2_11 : zPF RX2 11 2 0 (.array (.object "CountHall$State")) := ⟨RX2, TX2, 2, tyX2, ⟨by decide, rfl, by decide, zu_X2, zGT_in 281 (by decide +kernel) rfl⟩, tyX2_ok, nmX2, rfl, rfl, by decide +kernel⟩
theorem za_X2_9 : zAW RX2 9 6 [.null, .null, .null, .int 0, .int 0] := ⟨RX6, TX6, 5, tyX6, by decide, rfl, rfl, zu_X6, tyX6_ok, (fun j hj => by rcases (show j = 0 ∨ j = 1 ∨ j = 2 ∨ j = 3 ∨ j = 4 by omega) with rfl | rfl | rfl | rfl | rfl <;> rfl), zGT_in 278 (by decide +kernel) rfl, zGT_in 185 (by decide +kernel) rfl, zGT_in 29 (by decide +kernel) rfl⟩
theorem zci_X2_17 : zCI RX2 17 yX6_init cX6_init 2 0 := ⟨zGT_in 280 (by decide +kernel) rfl, zGT_in 187 (by decide +kernel) rfl, zGT_in 29 (by decide +kernel) rfl, zGT_in 188 (by decide +kernel) rfl, by decide +kernel, by decide +kernel, by decide +kernel, by decide +kernel⟩
theorem zbi_9 : (Int8.ofInt (9)).toInt32 = (9 : Int32) := by decide +kernel
theorem zf_X2_18 : zFW RX2 18 2 1 := ⟨RX2, TX2, 2, by decide, rfl, by decide, zu_X2, zGT_in 282 (by decide +kernel) rfl⟩
theorem zp_X2_18 : zPW RX2 18 2 1 .int := ⟨RX2, TX2, 2, tyX2, ⟨by decide, rfl, by decide, zu_X2, zGT_in 282 (by decide +kernel) rfl⟩, tyX2_ok, nmX2, rfl, by decide +kernel⟩
theorem zc_X6_51 : zCV RX6 51 yX0_copyFrom cX0_copyFrom 2 none 0 1 := by
  refine ⟨RX0, Or.inl ⟨by decide, TX0, 9, rfl⟩, ?_, rfl, by decide +kernel, by decide +kernel, by decide +kernel⟩
  exact zV5 (zGT_in 834 (by decide +kernel) rfl) (zGT_in 835 (by decide +kernel) rfl) (zGT_in 836 (by decide +kernel) rfl) (zGT_in 30 (by decide +kernel) rfl) (zGT_in 837 (by decide +kernel) rfl)
theorem zc_X2_25 : zCV RX2 25 yX6_copyFrom cX6_copyFrom 3 none 6 1 := by
  refine ⟨RX6, Or.inl ⟨by decide, TX6, 5, rfl⟩, ?_, rfl, by decide +kernel, by decide +kernel, by decide +kernel⟩
  exact zV5 (zGT_in 830 (by decide +kernel) rfl) (zGT_in 831 (by decide +kernel) rfl) (zGT_in 832 (by decide +kernel) rfl) (zGT_in 29 (by decide +kernel) rfl) (zGT_in 833 (by decide +kernel) rfl)
theorem zc_X2_22 : zCV RX2 22 yX2_forgetOldest cX2_forgetOldest 3 none 2 0 := by
  refine ⟨RX2, Or.inl ⟨by decide, TX2, 2, rfl⟩, ?_, rfl, by decide +kernel, by decide +kernel, by decide +kernel⟩
  exact zV5 (zGT_in 826 (by decide +kernel) rfl) (zGT_in 828 (by decide +kernel) rfl) (zGT_in 14 (by decide +kernel) rfl) (zGT_in 31 (by decide +kernel) rfl) (zGT_in 829 (by decide +kernel) rfl)
theorem zo_X3_3 : zOI RX3 3 := ⟨zGT_in 76 (by decide +kernel) rfl, zGT_in 63 (by decide +kernel) rfl, zGT_in 64 (by decide +kernel) rfl⟩
theorem zsi_900 : (Int16.ofInt (900)).toInt32 = (900 : Int32) := by decide +kernel
theorem zu_X3 : ∀ w ∈ u_ws RX3 TX3 6, w ∈ zGT := fun w h => zGT_of ((by decide +kernel : ∀ w ∈ u_ws RX3 TX3 6, w ∈ lw_tbl) w h) ((by decide +kernel : ∀ w ∈ u_ws RX3 TX3 6, goodWord w = true) w h)
theorem zf_X3_9 : zFW RX3 9 3 0 := ⟨RX3, TX3, 6, by decide, rfl, by decide, zu_X3, zGT_in 77 (by decide +kernel) rfl⟩
theorem zpf_X3_9 : zPF RX3 9 3 0 (.array .byte) := ⟨RX3, TX3, 6, tyX3, ⟨by decide, rfl, by decide, zu_X3, zGT_in 77 (by decide +kernel) rfl⟩, tyX3_ok, nmX3, rfl, rfl, by decide +kernel⟩
theorem zf_X3_15 : zFW RX3 15 3 1 := ⟨RX3, TX3, 6, by decide, rfl, by decide, zu_X3, zGT_in 78 (by decide +kernel) rfl⟩
theorem zi_m8 : Int32.ofInt (-8) = (-8 : Int32) := by decide +kernel
theorem zp_X3_15 : zPW RX3 15 3 1 .int := ⟨RX3, TX3, 6, tyX3, ⟨by decide, rfl, by decide, zu_X3, zGT_in 78 (by decide +kernel) rfl⟩, tyX3_ok, nmX3, rfl, by decide +kernel⟩
theorem zbi_32 : (Int8.ofInt (32)).toInt32 = (32 : Int32) := by decide +kernel
theorem zbi_97 : (Int8.ofInt (97)).toInt32 = (97 : Int32) := by decide +kernel
theorem zbi_48 : (Int8.ofInt (48)).toInt32 = (48 : Int32) := by decide +kernel
theorem zbi_59 : (Int8.ofInt (59)).toInt32 = (59 : Int32) := by decide +kernel
theorem zbi_57 : (Int8.ofInt (57)).toInt32 = (57 : Int32) := by decide +kernel
theorem zbi_122 : (Int8.ofInt (122)).toInt32 = (122 : Int32) := by decide +kernel
theorem zf_X3_28 : zFW RX3 28 3 5 := ⟨RX3, TX3, 6, by decide, rfl, by decide, zu_X3, zGT_in 85 (by decide +kernel) rfl⟩
theorem zf_X3_34 : zFW RX3 34 3 4 := ⟨RX3, TX3, 6, by decide, rfl, by decide, zu_X3, zGT_in 84 (by decide +kernel) rfl⟩
theorem zp_X3_34 : zPW RX3 34 3 4 .int := ⟨RX3, TX3, 6, tyX3, ⟨by decide, rfl, by decide, zu_X3, zGT_in 84 (by decide +kernel) rfl⟩, tyX3_ok, nmX3, rfl, by decide +kernel⟩
theorem zf_X3_25 : zFW RX3 25 3 2 := ⟨RX3, TX3, 6, by decide, rfl, by decide, zu_X3, zGT_in 80 (by decide +kernel) rfl⟩
theorem zs_X3_37 : zCS RX3 37 yX3_isBlank cX3_isBlank 1 (some .boolean) 1 := by
  refine ⟨?_, by decide +kernel, by decide +kernel, by decide +kernel⟩
  exact zS4 (zGT_in 677 (by decide +kernel) rfl) (zGT_in 678 (by decide +kernel) rfl) (zGT_in 26 (by decide +kernel) rfl) (zGT_in 679 (by decide +kernel) rfl)
theorem zf_X3_45 : zFW RX3 45 3 3 := ⟨RX3, TX3, 6, by decide, rfl, by decide, zu_X3, zGT_in 82 (by decide +kernel) rfl⟩
theorem zp_X3_45 : zPW RX3 45 3 3 .int := ⟨RX3, TX3, 6, tyX3, ⟨by decide, rfl, by decide, zu_X3, zGT_in 82 (by decide +kernel) rfl⟩, tyX3_ok, nmX3, rfl, by decide +kernel⟩
theorem zp_X3_28 : zPW RX3 28 3 5 .int := ⟨RX3, TX3, 6, tyX3, ⟨by decide, rfl, by decide, zu_X3, zGT_in 85 (by decide +kernel) rfl⟩, tyX3_ok, nmX3, rfl, by decide +kernel⟩
theorem zs_X3_41 : zCS RX3 41 yX3_kindOf cX3_kindOf 1 (some .int) 1 := by
  refine ⟨?_, by decide +kernel, by decide +kernel, by decide +kernel⟩
  exact zS4 (zGT_in 680 (by decide +kernel) rfl) (zGT_in 681 (by decide +kernel) rfl) (zGT_in 26 (by decide +kernel) rfl) (zGT_in 682 (by decide +kernel) rfl)
theorem zm_X3_19 : zMW RX3 19 Lib.Math.min.name Lib.Math.min.code 2 := ⟨zGT_in 672 (by decide +kernel) rfl, zGT_in 383 (by decide +kernel) rfl, zGT_in 37 (by decide +kernel) rfl, zGT_in 384 (by decide +kernel) rfl⟩
theorem zp_X3_25 : zPW RX3 25 3 2 .int := ⟨RX3, TX3, 6, tyX3, ⟨by decide, rfl, by decide, zu_X3, zGT_in 80 (by decide +kernel) rfl⟩, tyX3_ok, nmX3, rfl, by decide +kernel⟩
theorem zc_X3_31 : zCV RX3 31 yX3_next cX3_next 2 none 3 0 := by
  refine ⟨RX3, Or.inl ⟨by decide, TX3, 6, rfl⟩, ?_, rfl, by decide +kernel, by decide +kernel, by decide +kernel⟩
  exact zV5 (zGT_in 673 (by decide +kernel) rfl) (zGT_in 674 (by decide +kernel) rfl) (zGT_in 675 (by decide +kernel) rfl) (zGT_in 26 (by decide +kernel) rfl) (zGT_in 676 (by decide +kernel) rfl)
theorem zc_X3_48 : zCV RX3 48 yJ0_length_8abf5 cJ0_length_8abf5 1 (some .int) 20 0 := by
  refine ⟨RJ0, Or.inr ⟨rfl, rfl⟩, ?_, rfl, by decide +kernel, by decide +kernel, by decide +kernel⟩
  exact zV5 (zGT_in 692 (by decide +kernel) rfl) (zGT_in 420 (by decide +kernel) rfl) (zGT_in 421 (by decide +kernel) rfl) (zGT_in 34 (by decide +kernel) rfl) (zGT_in 422 (by decide +kernel) rfl)
theorem zc_X3_53 : zCV RX3 53 yJ0_charAt_5068e cJ0_charAt_5068e 2 (some .char) 20 1 := by
  refine ⟨RJ0, Or.inr ⟨rfl, rfl⟩, ?_, rfl, by decide +kernel, by decide +kernel, by decide +kernel⟩
  exact zV5 (zGT_in 693 (by decide +kernel) rfl) (zGT_in 634 (by decide +kernel) rfl) (zGT_in 635 (by decide +kernel) rfl) (zGT_in 34 (by decide +kernel) rfl) (zGT_in 636 (by decide +kernel) rfl)
theorem zc_X3_59 : zCV RX3 59 yX3_spells cX3_spells 3 (some .boolean) 3 1 := by
  refine ⟨RX3, Or.inl ⟨by decide, TX3, 6, rfl⟩, ?_, rfl, by decide +kernel, by decide +kernel, by decide +kernel⟩
  exact zV5 (zGT_in 712 (by decide +kernel) rfl) (zGT_in 689 (by decide +kernel) rfl) (zGT_in 690 (by decide +kernel) rfl) (zGT_in 26 (by decide +kernel) rfl) (zGT_in 691 (by decide +kernel) rfl)
theorem zk_X3_75 : Cond.constant RX3 75 (99999 : Int32) ∈ zGT := zGT_in 759 (by decide +kernel) rfl
theorem zo_X4_3 : zOI RX4 3 := ⟨zGT_in 70 (by decide +kernel) rfl, zGT_in 63 (by decide +kernel) rfl, zGT_in 64 (by decide +kernel) rfl⟩
theorem za_X4_9 : zAW RX4 9 3 [.null, .int 0, .int 0, .int 0, .int 0, .int 0] := ⟨RX3, TX3, 6, tyX3, by decide, rfl, rfl, zu_X3, tyX3_ok, (fun j hj => by rcases (show j = 0 ∨ j = 1 ∨ j = 2 ∨ j = 3 ∨ j = 4 ∨ j = 5 by omega) with rfl | rfl | rfl | rfl | rfl | rfl <;> rfl), zGT_in 71 (by decide +kernel) rfl, zGT_in 72 (by decide +kernel) rfl, zGT_in 26 (by decide +kernel) rfl⟩
theorem zci_X4_11 : zCIN RX4 11 yX3_init cX3_init 1 0 "CountHall" := ⟨by decide +kernel, zGT_in 74 (by decide +kernel) rfl, zGT_in 26 (by decide +kernel) rfl, zGT_in 75 (by decide +kernel) rfl, by decide +kernel, by decide +kernel, by decide +kernel, by decide +kernel⟩
theorem zu_X4 : ∀ w ∈ u_ws RX4 TX4 4, w ∈ zGT := fun w h => zGT_of ((by decide +kernel : ∀ w ∈ u_ws RX4 TX4 4, w ∈ lw_tbl) w h) ((by decide +kernel : ∀ w ∈ u_ws RX4 TX4 4, goodWord w = true) w h)
theorem zf_X4_12 : zFW RX4 12 4 0 := ⟨RX4, TX4, 4, by decide, rfl, by decide, zu_X4, zGT_in 161 (by decide +kernel) rfl⟩
theorem zpf_X4_12 : zPF RX4 12 4 0 (.object "CountHall$Input") := ⟨RX4, TX4, 4, tyX4, ⟨by decide, rfl, by decide, zu_X4, zGT_in 161 (by decide +kernel) rfl⟩, tyX4_ok, nmX4, rfl, rfl, by decide +kernel⟩
theorem za_X4_18 : zAW RX4 18 5 [.null, .null, .null, .null, .null, .null, .null, .null, .null, .null] := ⟨RX5, TX5, 10, tyX5, by decide, rfl, rfl, zu_X5, tyX5_ok, (fun j hj => by rcases (show j = 0 ∨ j = 1 ∨ j = 2 ∨ j = 3 ∨ j = 4 ∨ j = 5 ∨ j = 6 ∨ j = 7 ∨ j = 8 ∨ j = 9 by omega) with rfl | rfl | rfl | rfl | rfl | rfl | rfl | rfl | rfl | rfl <;> rfl), zGT_in 100 (by decide +kernel) rfl, zGT_in 101 (by decide +kernel) rfl, zGT_in 27 (by decide +kernel) rfl⟩
theorem zci_X4_20 : zCIN RX4 20 yX5_init cX5_init 1 0 "CountHall" := ⟨by decide +kernel, zGT_in 103 (by decide +kernel) rfl, zGT_in 27 (by decide +kernel) rfl, zGT_in 104 (by decide +kernel) rfl, by decide +kernel, by decide +kernel, by decide +kernel, by decide +kernel⟩
theorem zf_X4_21 : zFW RX4 21 4 1 := ⟨RX4, TX4, 4, by decide, rfl, by decide, zu_X4, zGT_in 163 (by decide +kernel) rfl⟩
theorem zp_X4_21 : zPW RX4 21 4 1 (.object "CountHall$Plan") := ⟨RX4, TX4, 4, tyX4, ⟨by decide, rfl, by decide, zu_X4, zGT_in 163 (by decide +kernel) rfl⟩, tyX4_ok, nmX4, rfl, by decide +kernel⟩
theorem zf_X4_25 : zFW RX4 25 4 3 := ⟨RX4, TX4, 4, by decide, rfl, by decide, zu_X4, zGT_in 165 (by decide +kernel) rfl⟩
theorem zp_X4_25 : zPW RX4 25 4 3 .int := ⟨RX4, TX4, 4, tyX4, ⟨by decide, rfl, by decide, zu_X4, zGT_in 165 (by decide +kernel) rfl⟩, tyX4_ok, nmX4, rfl, by decide +kernel⟩
theorem zf_X4_89 : zFW RX4 89 5 0 := ⟨RX5, TX5, 10, by decide, rfl, by decide, zu_X5, zGT_in 112 (by decide +kernel) rfl⟩
theorem zc_X4_52 : zCV RX4 52 yX3_next cX3_next 2 none 3 0 := by
  refine ⟨RX3, Or.inl ⟨by decide, TX3, 6, rfl⟩, ?_, rfl, by decide +kernel, by decide +kernel, by decide +kernel⟩
  exact zV5 (zGT_in 706 (by decide +kernel) rfl) (zGT_in 674 (by decide +kernel) rfl) (zGT_in 675 (by decide +kernel) rfl) (zGT_in 26 (by decide +kernel) rfl) (zGT_in 676 (by decide +kernel) rfl)
theorem zbi_m15 : (Int8.ofInt (-15)).toInt32 = (-15 : Int32) := by decide +kernel
theorem zc_X4_134 : zCV RX4 134 yX4_beginThing cX4_beginThing 3 (some .int) 4 2 := by
  refine ⟨RX4, Or.inl ⟨by decide, TX4, 4, rfl⟩, ?_, rfl, by decide +kernel, by decide +kernel, by decide +kernel⟩
  exact zV5 (zGT_in 702 (by decide +kernel) rfl) (zGT_in 704 (by decide +kernel) rfl) (zGT_in 3 (by decide +kernel) rfl) (zGT_in 25 (by decide +kernel) rfl) (zGT_in 705 (by decide +kernel) rfl)
theorem zc_X4_150 : zCV RX4 150 yX3_isName cX3_isName 2 (some .boolean) 3 0 := by
  refine ⟨RX3, Or.inl ⟨by decide, TX3, 6, rfl⟩, ?_, rfl, by decide +kernel, by decide +kernel, by decide +kernel⟩
  exact zV5 (zGT_in 707 (by decide +kernel) rfl) (zGT_in 708 (by decide +kernel) rfl) (zGT_in 709 (by decide +kernel) rfl) (zGT_in 26 (by decide +kernel) rfl) (zGT_in 710 (by decide +kernel) rfl)
theorem zc_X4_154 : zCV RX4 154 yX3_packed cX3_packed 4 (some .int) 3 0 := by
  refine ⟨RX3, Or.inl ⟨by decide, TX3, 6, rfl⟩, ?_, rfl, by decide +kernel, by decide +kernel, by decide +kernel⟩
  exact zV5 (zGT_in 719 (by decide +kernel) rfl) (zGT_in 720 (by decide +kernel) rfl) (zGT_in 721 (by decide +kernel) rfl) (zGT_in 26 (by decide +kernel) rfl) (zGT_in 722 (by decide +kernel) rfl)
theorem zc_X4_157 : zCV RX4 157 yX5_find cX5_find 4 (some .int) 5 2 := by
  refine ⟨RX5, Or.inl ⟨by decide, TX5, 10, rfl⟩, ?_, rfl, by decide +kernel, by decide +kernel, by decide +kernel⟩
  exact zV5 (zGT_in 723 (by decide +kernel) rfl) (zGT_in 724 (by decide +kernel) rfl) (zGT_in 725 (by decide +kernel) rfl) (zGT_in 27 (by decide +kernel) rfl) (zGT_in 726 (by decide +kernel) rfl)
theorem zbi_m14 : (Int8.ofInt (-14)).toInt32 = (-14 : Int32) := by decide +kernel
theorem zbi_m11 : (Int8.ofInt (-11)).toInt32 = (-11 : Int32) := by decide +kernel
theorem zf_X4_163 : zFW RX4 163 5 1 := ⟨RX5, TX5, 10, by decide, rfl, by decide, zu_X5, zGT_in 114 (by decide +kernel) rfl⟩
theorem zc_X4_93 : zCV RX4 93 yX4_readNewName cX4_readNewName 5 (some .int) 4 2 := by
  refine ⟨RX4, Or.inl ⟨by decide, TX4, 4, rfl⟩, ?_, rfl, by decide +kernel, by decide +kernel, by decide +kernel⟩
  exact zV5 (zGT_in 698 (by decide +kernel) rfl) (zGT_in 700 (by decide +kernel) rfl) (zGT_in 2 (by decide +kernel) rfl) (zGT_in 25 (by decide +kernel) rfl) (zGT_in 701 (by decide +kernel) rfl)
theorem zc_X4_97 : zCV RX4 97 yX4_add cX4_add 3 (some .int) 4 2 := by
  refine ⟨RX4, Or.inl ⟨by decide, TX4, 4, rfl⟩, ?_, rfl, by decide +kernel, by decide +kernel, by decide +kernel⟩
  exact zV5 (zGT_in 727 (by decide +kernel) rfl) (zGT_in 729 (by decide +kernel) rfl) (zGT_in 4 (by decide +kernel) rfl) (zGT_in 25 (by decide +kernel) rfl) (zGT_in 730 (by decide +kernel) rfl)
theorem zbi_m13 : (Int8.ofInt (-13)).toInt32 = (-13 : Int32) := by decide +kernel
theorem zc_X4_57 : zCV RX4 57 yX3_spells cX3_spells 3 (some .boolean) 3 1 := by
  refine ⟨RX3, Or.inl ⟨by decide, TX3, 6, rfl⟩, ?_, rfl, by decide +kernel, by decide +kernel, by decide +kernel⟩
  exact zV5 (zGT_in 688 (by decide +kernel) rfl) (zGT_in 689 (by decide +kernel) rfl) (zGT_in 690 (by decide +kernel) rfl) (zGT_in 26 (by decide +kernel) rfl) (zGT_in 691 (by decide +kernel) rfl)
theorem zf_X4_106 : zFW RX4 106 5 2 := ⟨RX5, TX5, 10, by decide, rfl, by decide, zu_X5, zGT_in 116 (by decide +kernel) rfl⟩
theorem zc_X4_102 : zCV RX4 102 yX4_readKnownName cX4_readKnownName 3 (some .int) 4 1 := by
  refine ⟨RX4, Or.inl ⟨by decide, TX4, 4, rfl⟩, ?_, rfl, by decide +kernel, by decide +kernel, by decide +kernel⟩
  exact zV5 (zGT_in 737 (by decide +kernel) rfl) (zGT_in 739 (by decide +kernel) rfl) (zGT_in 6 (by decide +kernel) rfl) (zGT_in 25 (by decide +kernel) rfl) (zGT_in 740 (by decide +kernel) rfl)
theorem zf_X4_109 : zFW RX4 109 5 3 := ⟨RX5, TX5, 10, by decide, rfl, by decide, zu_X5, zGT_in 118 (by decide +kernel) rfl⟩
theorem zf_X4_39 : zFW RX4 39 3 3 := ⟨RX3, TX3, 6, by decide, rfl, by decide, zu_X3, zGT_in 81 (by decide +kernel) rfl⟩
theorem zc_X4_160 : zCV RX4 160 yX3_value cX3_value 3 (some .int) 3 0 := by
  refine ⟨RX3, Or.inl ⟨by decide, TX3, 6, rfl⟩, ?_, rfl, by decide +kernel, by decide +kernel, by decide +kernel⟩
  exact zV5 (zGT_in 755 (by decide +kernel) rfl) (zGT_in 756 (by decide +kernel) rfl) (zGT_in 757 (by decide +kernel) rfl) (zGT_in 26 (by decide +kernel) rfl) (zGT_in 758 (by decide +kernel) rfl)
theorem zbi_m12 : (Int8.ofInt (-12)).toInt32 = (-12 : Int32) := by decide +kernel
theorem zc_X4_127 : zCV RX4 127 yX5_piles cX5_piles 1 (some .int) 5 0 := by
  refine ⟨RX5, Or.inl ⟨by decide, TX5, 10, rfl⟩, ?_, rfl, by decide +kernel, by decide +kernel, by decide +kernel⟩
  exact zV5 (zGT_in 764 (by decide +kernel) rfl) (zGT_in 765 (by decide +kernel) rfl) (zGT_in 766 (by decide +kernel) rfl) (zGT_in 27 (by decide +kernel) rfl) (zGT_in 767 (by decide +kernel) rfl)
theorem zsi_300 : (Int16.ofInt (300)).toInt32 = (300 : Int32) := by decide +kernel
theorem zc_X4_112 : zCV RX4 112 yX4_readInteger cX4_readInteger 4 (some .int) 4 2 := by
  refine ⟨RX4, Or.inl ⟨by decide, TX4, 4, rfl⟩, ?_, rfl, by decide +kernel, by decide +kernel, by decide +kernel⟩
  exact zV5 (zGT_in 751 (by decide +kernel) rfl) (zGT_in 753 (by decide +kernel) rfl) (zGT_in 9 (by decide +kernel) rfl) (zGT_in 25 (by decide +kernel) rfl) (zGT_in 754 (by decide +kernel) rfl)
theorem zf_X4_130 : zFW RX4 130 5 7 := ⟨RX5, TX5, 10, by decide, rfl, by decide, zu_X5, zGT_in 131 (by decide +kernel) rfl⟩
theorem zsi_999 : (Int16.ofInt (999)).toInt32 = (999 : Int32) := by decide +kernel
theorem zsi_9999 : (Int16.ofInt (9999)).toInt32 = (9999 : Int32) := by decide +kernel
theorem zf_X4_115 : zFW RX4 115 5 4 := ⟨RX5, TX5, 10, by decide, rfl, by decide, zu_X5, zGT_in 120 (by decide +kernel) rfl⟩
theorem zf_X4_118 : zFW RX4 118 5 5 := ⟨RX5, TX5, 10, by decide, rfl, by decide, zu_X5, zGT_in 125 (by decide +kernel) rfl⟩
theorem zf_X4_121 : zFW RX4 121 5 6 := ⟨RX5, TX5, 10, by decide, rfl, by decide, zu_X5, zGT_in 129 (by decide +kernel) rfl⟩
theorem zc_X4_124 : zCV RX4 124 yX4_readPapers cX4_readPapers 4 (some .int) 4 1 := by
  refine ⟨RX4, Or.inl ⟨by decide, TX4, 4, rfl⟩, ?_, rfl, by decide +kernel, by decide +kernel, by decide +kernel⟩
  exact zV5 (zGT_in 760 (by decide +kernel) rfl) (zGT_in 762 (by decide +kernel) rfl) (zGT_in 10 (by decide +kernel) rfl) (zGT_in 25 (by decide +kernel) rfl) (zGT_in 763 (by decide +kernel) rfl)
theorem zbi_99 : (Int8.ofInt (99)).toInt32 = (99 : Int32) := by decide +kernel
theorem zf_X4_137 : zFW RX4 137 5 8 := ⟨RX5, TX5, 10, by decide, rfl, by decide, zu_X5, zGT_in 134 (by decide +kernel) rfl⟩
theorem zbi_50 : (Int8.ofInt (50)).toInt32 = (50 : Int32) := by decide +kernel
theorem zf_X4_32 : zFW RX4 32 4 2 := ⟨RX4, TX4, 4, by decide, rfl, by decide, zu_X4, zGT_in 164 (by decide +kernel) rfl⟩
theorem zn_X4_144 : zNS RX4 144 yX7_mostOf cX7_mostOf 1 (some .int) 1 "CountHall" := ⟨by decide +kernel, zGT_in 781 (by decide +kernel) rfl, zGT_in 24 (by decide +kernel) rfl, zGT_in 782 (by decide +kernel) rfl, by decide +kernel, by decide +kernel, by decide +kernel⟩
theorem zp_X4_32 : zPW RX4 32 4 2 .int := ⟨RX4, TX4, 4, tyX4, ⟨by decide, rfl, by decide, zu_X4, zGT_in 164 (by decide +kernel) rfl⟩, tyX4_ok, nmX4, rfl, by decide +kernel⟩
theorem zf_X4_147 : zFW RX4 147 5 9 := ⟨RX5, TX5, 10, by decide, rfl, by decide, zu_X5, zGT_in 138 (by decide +kernel) rfl⟩
theorem zc_X4_86 : zCV RX4 86 yX4_readSetting cX4_readSetting 3 (some .int) 4 0 := by
  refine ⟨RX4, Or.inl ⟨by decide, TX4, 4, rfl⟩, ?_, rfl, by decide +kernel, by decide +kernel, by decide +kernel⟩
  exact zV5 (zGT_in 774 (by decide +kernel) rfl) (zGT_in 776 (by decide +kernel) rfl) (zGT_in 12 (by decide +kernel) rfl) (zGT_in 25 (by decide +kernel) rfl) (zGT_in 777 (by decide +kernel) rfl)
theorem zc_X4_81 : zCV RX4 81 yX4_readTable cX4_readTable 3 (some .int) 4 0 := by
  refine ⟨RX4, Or.inl ⟨by decide, TX4, 4, rfl⟩, ?_, rfl, by decide +kernel, by decide +kernel, by decide +kernel⟩
  exact zV5 (zGT_in 769 (by decide +kernel) rfl) (zGT_in 771 (by decide +kernel) rfl) (zGT_in 11 (by decide +kernel) rfl) (zGT_in 25 (by decide +kernel) rfl) (zGT_in 772 (by decide +kernel) rfl)
theorem zc_X4_76 : zCV RX4 76 yX4_readBox cX4_readBox 7 (some .int) 4 0 := by
  refine ⟨RX4, Or.inl ⟨by decide, TX4, 4, rfl⟩, ?_, rfl, by decide +kernel, by decide +kernel, by decide +kernel⟩
  exact zV5 (zGT_in 747 (by decide +kernel) rfl) (zGT_in 749 (by decide +kernel) rfl) (zGT_in 8 (by decide +kernel) rfl) (zGT_in 25 (by decide +kernel) rfl) (zGT_in 750 (by decide +kernel) rfl)
theorem zc_X4_71 : zCV RX4 71 yX4_readWard cX4_readWard 3 (some .int) 4 0 := by
  refine ⟨RX4, Or.inl ⟨by decide, TX4, 4, rfl⟩, ?_, rfl, by decide +kernel, by decide +kernel, by decide +kernel⟩
  exact zV5 (zGT_in 742 (by decide +kernel) rfl) (zGT_in 744 (by decide +kernel) rfl) (zGT_in 7 (by decide +kernel) rfl) (zGT_in 25 (by decide +kernel) rfl) (zGT_in 745 (by decide +kernel) rfl)
theorem zc_X4_66 : zCV RX4 66 yX4_readRegion cX4_readRegion 3 (some .int) 4 0 := by
  refine ⟨RX4, Or.inl ⟨by decide, TX4, 4, rfl⟩, ?_, rfl, by decide +kernel, by decide +kernel, by decide +kernel⟩
  exact zV5 (zGT_in 732 (by decide +kernel) rfl) (zGT_in 734 (by decide +kernel) rfl) (zGT_in 5 (by decide +kernel) rfl) (zGT_in 25 (by decide +kernel) rfl) (zGT_in 735 (by decide +kernel) rfl)
theorem zc_X4_61 : zCV RX4 61 yX4_readParty cX4_readParty 2 (some .int) 4 0 := by
  refine ⟨RX4, Or.inl ⟨by decide, TX4, 4, rfl⟩, ?_, rfl, by decide +kernel, by decide +kernel, by decide +kernel⟩
  exact zV5 (zGT_in 694 (by decide +kernel) rfl) (zGT_in 696 (by decide +kernel) rfl) (zGT_in 1 (by decide +kernel) rfl) (zGT_in 25 (by decide +kernel) rfl) (zGT_in 697 (by decide +kernel) rfl)
theorem zc_X4_29 : zCV RX4 29 yX5_clear cX5_clear 2 none 5 0 := by
  refine ⟨RX5, Or.inl ⟨by decide, TX5, 10, rfl⟩, ?_, rfl, by decide +kernel, by decide +kernel, by decide +kernel⟩
  exact zV5 (zGT_in 664 (by decide +kernel) rfl) (zGT_in 665 (by decide +kernel) rfl) (zGT_in 666 (by decide +kernel) rfl) (zGT_in 27 (by decide +kernel) rfl) (zGT_in 667 (by decide +kernel) rfl)
theorem zc_X4_35 : zCV RX4 35 yX3_beginText cX3_beginText 2 none 3 1 := by
  refine ⟨RX3, Or.inl ⟨by decide, TX3, 6, rfl⟩, ?_, rfl, by decide +kernel, by decide +kernel, by decide +kernel⟩
  exact zV5 (zGT_in 668 (by decide +kernel) rfl) (zGT_in 669 (by decide +kernel) rfl) (zGT_in 670 (by decide +kernel) rfl) (zGT_in 26 (by decide +kernel) rfl) (zGT_in 671 (by decide +kernel) rfl)
theorem zc_X4_42 : zCV RX4 42 yX4_readDeclaration cX4_readDeclaration 1 (some .int) 4 0 := by
  refine ⟨RX4, Or.inl ⟨by decide, TX4, 4, rfl⟩, ?_, rfl, by decide +kernel, by decide +kernel, by decide +kernel⟩
  exact zV5 (zGT_in 683 (by decide +kernel) rfl) (zGT_in 685 (by decide +kernel) rfl) (zGT_in 0 (by decide +kernel) rfl) (zGT_in 25 (by decide +kernel) rfl) (zGT_in 686 (by decide +kernel) rfl)
theorem zc_X4_46 : zCV RX4 46 yX4_readSemicolon cX4_readSemicolon 1 (some .int) 4 0 := by
  refine ⟨RX4, Or.inl ⟨by decide, TX4, 4, rfl⟩, ?_, rfl, by decide +kernel, by decide +kernel, by decide +kernel⟩
  exact zV5 (zGT_in 783 (by decide +kernel) rfl) (zGT_in 785 (by decide +kernel) rfl) (zGT_in 13 (by decide +kernel) rfl) (zGT_in 25 (by decide +kernel) rfl) (zGT_in 786 (by decide +kernel) rfl)
theorem zf_X4_49 : zFW RX4 49 3 4 := ⟨RX3, TX3, 6, by decide, rfl, by decide, zu_X3, zGT_in 83 (by decide +kernel) rfl⟩
theorem zc_X5_56 : zCV RX5 56 yX5_wouldFind cX5_wouldFind 6 (some .int) 5 3 := by
  refine ⟨RX5, Or.inl ⟨by decide, TX5, 10, rfl⟩, ?_, rfl, by decide +kernel, by decide +kernel, by decide +kernel⟩
  exact zV5 (zGT_in 1137 (by decide +kernel) rfl) (zGT_in 877 (by decide +kernel) rfl) (zGT_in 878 (by decide +kernel) rfl) (zGT_in 27 (by decide +kernel) rfl) (zGT_in 879 (by decide +kernel) rfl)
theorem zo_X7_3 : zOI RX7 3 := ⟨zGT_in 62 (by decide +kernel) rfl, zGT_in 63 (by decide +kernel) rfl, zGT_in 64 (by decide +kernel) rfl⟩
theorem za_X7_9 : zAW RX7 9 4 [.null, .null, .int 0, .int 0] := ⟨RX4, TX4, 4, tyX4, by decide, rfl, rfl, zu_X4, tyX4_ok, (fun j hj => by rcases (show j = 0 ∨ j = 1 ∨ j = 2 ∨ j = 3 by omega) with rfl | rfl | rfl | rfl <;> rfl), zGT_in 65 (by decide +kernel) rfl, zGT_in 66 (by decide +kernel) rfl, zGT_in 25 (by decide +kernel) rfl⟩
theorem zci_X7_11 : zCIN RX7 11 yX4_init cX4_init 1 0 "CountHall" := ⟨by decide +kernel, zGT_in 68 (by decide +kernel) rfl, zGT_in 25 (by decide +kernel) rfl, zGT_in 69 (by decide +kernel) rfl, by decide +kernel, by decide +kernel, by decide +kernel, by decide +kernel⟩
theorem zu_X7 : ∀ w ∈ u_ws RX7 TX7 5, w ∈ zGT := fun w h => zGT_of ((by decide +kernel : ∀ w ∈ u_ws RX7 TX7 5, w ∈ lw_tbl) w h) ((by decide +kernel : ∀ w ∈ u_ws RX7 TX7 5, goodWord w = true) w h)
theorem zf_X7_12 : zFW RX7 12 7 0 := ⟨RX7, TX7, 5, by decide, rfl, by decide, zu_X7, zGT_in 320 (by decide +kernel) rfl⟩
theorem zpf_X7_12 : zPF RX7 12 7 0 (.object "CountHall$Loader") := ⟨RX7, TX7, 5, tyX7, ⟨by decide, rfl, by decide, zu_X7, zGT_in 320 (by decide +kernel) rfl⟩, tyX7_ok, nmX7, rfl, rfl, by decide +kernel⟩
theorem za_X7_16 : zAW RX7 16 1 [.null, .null] := ⟨RX1, TX1, 2, tyX1, by decide, rfl, rfl, zu_X1, tyX1_ok, (fun j hj => by rcases (show j = 0 ∨ j = 1 by omega) with rfl | rfl <;> rfl), zGT_in 176 (by decide +kernel) rfl, zGT_in 177 (by decide +kernel) rfl, zGT_in 28 (by decide +kernel) rfl⟩
theorem zci_X7_18 : zCIN RX7 18 yX1_init cX1_init 1 0 "CountHall" := ⟨by decide +kernel, zGT_in 179 (by decide +kernel) rfl, zGT_in 28 (by decide +kernel) rfl, zGT_in 180 (by decide +kernel) rfl, by decide +kernel, by decide +kernel, by decide +kernel, by decide +kernel⟩
theorem zf_X7_19 : zFW RX7 19 7 1 := ⟨RX7, TX7, 5, by decide, rfl, by decide, zu_X7, zGT_in 321 (by decide +kernel) rfl⟩
theorem zpf_X7_19 : zPF RX7 19 7 1 (.object "CountHall$Hall") := ⟨RX7, TX7, 5, tyX7, ⟨by decide, rfl, by decide, zu_X7, zGT_in 321 (by decide +kernel) rfl⟩, tyX7_ok, nmX7, rfl, rfl, by decide +kernel⟩
theorem za_X7_23 : zAW RX7 23 2 [.null, .int 0] := ⟨RX2, TX2, 2, tyX2, by decide, rfl, rfl, zu_X2, tyX2_ok, (fun j hj => by rcases (show j = 0 ∨ j = 1 by omega) with rfl | rfl <;> rfl), zGT_in 272 (by decide +kernel) rfl, zGT_in 273 (by decide +kernel) rfl, zGT_in 31 (by decide +kernel) rfl⟩
theorem zci_X7_25 : zCI RX7 25 yX2_init cX2_init 2 0 := ⟨zGT_in 274 (by decide +kernel) rfl, zGT_in 275 (by decide +kernel) rfl, zGT_in 31 (by decide +kernel) rfl, zGT_in 276 (by decide +kernel) rfl, by decide +kernel, by decide +kernel, by decide +kernel, by decide +kernel⟩
theorem zf_X7_26 : zFW RX7 26 7 2 := ⟨RX7, TX7, 5, by decide, rfl, by decide, zu_X7, zGT_in 322 (by decide +kernel) rfl⟩
theorem zpf_X7_26 : zPF RX7 26 7 2 (.object "CountHall$History") := ⟨RX7, TX7, 5, tyX7, ⟨by decide, rfl, by decide, zu_X7, zGT_in 322 (by decide +kernel) rfl⟩, tyX7_ok, nmX7, rfl, rfl, by decide +kernel⟩
theorem za_X7_30 : zAW RX7 30 9 [.null, .int 0, .int 0, .int 0] := ⟨RJ4, TJ4, 4, tyJ4, by decide, rfl, rfl, zu_J4, tyJ4_ok, (fun j hj => by rcases (show j = 0 ∨ j = 1 ∨ j = 2 ∨ j = 3 by omega) with rfl | rfl | rfl | rfl <;> rfl), zGT_in 289 (by decide +kernel) rfl, zGT_in 290 (by decide +kernel) rfl, zGT_in 33 (by decide +kernel) rfl⟩
theorem zci_X7_32 : zCI RX7 32 yJ4_init_da8c8 cJ4_init_da8c8 1 0 := ⟨zGT_in 291 (by decide +kernel) rfl, zGT_in 292 (by decide +kernel) rfl, zGT_in 33 (by decide +kernel) rfl, zGT_in 293 (by decide +kernel) rfl, by decide +kernel, by decide +kernel, by decide +kernel, by decide +kernel⟩
theorem zf_X7_33 : zFW RX7 33 7 3 := ⟨RX7, TX7, 5, by decide, rfl, by decide, zu_X7, zGT_in 323 (by decide +kernel) rfl⟩
theorem zpf_X7_33 : zPF RX7 33 7 3 (.object "java/lang/StringBuilder") := ⟨RX7, TX7, 5, tyX7, ⟨by decide, rfl, by decide, zu_X7, zGT_in 323 (by decide +kernel) rfl⟩, tyX7_ok, nmX7, rfl, rfl, by decide +kernel⟩
theorem zf_X7_37 : zFW RX7 37 7 4 := ⟨RX7, TX7, 5, by decide, rfl, by decide, zu_X7, zGT_in 324 (by decide +kernel) rfl⟩
theorem zp_X7_37 : zPW RX7 37 7 4 .int := ⟨RX7, TX7, 5, tyX7, ⟨by decide, rfl, by decide, zu_X7, zGT_in 324 (by decide +kernel) rfl⟩, tyX7_ok, nmX7, rfl, by decide +kernel⟩
theorem zf_X7_41 : zFW RX7 41 4 0 := ⟨RX4, TX4, 4, by decide, rfl, by decide, zu_X4, zGT_in 162 (by decide +kernel) rfl⟩
theorem zf_X7_45 : zFW RX7 45 3 1 := ⟨RX3, TX3, 6, by decide, rfl, by decide, zu_X3, zGT_in 79 (by decide +kernel) rfl⟩
theorem zbi_20 : (Int8.ofInt (20)).toInt32 = (20 : Int32) := by decide +kernel
theorem zc_X7_50 : zCV RX7 50 yX3_append cX3_append 3 none 3 1 := by
  refine ⟨RX3, Or.inl ⟨by decide, TX3, 6, rfl⟩, ?_, rfl, by decide +kernel, by decide +kernel, by decide +kernel⟩
  exact zV5 (zGT_in 652 (by decide +kernel) rfl) (zGT_in 653 (by decide +kernel) rfl) (zGT_in 654 (by decide +kernel) rfl) (zGT_in 26 (by decide +kernel) rfl) (zGT_in 655 (by decide +kernel) rfl)
theorem zbi_m5 : (Int8.ofInt (-5)).toInt32 = (-5 : Int32) := by decide +kernel
theorem zbi_m2 : (Int8.ofInt (-2)).toInt32 = (-2 : Int32) := by decide +kernel
theorem zc_X7_54 : zCV RX7 54 yX4_readText cX4_readText 4 (some .int) 4 1 := by
  refine ⟨RX4, Or.inl ⟨by decide, TX4, 4, rfl⟩, ?_, rfl, by decide +kernel, by decide +kernel, by decide +kernel⟩
  exact zV5 (zGT_in 660 (by decide +kernel) rfl) (zGT_in 661 (by decide +kernel) rfl) (zGT_in 662 (by decide +kernel) rfl) (zGT_in 25 (by decide +kernel) rfl) (zGT_in 663 (by decide +kernel) rfl)
theorem zf_X7_58 : zFW RX7 58 4 3 := ⟨RX4, TX4, 4, by decide, rfl, by decide, zu_X4, zGT_in 166 (by decide +kernel) rfl⟩
theorem zf_X7_61 : zFW RX7 61 1 0 := ⟨RX1, TX1, 2, by decide, rfl, by decide, zu_X1, zGT_in 264 (by decide +kernel) rfl⟩
theorem zc_X7_65 : zCV RX7 65 yX4_exchange cX4_exchange 3 (some (.object "CountHall$Plan")) 4 1 := by
  refine ⟨RX4, Or.inl ⟨by decide, TX4, 4, rfl⟩, ?_, rfl, by decide +kernel, by decide +kernel, by decide +kernel⟩
  exact zV5 (zGT_in 787 (by decide +kernel) rfl) (zGT_in 788 (by decide +kernel) rfl) (zGT_in 789 (by decide +kernel) rfl) (zGT_in 25 (by decide +kernel) rfl) (zGT_in 790 (by decide +kernel) rfl)
theorem zc_X7_69 : zCV RX7 69 yX1_begin cX1_begin 2 none 1 1 := by
  refine ⟨RX1, Or.inl ⟨by decide, TX1, 2, rfl⟩, ?_, rfl, by decide +kernel, by decide +kernel, by decide +kernel⟩
  exact zV5 (zGT_in 791 (by decide +kernel) rfl) (zGT_in 792 (by decide +kernel) rfl) (zGT_in 793 (by decide +kernel) rfl) (zGT_in 28 (by decide +kernel) rfl) (zGT_in 794 (by decide +kernel) rfl)
theorem zf_X7_73 : zFW RX7 73 2 1 := ⟨RX2, TX2, 2, by decide, rfl, by decide, zu_X2, zGT_in 283 (by decide +kernel) rfl⟩
theorem zp_X7_73 : zPW RX7 73 2 1 .int := ⟨RX2, TX2, 2, tyX2, ⟨by decide, rfl, by decide, zu_X2, zGT_in 283 (by decide +kernel) rfl⟩, tyX2_ok, nmX2, rfl, by decide +kernel⟩
theorem zf_X7_76 : zFW RX7 76 5 0 := ⟨RX5, TX5, 10, by decide, rfl, by decide, zu_X5, zGT_in 111 (by decide +kernel) rfl⟩
theorem zs_X7_86 : zCS RX7 86 yX7_isSetting cX7_isSetting 1 (some .boolean) 1 := by
  refine ⟨?_, by decide +kernel, by decide +kernel, by decide +kernel⟩
  exact zS4 (zGT_in 978 (by decide +kernel) rfl) (zGT_in 979 (by decide +kernel) rfl) (zGT_in 24 (by decide +kernel) rfl) (zGT_in 980 (by decide +kernel) rfl)
theorem zf_X7_90 : zFW RX7 90 1 1 := ⟨RX1, TX1, 2, by decide, rfl, by decide, zu_X1, zGT_in 266 (by decide +kernel) rfl⟩
theorem zf_X7_94 : zFW RX7 94 6 1 := ⟨RX6, TX6, 5, by decide, rfl, by decide, zu_X6, zGT_in 243 (by decide +kernel) rfl⟩
theorem zc_X7_224 : zCV RX7 224 yX5_has cX5_has 3 (some .boolean) 5 2 := by
  refine ⟨RX5, Or.inl ⟨by decide, TX5, 10, rfl⟩, ?_, rfl, by decide +kernel, by decide +kernel, by decide +kernel⟩
  exact zV5 (zGT_in 818 (by decide +kernel) rfl) (zGT_in 819 (by decide +kernel) rfl) (zGT_in 820 (by decide +kernel) rfl) (zGT_in 27 (by decide +kernel) rfl) (zGT_in 821 (by decide +kernel) rfl)
theorem zc_X7_99 : zCV RX7 99 yX7_demand cX7_demand 3 none 7 2 := by
  refine ⟨RX7, Or.inl ⟨by decide, TX7, 5, rfl⟩, ?_, rfl, by decide +kernel, by decide +kernel, by decide +kernel⟩
  exact zV5 (zGT_in 1022 (by decide +kernel) rfl) (zGT_in 1024 (by decide +kernel) rfl) (zGT_in 21 (by decide +kernel) rfl) (zGT_in 24 (by decide +kernel) rfl) (zGT_in 1025 (by decide +kernel) rfl)
theorem zf_X7_116 : zFW RX7 116 5 4 := ⟨RX5, TX5, 10, by decide, rfl, by decide, zu_X5, zGT_in 121 (by decide +kernel) rfl⟩
theorem zf_X7_119 : zFW RX7 119 5 5 := ⟨RX5, TX5, 10, by decide, rfl, by decide, zu_X5, zGT_in 126 (by decide +kernel) rfl⟩
theorem zf_X7_122 : zFW RX7 122 6 0 := ⟨RX6, TX6, 5, by decide, rfl, by decide, zu_X6, zGT_in 241 (by decide +kernel) rfl⟩
theorem zf_X7_126 : zFW RX7 126 0 1 := ⟨RX0, TX0, 9, by decide, rfl, by decide, zu_X0, zGT_in 203 (by decide +kernel) rfl⟩
theorem zf_X7_131 : zFW RX7 131 0 3 := ⟨RX0, TX0, 9, by decide, rfl, by decide, zu_X0, zGT_in 209 (by decide +kernel) rfl⟩
theorem zf_X7_134 : zFW RX7 134 0 0 := ⟨RX0, TX0, 9, by decide, rfl, by decide, zu_X0, zGT_in 200 (by decide +kernel) rfl⟩
theorem zc_X7_137 : zCV RX7 137 yX5_hasPile cX5_hasPile 2 (some .boolean) 5 1 := by
  refine ⟨RX5, Or.inl ⟨by decide, TX5, 10, rfl⟩, ?_, rfl, by decide +kernel, by decide +kernel, by decide +kernel⟩
  exact zV5 (zGT_in 1102 (by decide +kernel) rfl) (zGT_in 1103 (by decide +kernel) rfl) (zGT_in 1104 (by decide +kernel) rfl) (zGT_in 27 (by decide +kernel) rfl) (zGT_in 1105 (by decide +kernel) rfl)
theorem zf_X7_140 : zFW RX7 140 5 7 := ⟨RX5, TX5, 10, by decide, rfl, by decide, zu_X5, zGT_in 132 (by decide +kernel) rfl⟩
theorem zf_X7_157 : zFW RX7 157 5 8 := ⟨RX5, TX5, 10, by decide, rfl, by decide, zu_X5, zGT_in 135 (by decide +kernel) rfl⟩
theorem zc_X7_160 : zCV RX7 160 yX0_hasCount cX0_hasCount 2 (some .boolean) 0 1 := by
  refine ⟨RX0, Or.inl ⟨by decide, TX0, 9, rfl⟩, ?_, rfl, by decide +kernel, by decide +kernel, by decide +kernel⟩
  exact zV5 (zGT_in 1115 (by decide +kernel) rfl) (zGT_in 941 (by decide +kernel) rfl) (zGT_in 942 (by decide +kernel) rfl) (zGT_in 30 (by decide +kernel) rfl) (zGT_in 943 (by decide +kernel) rfl)
theorem zc_X7_163 : zCV RX7 163 yX0_foundBy cX0_foundBy 3 (some .int) 0 2 := by
  refine ⟨RX0, Or.inl ⟨by decide, TX0, 9, rfl⟩, ?_, rfl, by decide +kernel, by decide +kernel, by decide +kernel⟩
  exact zV5 (zGT_in 1120 (by decide +kernel) rfl) (zGT_in 898 (by decide +kernel) rfl) (zGT_in 899 (by decide +kernel) rfl) (zGT_in 30 (by decide +kernel) rfl) (zGT_in 900 (by decide +kernel) rfl)
theorem zf_X7_166 : zFW RX7 166 0 7 := ⟨RX0, TX0, 9, by decide, rfl, by decide, zu_X0, zGT_in 217 (by decide +kernel) rfl⟩
theorem zc_X7_169 : zCV RX7 169 yX5_wouldFind cX5_wouldFind 6 (some .int) 5 3 := by
  refine ⟨RX5, Or.inl ⟨by decide, TX5, 10, rfl⟩, ?_, rfl, by decide +kernel, by decide +kernel, by decide +kernel⟩
  exact zV5 (zGT_in 1110 (by decide +kernel) rfl) (zGT_in 877 (by decide +kernel) rfl) (zGT_in 878 (by decide +kernel) rfl) (zGT_in 27 (by decide +kernel) rfl) (zGT_in 879 (by decide +kernel) rfl)
theorem zf_X7_173 : zFW RX7 173 0 5 := ⟨RX0, TX0, 9, by decide, rfl, by decide, zu_X0, zGT_in 213 (by decide +kernel) rfl⟩
theorem zc_X7_177 : zCV RX7 177 yX0_foundValidly cX0_foundValidly 2 (some .int) 0 1 := by
  refine ⟨RX0, Or.inl ⟨by decide, TX0, 9, rfl⟩, ?_, rfl, by decide +kernel, by decide +kernel, by decide +kernel⟩
  exact zV5 (zGT_in 1128 (by decide +kernel) rfl) (zGT_in 937 (by decide +kernel) rfl) (zGT_in 938 (by decide +kernel) rfl) (zGT_in 30 (by decide +kernel) rfl) (zGT_in 939 (by decide +kernel) rfl)
theorem zc_X7_180 : zCV RX7 180 yX1_papersTooMany cX1_papersTooMany 5 (some .int) 1 1 := by
  refine ⟨RX1, Or.inl ⟨by decide, TX1, 2, rfl⟩, ?_, rfl, by decide +kernel, by decide +kernel, by decide +kernel⟩
  exact zV5 (zGT_in 1149 (by decide +kernel) rfl) (zGT_in 954 (by decide +kernel) rfl) (zGT_in 955 (by decide +kernel) rfl) (zGT_in 28 (by decide +kernel) rfl) (zGT_in 956 (by decide +kernel) rfl)
theorem zc_X7_183 : zCV RX7 183 yX1_isBoxOff cX1_isBoxOff 2 (some .boolean) 1 1 := by
  refine ⟨RX1, Or.inl ⟨by decide, TX1, 2, rfl⟩, ?_, rfl, by decide +kernel, by decide +kernel, by decide +kernel⟩
  exact zV5 (zGT_in 1154 (by decide +kernel) rfl) (zGT_in 950 (by decide +kernel) rfl) (zGT_in 951 (by decide +kernel) rfl) (zGT_in 28 (by decide +kernel) rfl) (zGT_in 952 (by decide +kernel) rfl)
theorem zc_X7_186 : zCV RX7 186 yX1_foundInWard cX1_foundInWard 5 (some .int) 1 2 := by
  refine ⟨RX1, Or.inl ⟨by decide, TX1, 2, rfl⟩, ?_, rfl, by decide +kernel, by decide +kernel, by decide +kernel⟩
  exact zV5 (zGT_in 1171 (by decide +kernel) rfl) (zGT_in 933 (by decide +kernel) rfl) (zGT_in 934 (by decide +kernel) rfl) (zGT_in 28 (by decide +kernel) rfl) (zGT_in 935 (by decide +kernel) rfl)
theorem zc_X7_189 : zCV RX7 189 yX1_partyAhead cX1_partyAhead 6 (some .int) 1 1 := by
  refine ⟨RX1, Or.inl ⟨by decide, TX1, 2, rfl⟩, ?_, rfl, by decide +kernel, by decide +kernel, by decide +kernel⟩
  exact zV5 (zGT_in 1184 (by decide +kernel) rfl) (zGT_in 1185 (by decide +kernel) rfl) (zGT_in 1186 (by decide +kernel) rfl) (zGT_in 28 (by decide +kernel) rfl) (zGT_in 1187 (by decide +kernel) rfl)
theorem zc_X7_192 : zCV RX7 192 yX1_lead cX1_lead 6 (some .int) 1 1 := by
  refine ⟨RX1, Or.inl ⟨by decide, TX1, 2, rfl⟩, ?_, rfl, by decide +kernel, by decide +kernel, by decide +kernel⟩
  exact zV5 (zGT_in 1192 (by decide +kernel) rfl) (zGT_in 965 (by decide +kernel) rfl) (zGT_in 966 (by decide +kernel) rfl) (zGT_in 28 (by decide +kernel) rfl) (zGT_in 967 (by decide +kernel) rfl)
theorem zc_X7_195 : zCV RX7 195 yX1_isWardClose cX1_isWardClose 4 (some .boolean) 1 1 := by
  refine ⟨RX1, Or.inl ⟨by decide, TX1, 2, rfl⟩, ?_, rfl, by decide +kernel, by decide +kernel, by decide +kernel⟩
  exact zV5 (zGT_in 1197 (by decide +kernel) rfl) (zGT_in 961 (by decide +kernel) rfl) (zGT_in 962 (by decide +kernel) rfl) (zGT_in 28 (by decide +kernel) rfl) (zGT_in 963 (by decide +kernel) rfl)
theorem zc_X7_198 : zCV RX7 198 yX1_reasonAgainst cX1_reasonAgainst 9 (some .int) 1 1 := by
  refine ⟨RX1, Or.inl ⟨by decide, TX1, 2, rfl⟩, ?_, rfl, by decide +kernel, by decide +kernel, by decide +kernel⟩
  exact zV5 (zGT_in 1202 (by decide +kernel) rfl) (zGT_in 945 (by decide +kernel) rfl) (zGT_in 946 (by decide +kernel) rfl) (zGT_in 28 (by decide +kernel) rfl) (zGT_in 947 (by decide +kernel) rfl)
theorem zc_X7_208 : zCV RX7 208 yX5_wouldFindTruth cX5_wouldFindTruth 4 (some .boolean) 5 2 := by
  refine ⟨RX5, Or.inl ⟨by decide, TX5, 10, rfl⟩, ?_, rfl, by decide +kernel, by decide +kernel, by decide +kernel⟩
  exact zV5 (zGT_in 1133 (by decide +kernel) rfl) (zGT_in 1134 (by decide +kernel) rfl) (zGT_in 1135 (by decide +kernel) rfl) (zGT_in 27 (by decide +kernel) rfl) (zGT_in 1136 (by decide +kernel) rfl)
theorem zf_X7_214 : zFW RX7 214 6 3 := ⟨RX6, TX6, 5, by decide, rfl, by decide, zu_X6, zGT_in 250 (by decide +kernel) rfl⟩
theorem zf_X7_217 : zFW RX7 217 6 2 := ⟨RX6, TX6, 5, by decide, rfl, by decide, zu_X6, zGT_in 247 (by decide +kernel) rfl⟩
theorem zc_X7_242 : zCV RX7 242 yX2_keep cX2_keep 2 none 2 1 := by
  refine ⟨RX2, Or.inl ⟨by decide, TX2, 2, rfl⟩, ?_, rfl, by decide +kernel, by decide +kernel, by decide +kernel⟩
  exact zV5 (zGT_in 822 (by decide +kernel) rfl) (zGT_in 823 (by decide +kernel) rfl) (zGT_in 824 (by decide +kernel) rfl) (zGT_in 31 (by decide +kernel) rfl) (zGT_in 825 (by decide +kernel) rfl)
theorem zp_X7_134 : zPW RX7 134 0 0 .int := ⟨RX0, TX0, 9, tyX0, ⟨by decide, rfl, by decide, zu_X0, zGT_in 200 (by decide +kernel) rfl⟩, tyX0_ok, nmX0, rfl, by decide +kernel⟩
theorem zc_X7_246 : zCV RX7 246 yX1_boxesInHall cX1_boxesInHall 3 (some .int) 1 0 := by
  refine ⟨RX1, Or.inl ⟨by decide, TX1, 2, rfl⟩, ?_, rfl, by decide +kernel, by decide +kernel, by decide +kernel⟩
  exact zV5 (zGT_in 839 (by decide +kernel) rfl) (zGT_in 840 (by decide +kernel) rfl) (zGT_in 841 (by decide +kernel) rfl) (zGT_in 28 (by decide +kernel) rfl) (zGT_in 842 (by decide +kernel) rfl)
theorem zbi_m6 : (Int8.ofInt (-6)).toInt32 = (-6 : Int32) := by decide +kernel
theorem zc_X7_249 : zCV RX7 249 yX1_isWardDeclared cX1_isWardDeclared 3 (some .boolean) 1 1 := by
  refine ⟨RX1, Or.inl ⟨by decide, TX1, 2, rfl⟩, ?_, rfl, by decide +kernel, by decide +kernel, by decide +kernel⟩
  exact zV5 (zGT_in 851 (by decide +kernel) rfl) (zGT_in 852 (by decide +kernel) rfl) (zGT_in 853 (by decide +kernel) rfl) (zGT_in 28 (by decide +kernel) rfl) (zGT_in 854 (by decide +kernel) rfl)
theorem zc_X7_144 : zCV RX7 144 yX0_bearsGoodSeal cX0_bearsGoodSeal 1 (some .boolean) 0 0 := by
  refine ⟨RX0, Or.inl ⟨by decide, TX0, 9, rfl⟩, ?_, rfl, by decide +kernel, by decide +kernel, by decide +kernel⟩
  exact zV5 (zGT_in 855 (by decide +kernel) rfl) (zGT_in 856 (by decide +kernel) rfl) (zGT_in 857 (by decide +kernel) rfl) (zGT_in 30 (by decide +kernel) rfl) (zGT_in 858 (by decide +kernel) rfl)
theorem zc_X7_252 : zCV RX7 252 yX0_openOn cX0_openOn 3 (some .int) 0 1 := by
  refine ⟨RX0, Or.inl ⟨by decide, TX0, 9, rfl⟩, ?_, rfl, by decide +kernel, by decide +kernel, by decide +kernel⟩
  exact zV5 (zGT_in 863 (by decide +kernel) rfl) (zGT_in 864 (by decide +kernel) rfl) (zGT_in 865 (by decide +kernel) rfl) (zGT_in 30 (by decide +kernel) rfl) (zGT_in 866 (by decide +kernel) rfl)
theorem zbi_m7 : (Int8.ofInt (-7)).toInt32 = (-7 : Int32) := by decide +kernel
theorem zc_X7_154 : zCV RX7 154 yX1_boxOn cX1_boxOn 3 (some .int) 1 1 := by
  refine ⟨RX1, Or.inl ⟨by decide, TX1, 2, rfl⟩, ?_, rfl, by decide +kernel, by decide +kernel, by decide +kernel⟩
  exact zV5 (zGT_in 847 (by decide +kernel) rfl) (zGT_in 848 (by decide +kernel) rfl) (zGT_in 849 (by decide +kernel) rfl) (zGT_in 28 (by decide +kernel) rfl) (zGT_in 850 (by decide +kernel) rfl)
theorem zc_X7_255 : zCV RX7 255 yX1_addCount cX1_addCount 6 none 1 2 := by
  refine ⟨RX1, Or.inl ⟨by decide, TX1, 2, rfl⟩, ?_, rfl, by decide +kernel, by decide +kernel, by decide +kernel⟩
  exact zV5 (zGT_in 871 (by decide +kernel) rfl) (zGT_in 872 (by decide +kernel) rfl) (zGT_in 873 (by decide +kernel) rfl) (zGT_in 28 (by decide +kernel) rfl) (zGT_in 874 (by decide +kernel) rfl)
theorem zf_X7_148 : zFW RX7 148 0 2 := ⟨RX0, TX0, 9, by decide, rfl, by decide, zu_X0, zGT_in 206 (by decide +kernel) rfl⟩
theorem zc_X7_258 : zCV RX7 258 yX6_sealUp cX6_sealUp 3 none 6 1 := by
  refine ⟨RX6, Or.inl ⟨by decide, TX6, 5, rfl⟩, ?_, rfl, by decide +kernel, by decide +kernel, by decide +kernel⟩
  exact zV5 (zGT_in 905 (by decide +kernel) rfl) (zGT_in 906 (by decide +kernel) rfl) (zGT_in 907 (by decide +kernel) rfl) (zGT_in 29 (by decide +kernel) rfl) (zGT_in 908 (by decide +kernel) rfl)
theorem zc_X7_261 : zCV RX7 261 yX0_isAtTable cX0_isAtTable 1 (some .boolean) 0 0 := by
  refine ⟨RX0, Or.inl ⟨by decide, TX0, 9, rfl⟩, ?_, rfl, by decide +kernel, by decide +kernel, by decide +kernel⟩
  exact zV5 (zGT_in 914 (by decide +kernel) rfl) (zGT_in 860 (by decide +kernel) rfl) (zGT_in 861 (by decide +kernel) rfl) (zGT_in 30 (by decide +kernel) rfl) (zGT_in 862 (by decide +kernel) rfl)
theorem zp_X7_126 : zPW RX7 126 0 1 .int := ⟨RX0, TX0, 9, tyX0, ⟨by decide, rfl, by decide, zu_X0, zGT_in 203 (by decide +kernel) rfl⟩, tyX0_ok, nmX0, rfl, by decide +kernel⟩
theorem zc_X7_264 : zCV RX7 264 yX0_enter cX0_enter 2 none 0 1 := by
  refine ⟨RX0, Or.inl ⟨by decide, TX0, 9, rfl⟩, ?_, rfl, by decide +kernel, by decide +kernel, by decide +kernel⟩
  exact zV5 (zGT_in 919 (by decide +kernel) rfl) (zGT_in 804 (by decide +kernel) rfl) (zGT_in 805 (by decide +kernel) rfl) (zGT_in 30 (by decide +kernel) rfl) (zGT_in 806 (by decide +kernel) rfl)
theorem zc_X7_211 : zCV RX7 211 yX1_nextReady cX1_nextReady 5 (some .int) 1 0 := by
  refine ⟨RX1, Or.inl ⟨by decide, TX1, 2, rfl⟩, ?_, rfl, by decide +kernel, by decide +kernel, by decide +kernel⟩
  exact zV5 (zGT_in 924 (by decide +kernel) rfl) (zGT_in 925 (by decide +kernel) rfl) (zGT_in 926 (by decide +kernel) rfl) (zGT_in 28 (by decide +kernel) rfl) (zGT_in 927 (by decide +kernel) rfl)
theorem zc_X7_267 : zCV RX7 267 yX6_addDeclared cX6_addDeclared 2 none 6 1 := by
  refine ⟨RX6, Or.inl ⟨by decide, TX6, 5, rfl⟩, ?_, rfl, by decide +kernel, by decide +kernel, by decide +kernel⟩
  exact zV5 (zGT_in 970 (by decide +kernel) rfl) (zGT_in 971 (by decide +kernel) rfl) (zGT_in 972 (by decide +kernel) rfl) (zGT_in 29 (by decide +kernel) rfl) (zGT_in 973 (by decide +kernel) rfl)
theorem zc_X7_201 : zCV RX7 201 yX1_boxesToCount cX1_boxesToCount 3 (some .int) 1 0 := by
  refine ⟨RX1, Or.inl ⟨by decide, TX1, 2, rfl⟩, ?_, rfl, by decide +kernel, by decide +kernel, by decide +kernel⟩
  exact zV5 (zGT_in 986 (by decide +kernel) rfl) (zGT_in 987 (by decide +kernel) rfl) (zGT_in 988 (by decide +kernel) rfl) (zGT_in 28 (by decide +kernel) rfl) (zGT_in 989 (by decide +kernel) rfl)
theorem zc_X7_270 : zCV RX7 270 yX1_fillTables cX1_fillTables 4 none 1 1 := by
  refine ⟨RX1, Or.inl ⟨by decide, TX1, 2, rfl⟩, ?_, rfl, by decide +kernel, by decide +kernel, by decide +kernel⟩
  exact zV5 (zGT_in 994 (by decide +kernel) rfl) (zGT_in 995 (by decide +kernel) rfl) (zGT_in 996 (by decide +kernel) rfl) (zGT_in 28 (by decide +kernel) rfl) (zGT_in 997 (by decide +kernel) rfl)
theorem zc_X7_273 : zCV RX7 273 yX1_countAndSeal cX1_countAndSeal 5 (some .int) 1 1 := by
  refine ⟨RX1, Or.inl ⟨by decide, TX1, 2, rfl⟩, ?_, rfl, by decide +kernel, by decide +kernel, by decide +kernel⟩
  exact zV5 (zGT_in 1009 (by decide +kernel) rfl) (zGT_in 1010 (by decide +kernel) rfl) (zGT_in 1011 (by decide +kernel) rfl) (zGT_in 28 (by decide +kernel) rfl) (zGT_in 1012 (by decide +kernel) rfl)
theorem zs_X7_276 : zCS RX7 276 yX7_mostOf cX7_mostOf 1 (some .int) 1 := by
  refine ⟨?_, by decide +kernel, by decide +kernel, by decide +kernel⟩
  exact zS4 (zGT_in 981 (by decide +kernel) rfl) (zGT_in 781 (by decide +kernel) rfl) (zGT_in 24 (by decide +kernel) rfl) (zGT_in 782 (by decide +kernel) rfl)
theorem zk_L_7 : Cond.constant RL 7 (2147483647 : Int32) ∈ zGT := zGT_in 468 (by decide +kernel) rfl
theorem zs_J7_343 : zCS RJ7 343 yJ7_checkLength_df160 cJ7_checkLength_df160 2 none 2 := by
  refine ⟨?_, by decide +kernel, by decide +kernel, by decide +kernel⟩
  exact zS4 (zGT_in 529 (by decide +kernel) rfl) (zGT_in 530 (by decide +kernel) rfl) (zGT_in 38 (by decide +kernel) rfl) (zGT_in 531 (by decide +kernel) rfl)
theorem zs_J7_339 : zCS RJ7 339 yJ7_copyOfRangeByte_39247 cJ7_copyOfRangeByte_39247 5 (some (.array .byte)) 3 := by
  refine ⟨?_, by decide +kernel, by decide +kernel, by decide +kernel⟩
  exact zS4 (zGT_in 526 (by decide +kernel) rfl) (zGT_in 527 (by decide +kernel) rfl) (zGT_in 38 (by decide +kernel) rfl) (zGT_in 528 (by decide +kernel) rfl)
theorem zkl_J7_310 : zKL RJ7 310 311 := ⟨zGT_in 375 (by decide +kernel) rfl, zGT_in 376 (by decide +kernel) rfl, zGT_in 377 (by decide +kernel) rfl, zGT_in 378 (by decide +kernel) rfl, zGT_in 379 (by decide +kernel) rfl, zGT_in 381 (by decide +kernel) rfl⟩
theorem zo_J0_1 : zOI RJ0 1 := ⟨zGT_in 508 (by decide +kernel) rfl, zGT_in 63 (by decide +kernel) rfl, zGT_in 64 (by decide +kernel) rfl⟩
theorem zcu_J0_552 : zCU RJ0 552 yJ5_getValue_6d5f1 cJ5_getValue_6d5f1 1 (some (.array .byte)) 0 := ⟨zGT_in 509 (by decide +kernel) rfl, zGT_in 511 (by decide +kernel) rfl, zGT_in 510 (by decide +kernel) rfl, zGT_in 32 (by decide +kernel) rfl, zGT_in 513 (by decide +kernel) rfl, Or.inl (zGT_in 512 (by decide +kernel) rfl), by decide +kernel, by decide +kernel, by decide +kernel⟩
theorem zcw_J0_549 : zCW RJ0 549 yJ5_length_8abf5 cJ5_length_8abf5 1 (some .int) yJ4_length_8abf5 cJ4_length_8abf5 1 (some .int) 0 := ⟨zGT_in 514 (by decide +kernel) rfl, zGT_in 516 (by decide +kernel) rfl, zGT_in 515 (by decide +kernel) rfl, zGT_in 521 (by decide +kernel) rfl, zGT_in 518 (by decide +kernel) rfl, zGT_in 33 (by decide +kernel) rfl, zGT_in 519 (by decide +kernel) rfl, zGT_in 517 (by decide +kernel) rfl, by decide +kernel, by decide +kernel, by decide +kernel⟩
theorem zcu_J0_1047 : zCU RJ0 1047 yJ5_isLatin1_aae02 cJ5_isLatin1_aae02 1 (some .boolean) 0 := ⟨zGT_in 522 (by decide +kernel) rfl, zGT_in 390 (by decide +kernel) rfl, zGT_in 389 (by decide +kernel) rfl, zGT_in 32 (by decide +kernel) rfl, zGT_in 392 (by decide +kernel) rfl, Or.inl (zGT_in 391 (by decide +kernel) rfl), by decide +kernel, by decide +kernel, by decide +kernel⟩
theorem zu_J0 : ∀ w ∈ u_ws RJ0 TJ0 4, w ∈ zGT := fun w h => zGT_of ((by decide +kernel : ∀ w ∈ u_ws RJ0 TJ0 4, w ∈ lw_tbl) w h) ((by decide +kernel : ∀ w ∈ u_ws RJ0 TJ0 4, goodWord w = true) w h)
theorem zpf_J0_15 : zPF RJ0 15 8 1 .byte := ⟨RJ0, TJ0, 4, tyJ0, ⟨by decide, rfl, by decide, zu_J0, zGT_in 546 (by decide +kernel) rfl⟩, tyJ0_ok, nmJ0, rfl, rfl, by decide +kernel⟩
theorem zs_J0_54 : zCS RJ0 54 yJ7_copyOfRange_39247 cJ7_copyOfRange_39247 3 (some (.array .byte)) 3 := by
  refine ⟨?_, by decide +kernel, by decide +kernel, by decide +kernel⟩
  exact zS4 (zGT_in 523 (by decide +kernel) rfl) (zGT_in 524 (by decide +kernel) rfl) (zGT_in 38 (by decide +kernel) rfl) (zGT_in 525 (by decide +kernel) rfl)
theorem zpf_J0_9 : zPF RJ0 9 8 0 (.array .byte) := ⟨RJ0, TJ0, 4, tyJ0, ⟨by decide, rfl, by decide, zu_J0, zGT_in 545 (by decide +kernel) rfl⟩, tyJ0_ok, nmJ0, rfl, rfl, by decide +kernel⟩
theorem zci_J0_489 : zCI RJ0 489 yJ0_init_db425 cJ0_init_db425 5 2 := ⟨zGT_in 505 (by decide +kernel) rfl, zGT_in 506 (by decide +kernel) rfl, zGT_in 34 (by decide +kernel) rfl, zGT_in 507 (by decide +kernel) rfl, by decide +kernel, by decide +kernel, by decide +kernel, by decide +kernel⟩
theorem za_J4_18 : zAW RJ4 18 8 [.null, .int 0, .int 0, .int 0] := ⟨RJ0, TJ0, 4, tyJ0, by decide, rfl, rfl, zu_J0, tyJ0_ok, (fun j hj => by rcases (show j = 0 ∨ j = 1 ∨ j = 2 ∨ j = 3 by omega) with rfl | rfl | rfl | rfl <;> rfl), zGT_in 500 (by decide +kernel) rfl, zGT_in 501 (by decide +kernel) rfl, zGT_in 34 (by decide +kernel) rfl⟩
theorem zci_J4_137 : zCI RJ4 137 yJ0_init_81219 cJ0_init_81219 2 1 := ⟨zGT_in 502 (by decide +kernel) rfl, zGT_in 503 (by decide +kernel) rfl, zGT_in 34 (by decide +kernel) rfl, zGT_in 504 (by decide +kernel) rfl, by decide +kernel, by decide +kernel, by decide +kernel, by decide +kernel⟩
theorem zc_L_8 : zCV RL 8 yJ0_length_8abf5 cJ0_length_8abf5 1 (some .int) 20 0 := by
  refine ⟨RJ0, Or.inr ⟨rfl, rfl⟩, ?_, rfl, by decide +kernel, by decide +kernel, by decide +kernel⟩
  exact zV5 (zGT_in 632 (by decide +kernel) rfl) (zGT_in 420 (by decide +kernel) rfl) (zGT_in 421 (by decide +kernel) rfl) (zGT_in 34 (by decide +kernel) rfl) (zGT_in 422 (by decide +kernel) rfl)
theorem za_L_14 : zAW RL 14 9 [.null, .int 0, .int 0, .int 0] := ⟨RJ4, TJ4, 4, tyJ4, by decide, rfl, rfl, zu_J4, tyJ4_ok, (fun j hj => by rcases (show j = 0 ∨ j = 1 ∨ j = 2 ∨ j = 3 by omega) with rfl | rfl | rfl | rfl <;> rfl), zGT_in 339 (by decide +kernel) rfl, zGT_in 290 (by decide +kernel) rfl, zGT_in 33 (by decide +kernel) rfl⟩
theorem zci_L_16 : zCI RL 16 yJ4_init_da8c8 cJ4_init_da8c8 1 0 := ⟨zGT_in 340 (by decide +kernel) rfl, zGT_in 292 (by decide +kernel) rfl, zGT_in 33 (by decide +kernel) rfl, zGT_in 293 (by decide +kernel) rfl, by decide +kernel, by decide +kernel, by decide +kernel, by decide +kernel⟩
theorem zc_L_17 : zCV RL 17 yJ4_append_15ec4 cJ4_append_15ec4 2 (some (.object "java/lang/StringBuilder")) 9 1 := by
  refine ⟨RJ4, Or.inl ⟨by decide, TJ4, 4, rfl⟩, ?_, rfl, by decide +kernel, by decide +kernel, by decide +kernel⟩
  exact zV5 (zGT_in 342 (by decide +kernel) rfl) (zGT_in 343 (by decide +kernel) rfl) (zGT_in 344 (by decide +kernel) rfl) (zGT_in 33 (by decide +kernel) rfl) (zGT_in 345 (by decide +kernel) rfl)
theorem zc_L_23 : zCV RL 23 yJ4_toString_0e30d cJ4_toString_0e30d 1 (some (.object "java/lang/String")) 9 0 := by
  refine ⟨RJ4, Or.inl ⟨by decide, TJ4, 4, rfl⟩, ?_, rfl, by decide +kernel, by decide +kernel, by decide +kernel⟩
  exact zV5 (zGT_in 496 (by decide +kernel) rfl) (zGT_in 497 (by decide +kernel) rfl) (zGT_in 498 (by decide +kernel) rfl) (zGT_in 33 (by decide +kernel) rfl) (zGT_in 499 (by decide +kernel) rfl)
theorem zc_L_27 : zCV RL 27 yJ0_charAt_5068e cJ0_charAt_5068e 2 (some .char) 20 1 := by
  refine ⟨RJ0, Or.inr ⟨rfl, rfl⟩, ?_, rfl, by decide +kernel, by decide +kernel, by decide +kernel⟩
  exact zV5 (zGT_in 633 (by decide +kernel) rfl) (zGT_in 634 (by decide +kernel) rfl) (zGT_in 635 (by decide +kernel) rfl) (zGT_in 34 (by decide +kernel) rfl) (zGT_in 636 (by decide +kernel) rfl)
theorem zbi_8 : (Int8.ofInt (8)).toInt32 = (8 : Int32) := by decide +kernel
theorem zc_L_31 : zCV RL 31 yX7_feed cX7_feed 7 (some .int) 7 5 := by
  refine ⟨RX7, Or.inl ⟨by decide, TX7, 5, rfl⟩, ?_, rfl, by decide +kernel, by decide +kernel, by decide +kernel⟩
  exact zV5 (zGT_in 648 (by decide +kernel) rfl) (zGT_in 649 (by decide +kernel) rfl) (zGT_in 650 (by decide +kernel) rfl) (zGT_in 24 (by decide +kernel) rfl) (zGT_in 651 (by decide +kernel) rfl)
theorem zi_20 : Int32.ofInt (20) = (20 : Int32) := by decide +kernel
theorem zs_L_37 : zCS RL 37 yL_cell cL_cell 2 (some .int) 2 := by
  refine ⟨?_, by decide +kernel, by decide +kernel, by decide +kernel⟩
  exact zS4 (zGT_in 51 (by decide +kernel) rfl) (zGT_in 52 (by decide +kernel) rfl) (zGT_in 23 (by decide +kernel) rfl) (zGT_in 53 (by decide +kernel) rfl)
theorem zs_L_43 : zCS RL 43 yL_in cL_in 2 (some .int) 2 := by
  refine ⟨?_, by decide +kernel, by decide +kernel, by decide +kernel⟩
  exact zS4 (zGT_in 465 (by decide +kernel) rfl) (zGT_in 466 (by decide +kernel) rfl) (zGT_in 23 (by decide +kernel) rfl) (zGT_in 467 (by decide +kernel) rfl)
theorem zbi_7 : (Int8.ofInt (7)).toInt32 = (7 : Int32) := by decide +kernel
theorem zs_L_47 : zCS RL 47 yL_regions cL_regions 1 (some .int) 1 := by
  refine ⟨?_, by decide +kernel, by decide +kernel, by decide +kernel⟩
  exact zS4 (zGT_in 586 (by decide +kernel) rfl) (zGT_in 587 (by decide +kernel) rfl) (zGT_in 23 (by decide +kernel) rfl) (zGT_in 588 (by decide +kernel) rfl)
theorem zbi_64 : (Int8.ofInt (64)).toInt32 = (64 : Int32) := by decide +kernel
theorem zs_L_51 : zCS RL 51 yL_wards cL_wards 1 (some .int) 1 := by
  refine ⟨?_, by decide +kernel, by decide +kernel, by decide +kernel⟩
  exact zS4 (zGT_in 594 (by decide +kernel) rfl) (zGT_in 595 (by decide +kernel) rfl) (zGT_in 23 (by decide +kernel) rfl) (zGT_in 596 (by decide +kernel) rfl)
theorem zsi_512 : (Int16.ofInt (512)).toInt32 = (512 : Int32) := by decide +kernel
theorem zbi_25 : (Int8.ofInt (25)).toInt32 = (25 : Int32) := by decide +kernel
theorem zbi_40 : (Int8.ofInt (40)).toInt32 = (40 : Int32) := by decide +kernel
theorem zs_L_54 : zCS RL 54 yL_parties cL_parties 1 (some .int) 1 := by
  refine ⟨?_, by decide +kernel, by decide +kernel, by decide +kernel⟩
  exact zS4 (zGT_in 556 (by decide +kernel) rfl) (zGT_in 557 (by decide +kernel) rfl) (zGT_in 23 (by decide +kernel) rfl) (zGT_in 558 (by decide +kernel) rfl)
theorem zs_L_57 : zCS RL 57 yL_paper cL_paper 3 (some .int) 3 := by
  refine ⟨?_, by decide +kernel, by decide +kernel, by decide +kernel⟩
  exact zS4 (zGT_in 615 (by decide +kernel) rfl) (zGT_in 616 (by decide +kernel) rfl) (zGT_in 23 (by decide +kernel) rfl) (zGT_in 617 (by decide +kernel) rfl)
theorem zs_L_61 : zCS RL 61 yL_papers cL_papers 4 (some .int) 2 := by
  refine ⟨?_, by decide +kernel, by decide +kernel, by decide +kernel⟩
  exact zS4 (zGT_in 612 (by decide +kernel) rfl) (zGT_in 613 (by decide +kernel) rfl) (zGT_in 23 (by decide +kernel) rfl) (zGT_in 614 (by decide +kernel) rfl)
theorem zm_L_64 : zMW RL 64 Lib.Math.max.name Lib.Math.max.code 2 := ⟨zGT_in 618 (by decide +kernel) rfl, zGT_in 365 (by decide +kernel) rfl, zGT_in 37 (by decide +kernel) rfl, zGT_in 366 (by decide +kernel) rfl⟩
theorem zbi_51 : (Int8.ofInt (51)).toInt32 = (51 : Int32) := by decide +kernel
theorem zbi_112 : (Int8.ofInt (112)).toInt32 = (112 : Int32) := by decide +kernel
theorem zc_L_71 : zCV RL 71 yJ4_append_cf468 cJ4_append_cf468 2 (some (.object "java/lang/StringBuilder")) 9 1 := by
  refine ⟨RJ4, Or.inl ⟨by decide, TJ4, 4, rfl⟩, ?_, rfl, by decide +kernel, by decide +kernel, by decide +kernel⟩
  exact zV5 (zGT_in 564 (by decide +kernel) rfl) (zGT_in 565 (by decide +kernel) rfl) (zGT_in 566 (by decide +kernel) rfl) (zGT_in 33 (by decide +kernel) rfl) (zGT_in 567 (by decide +kernel) rfl)
theorem zs_L_76 : zCS RL 76 yL_setting cL_setting 2 (some .int) 2 := by
  refine ⟨?_, by decide +kernel, by decide +kernel, by decide +kernel⟩
  exact zS4 (zGT_in 462 (by decide +kernel) rfl) (zGT_in 463 (by decide +kernel) rfl) (zGT_in 23 (by decide +kernel) rfl) (zGT_in 464 (by decide +kernel) rfl)
theorem zc_L_79 : zCV RL 79 yJ4_append_bf812 cJ4_append_bf812 2 (some (.object "java/lang/StringBuilder")) 9 1 := by
  refine ⟨RJ4, Or.inl ⟨by decide, TJ4, 4, rfl⟩, ?_, rfl, by decide +kernel, by decide +kernel, by decide +kernel⟩
  exact zV5 (zGT_in 469 (by decide +kernel) rfl) (zGT_in 470 (by decide +kernel) rfl) (zGT_in 471 (by decide +kernel) rfl) (zGT_in 33 (by decide +kernel) rfl) (zGT_in 472 (by decide +kernel) rfl)
theorem zs_L_88 : zCS RL 88 yL_name cL_name 2 (some (.object "java/lang/String")) 2 := by
  refine ⟨?_, by decide +kernel, by decide +kernel, by decide +kernel⟩
  exact zS4 (zGT_in 560 (by decide +kernel) rfl) (zGT_in 561 (by decide +kernel) rfl) (zGT_in 23 (by decide +kernel) rfl) (zGT_in 562 (by decide +kernel) rfl)
theorem zs_L_94 : zCS RL 94 yL_around cL_around 2 (some .int) 2 := by
  refine ⟨?_, by decide +kernel, by decide +kernel, by decide +kernel⟩
  exact zS4 (zGT_in 590 (by decide +kernel) rfl) (zGT_in 591 (by decide +kernel) rfl) (zGT_in 23 (by decide +kernel) rfl) (zGT_in 592 (by decide +kernel) rfl)
theorem zs_L_101 : zCS RL 101 yL_regionOf cL_regionOf 2 (some .int) 2 := by
  refine ⟨?_, by decide +kernel, by decide +kernel, by decide +kernel⟩
  exact zS4 (zGT_in 599 (by decide +kernel) rfl) (zGT_in 600 (by decide +kernel) rfl) (zGT_in 23 (by decide +kernel) rfl) (zGT_in 601 (by decide +kernel) rfl)
theorem zs_L_104 : zCS RL 104 yL_boxes cL_boxes 1 (some .int) 1 := by
  refine ⟨?_, by decide +kernel, by decide +kernel, by decide +kernel⟩
  exact zS4 (zGT_in 602 (by decide +kernel) rfl) (zGT_in 603 (by decide +kernel) rfl) (zGT_in 23 (by decide +kernel) rfl) (zGT_in 604 (by decide +kernel) rfl)
theorem zs_L_109 : zCS RL 109 yL_wardOf cL_wardOf 2 (some .int) 2 := by
  refine ⟨?_, by decide +kernel, by decide +kernel, by decide +kernel⟩
  exact zS4 (zGT_in 606 (by decide +kernel) rfl) (zGT_in 607 (by decide +kernel) rfl) (zGT_in 23 (by decide +kernel) rfl) (zGT_in 608 (by decide +kernel) rfl)
theorem zs_L_112 : zCS RL 112 yL_issued cL_issued 2 (some .int) 2 := by
  refine ⟨?_, by decide +kernel, by decide +kernel, by decide +kernel⟩
  exact zS4 (zGT_in 609 (by decide +kernel) rfl) (zGT_in 610 (by decide +kernel) rfl) (zGT_in 23 (by decide +kernel) rfl) (zGT_in 611 (by decide +kernel) rfl)
theorem zs_L_115 : zCS RL 115 yL_seal cL_seal 2 (some .int) 2 := by
  refine ⟨?_, by decide +kernel, by decide +kernel, by decide +kernel⟩
  exact zS4 (zGT_in 619 (by decide +kernel) rfl) (zGT_in 620 (by decide +kernel) rfl) (zGT_in 23 (by decide +kernel) rfl) (zGT_in 621 (by decide +kernel) rfl)
theorem zs_L_118 : zCS RL 118 yL_tables cL_tables 1 (some .int) 1 := by
  refine ⟨?_, by decide +kernel, by decide +kernel, by decide +kernel⟩
  exact zS4 (zGT_in 622 (by decide +kernel) rfl) (zGT_in 623 (by decide +kernel) rfl) (zGT_in 23 (by decide +kernel) rfl) (zGT_in 624 (by decide +kernel) rfl)
theorem zs_L_123 : zCS RL 123 yL_slip cL_slip 2 (some .int) 2 := by
  refine ⟨?_, by decide +kernel, by decide +kernel, by decide +kernel⟩
  exact zS4 (zGT_in 626 (by decide +kernel) rfl) (zGT_in 627 (by decide +kernel) rfl) (zGT_in 23 (by decide +kernel) rfl) (zGT_in 628 (by decide +kernel) rfl)
theorem za_L_32 : zAW RL 32 7 [.null, .null, .null, .null, .int 0] := ⟨RX7, TX7, 5, tyX7, by decide, rfl, rfl, zu_X7, tyX7_ok, (fun j hj => by rcases (show j = 0 ∨ j = 1 ∨ j = 2 ∨ j = 3 ∨ j = 4 by omega) with rfl | rfl | rfl | rfl | rfl <;> rfl), zGT_in 57 (by decide +kernel) rfl, zGT_in 58 (by decide +kernel) rfl, zGT_in 24 (by decide +kernel) rfl⟩
theorem zci_L_126 : zCI RL 126 yX7_init cX7_init 1 0 := ⟨zGT_in 59 (by decide +kernel) rfl, zGT_in 60 (by decide +kernel) rfl, zGT_in 24 (by decide +kernel) rfl, zGT_in 61 (by decide +kernel) rfl, by decide +kernel, by decide +kernel, by decide +kernel, by decide +kernel⟩
theorem zs_L_127 : zCS RL 127 yL_text cL_text 4 (some (.object "java/lang/String")) 1 := by
  refine ⟨?_, by decide +kernel, by decide +kernel, by decide +kernel⟩
  exact zS4 (zGT_in 336 (by decide +kernel) rfl) (zGT_in 337 (by decide +kernel) rfl) (zGT_in 23 (by decide +kernel) rfl) (zGT_in 338 (by decide +kernel) rfl)
theorem zs_L_131 : zCS RL 131 yL_put cL_put 6 none 2 := by
  refine ⟨?_, by decide +kernel, by decide +kernel, by decide +kernel⟩
  exact zS4 (zGT_in 629 (by decide +kernel) rfl) (zGT_in 630 (by decide +kernel) rfl) (zGT_in 23 (by decide +kernel) rfl) (zGT_in 631 (by decide +kernel) rfl)
theorem zc_L_135 : zCV RL 135 yX7_load cX7_load 3 (some .int) 7 1 := by
  refine ⟨RX7, Or.inl ⟨by decide, TX7, 5, rfl⟩, ?_, rfl, by decide +kernel, by decide +kernel, by decide +kernel⟩
  exact zV5 (zGT_in 656 (by decide +kernel) rfl) (zGT_in 657 (by decide +kernel) rfl) (zGT_in 658 (by decide +kernel) rfl) (zGT_in 24 (by decide +kernel) rfl) (zGT_in 659 (by decide +kernel) rfl)
theorem zs_L_139 : zCS RL 139 yL_statements cL_statements 3 (some .int) 1 := by
  refine ⟨?_, by decide +kernel, by decide +kernel, by decide +kernel⟩
  exact zS4 (zGT_in 808 (by decide +kernel) rfl) (zGT_in 809 (by decide +kernel) rfl) (zGT_in 23 (by decide +kernel) rfl) (zGT_in 810 (by decide +kernel) rfl)
theorem zc_L_143 : zCV RL 143 yX7_count cX7_count 2 (some .int) 7 1 := by
  refine ⟨RX7, Or.inl ⟨by decide, TX7, 5, rfl⟩, ?_, rfl, by decide +kernel, by decide +kernel, by decide +kernel⟩
  exact zV5 (zGT_in 47 (by decide +kernel) rfl) (zGT_in 48 (by decide +kernel) rfl) (zGT_in 49 (by decide +kernel) rfl) (zGT_in 24 (by decide +kernel) rfl) (zGT_in 50 (by decide +kernel) rfl)
theorem zsi_256 : (Int16.ofInt (256)).toInt32 = (256 : Int32) := by decide +kernel
theorem zc_L_146 : zCV RL 146 yX7_bring cX7_bring 2 (some .int) 7 1 := by
  refine ⟨RX7, Or.inl ⟨by decide, TX7, 5, rfl⟩, ?_, rfl, by decide +kernel, by decide +kernel, by decide +kernel⟩
  exact zV5 (zGT_in 814 (by decide +kernel) rfl) (zGT_in 815 (by decide +kernel) rfl) (zGT_in 816 (by decide +kernel) rfl) (zGT_in 24 (by decide +kernel) rfl) (zGT_in 817 (by decide +kernel) rfl)
theorem zc_L_149 : zCV RL 149 yX7_open cX7_open 5 (some .int) 7 2 := by
  refine ⟨RX7, Or.inl ⟨by decide, TX7, 5, rfl⟩, ?_, rfl, by decide +kernel, by decide +kernel, by decide +kernel⟩
  exact zV5 (zGT_in 843 (by decide +kernel) rfl) (zGT_in 844 (by decide +kernel) rfl) (zGT_in 845 (by decide +kernel) rfl) (zGT_in 24 (by decide +kernel) rfl) (zGT_in 846 (by decide +kernel) rfl)
theorem zc_L_152 : zCV RL 152 yX7_countBox cX7_countBox 3 (some .int) 7 1 := by
  refine ⟨RX7, Or.inl ⟨by decide, TX7, 5, rfl⟩, ?_, rfl, by decide +kernel, by decide +kernel, by decide +kernel⟩
  exact zV5 (zGT_in 867 (by decide +kernel) rfl) (zGT_in 868 (by decide +kernel) rfl) (zGT_in 869 (by decide +kernel) rfl) (zGT_in 24 (by decide +kernel) rfl) (zGT_in 870 (by decide +kernel) rfl)
theorem zc_L_155 : zCV RL 155 yX7_seal cX7_seal 3 (some .int) 7 1 := by
  refine ⟨RX7, Or.inl ⟨by decide, TX7, 5, rfl⟩, ?_, rfl, by decide +kernel, by decide +kernel, by decide +kernel⟩
  exact zV5 (zGT_in 901 (by decide +kernel) rfl) (zGT_in 902 (by decide +kernel) rfl) (zGT_in 903 (by decide +kernel) rfl) (zGT_in 24 (by decide +kernel) rfl) (zGT_in 904 (by decide +kernel) rfl)
theorem zsi_1024 : (Int16.ofInt (1024)).toInt32 = (1024 : Int32) := by decide +kernel
theorem zc_L_157 : zCV RL 157 yX7_tamper cX7_tamper 5 (some .int) 7 2 := by
  refine ⟨RX7, Or.inl ⟨by decide, TX7, 5, rfl⟩, ?_, rfl, by decide +kernel, by decide +kernel, by decide +kernel⟩
  exact zV5 (zGT_in 910 (by decide +kernel) rfl) (zGT_in 911 (by decide +kernel) rfl) (zGT_in 912 (by decide +kernel) rfl) (zGT_in 24 (by decide +kernel) rfl) (zGT_in 913 (by decide +kernel) rfl)
theorem zc_L_160 : zCV RL 160 yX7_accept cX7_accept 3 (some .int) 7 1 := by
  refine ⟨RX7, Or.inl ⟨by decide, TX7, 5, rfl⟩, ?_, rfl, by decide +kernel, by decide +kernel, by decide +kernel⟩
  exact zV5 (zGT_in 915 (by decide +kernel) rfl) (zGT_in 916 (by decide +kernel) rfl) (zGT_in 917 (by decide +kernel) rfl) (zGT_in 24 (by decide +kernel) rfl) (zGT_in 918 (by decide +kernel) rfl)
theorem zc_L_163 : zCV RL 163 yX7_declare cX7_declare 2 (some .int) 7 0 := by
  refine ⟨RX7, Or.inl ⟨by decide, TX7, 5, rfl⟩, ?_, rfl, by decide +kernel, by decide +kernel, by decide +kernel⟩
  exact zV5 (zGT_in 920 (by decide +kernel) rfl) (zGT_in 921 (by decide +kernel) rfl) (zGT_in 922 (by decide +kernel) rfl) (zGT_in 24 (by decide +kernel) rfl) (zGT_in 923 (by decide +kernel) rfl)
theorem zc_L_166 : zCV RL 166 yX7_setSetting cX7_setSetting 4 (some .int) 7 2 := by
  refine ⟨RX7, Or.inl ⟨by decide, TX7, 5, rfl⟩, ?_, rfl, by decide +kernel, by decide +kernel, by decide +kernel⟩
  exact zV5 (zGT_in 974 (by decide +kernel) rfl) (zGT_in 975 (by decide +kernel) rfl) (zGT_in 976 (by decide +kernel) rfl) (zGT_in 24 (by decide +kernel) rfl) (zGT_in 977 (by decide +kernel) rfl)
theorem zc_L_169 : zCV RL 169 yX7_work cX7_work 3 (some .int) 7 0 := by
  refine ⟨RX7, Or.inl ⟨by decide, TX7, 5, rfl⟩, ?_, rfl, by decide +kernel, by decide +kernel, by decide +kernel⟩
  exact zV5 (zGT_in 982 (by decide +kernel) rfl) (zGT_in 983 (by decide +kernel) rfl) (zGT_in 984 (by decide +kernel) rfl) (zGT_in 24 (by decide +kernel) rfl) (zGT_in 985 (by decide +kernel) rfl)
theorem zc_L_172 : zCV RL 172 yX7_slipOf cX7_slipOf 2 (some .int) 7 1 := by
  refine ⟨RX7, Or.inl ⟨by decide, TX7, 5, rfl⟩, ?_, rfl, by decide +kernel, by decide +kernel, by decide +kernel⟩
  exact zV5 (zGT_in 1094 (by decide +kernel) rfl) (zGT_in 1095 (by decide +kernel) rfl) (zGT_in 1096 (by decide +kernel) rfl) (zGT_in 24 (by decide +kernel) rfl) (zGT_in 1097 (by decide +kernel) rfl)
theorem zc_L_175 : zCV RL 175 yX7_papers cX7_papers 3 (some .int) 7 2 := by
  refine ⟨RX7, Or.inl ⟨by decide, TX7, 5, rfl⟩, ?_, rfl, by decide +kernel, by decide +kernel, by decide +kernel⟩
  exact zV5 (zGT_in 1098 (by decide +kernel) rfl) (zGT_in 1099 (by decide +kernel) rfl) (zGT_in 1100 (by decide +kernel) rfl) (zGT_in 24 (by decide +kernel) rfl) (zGT_in 1101 (by decide +kernel) rfl)
theorem zc_L_177 : zCV RL 177 yX7_boxProperty cX7_boxProperty 3 (some .int) 7 2 := by
  refine ⟨RX7, Or.inl ⟨by decide, TX7, 5, rfl⟩, ?_, rfl, by decide +kernel, by decide +kernel, by decide +kernel⟩
  exact zV5 (zGT_in 1018 (by decide +kernel) rfl) (zGT_in 1019 (by decide +kernel) rfl) (zGT_in 1020 (by decide +kernel) rfl) (zGT_in 24 (by decide +kernel) rfl) (zGT_in 1021 (by decide +kernel) rfl)
theorem zc_L_180 : zCV RL 180 yX7_countedAt cX7_countedAt 4 (some .int) 7 2 := by
  refine ⟨RX7, Or.inl ⟨by decide, TX7, 5, rfl⟩, ?_, rfl, by decide +kernel, by decide +kernel, by decide +kernel⟩
  exact zV5 (zGT_in 1111 (by decide +kernel) rfl) (zGT_in 1112 (by decide +kernel) rfl) (zGT_in 1113 (by decide +kernel) rfl) (zGT_in 24 (by decide +kernel) rfl) (zGT_in 1114 (by decide +kernel) rfl)
theorem zc_L_183 : zCV RL 183 yX7_counted cX7_counted 5 (some .int) 7 3 := by
  refine ⟨RX7, Or.inl ⟨by decide, TX7, 5, rfl⟩, ?_, rfl, by decide +kernel, by decide +kernel, by decide +kernel⟩
  exact zV5 (zGT_in 1116 (by decide +kernel) rfl) (zGT_in 1117 (by decide +kernel) rfl) (zGT_in 1118 (by decide +kernel) rfl) (zGT_in 24 (by decide +kernel) rfl) (zGT_in 1119 (by decide +kernel) rfl)
theorem zs_L_187 : zCS RL 187 yL_valid cL_valid 7 (some .int) 2 := by
  refine ⟨?_, by decide +kernel, by decide +kernel, by decide +kernel⟩
  exact zS4 (zGT_in 1121 (by decide +kernel) rfl) (zGT_in 1122 (by decide +kernel) rfl) (zGT_in 23 (by decide +kernel) rfl) (zGT_in 1123 (by decide +kernel) rfl)
theorem zs_L_191 : zCS RL 191 yL_slipped cL_slipped 9 (some (.array .int)) 3 := by
  refine ⟨?_, by decide +kernel, by decide +kernel, by decide +kernel⟩
  exact zS4 (zGT_in 1091 (by decide +kernel) rfl) (zGT_in 1092 (by decide +kernel) rfl) (zGT_in 23 (by decide +kernel) rfl) (zGT_in 1093 (by decide +kernel) rfl)
theorem zc_L_195 : zCV RL 195 yX7_wouldCount cX7_wouldCount 4 (some .int) 7 3 := by
  refine ⟨RX7, Or.inl ⟨by decide, TX7, 5, rfl⟩, ?_, rfl, by decide +kernel, by decide +kernel, by decide +kernel⟩
  exact zV5 (zGT_in 1106 (by decide +kernel) rfl) (zGT_in 1107 (by decide +kernel) rfl) (zGT_in 1108 (by decide +kernel) rfl) (zGT_in 24 (by decide +kernel) rfl) (zGT_in 1109 (by decide +kernel) rfl)
theorem zc_L_198 : zCV RL 198 yX7_result cX7_result 4 (some .int) 7 2 := by
  refine ⟨RX7, Or.inl ⟨by decide, TX7, 5, rfl⟩, ?_, rfl, by decide +kernel, by decide +kernel, by decide +kernel⟩
  exact zV5 (zGT_in 1124 (by decide +kernel) rfl) (zGT_in 1125 (by decide +kernel) rfl) (zGT_in 1126 (by decide +kernel) rfl) (zGT_in 24 (by decide +kernel) rfl) (zGT_in 1127 (by decide +kernel) rfl)
theorem zc_L_201 : zCV RL 201 yX7_rightTable cX7_rightTable 3 (some .int) 7 1 := by
  refine ⟨RX7, Or.inl ⟨by decide, TX7, 5, rfl⟩, ?_, rfl, by decide +kernel, by decide +kernel, by decide +kernel⟩
  exact zV5 (zGT_in 1129 (by decide +kernel) rfl) (zGT_in 1130 (by decide +kernel) rfl) (zGT_in 1131 (by decide +kernel) rfl) (zGT_in 24 (by decide +kernel) rfl) (zGT_in 1132 (by decide +kernel) rfl)
theorem zc_L_204 : zCV RL 204 yX7_isConfirmed cX7_isConfirmed 2 (some .boolean) 7 1 := by
  refine ⟨RX7, Or.inl ⟨by decide, TX7, 5, rfl⟩, ?_, rfl, by decide +kernel, by decide +kernel, by decide +kernel⟩
  exact zV5 (zGT_in 1138 (by decide +kernel) rfl) (zGT_in 1139 (by decide +kernel) rfl) (zGT_in 1140 (by decide +kernel) rfl) (zGT_in 24 (by decide +kernel) rfl) (zGT_in 1141 (by decide +kernel) rfl)
theorem zs_L_208 : zCS RL 208 yL_isSure cL_isSure 8 (some .boolean) 2 := by
  refine ⟨?_, by decide +kernel, by decide +kernel, by decide +kernel⟩
  exact zS4 (zGT_in 1142 (by decide +kernel) rfl) (zGT_in 1143 (by decide +kernel) rfl) (zGT_in 23 (by decide +kernel) rfl) (zGT_in 1144 (by decide +kernel) rfl)
theorem zc_L_212 : zCV RL 212 yX7_surplus cX7_surplus 2 (some .int) 7 1 := by
  refine ⟨RX7, Or.inl ⟨by decide, TX7, 5, rfl⟩, ?_, rfl, by decide +kernel, by decide +kernel, by decide +kernel⟩
  exact zV5 (zGT_in 1145 (by decide +kernel) rfl) (zGT_in 1146 (by decide +kernel) rfl) (zGT_in 1147 (by decide +kernel) rfl) (zGT_in 24 (by decide +kernel) rfl) (zGT_in 1148 (by decide +kernel) rfl)
theorem zc_L_215 : zCV RL 215 yX7_isOff cX7_isOff 2 (some .boolean) 7 1 := by
  refine ⟨RX7, Or.inl ⟨by decide, TX7, 5, rfl⟩, ?_, rfl, by decide +kernel, by decide +kernel, by decide +kernel⟩
  exact zV5 (zGT_in 1150 (by decide +kernel) rfl) (zGT_in 1151 (by decide +kernel) rfl) (zGT_in 1152 (by decide +kernel) rfl) (zGT_in 24 (by decide +kernel) rfl) (zGT_in 1153 (by decide +kernel) rfl)
theorem zm_L_218 : zMW RL 218 Lib.Math.abs.name Lib.Math.abs.code 1 := ⟨zGT_in 1155 (by decide +kernel) rfl, zGT_in 958 (by decide +kernel) rfl, zGT_in 37 (by decide +kernel) rfl, zGT_in 959 (by decide +kernel) rfl⟩
theorem zc_L_221 : zCV RL 221 yX7_getSetting cX7_getSetting 2 (some .int) 7 1 := by
  refine ⟨RX7, Or.inl ⟨by decide, TX7, 5, rfl⟩, ?_, rfl, by decide +kernel, by decide +kernel, by decide +kernel⟩
  exact zV5 (zGT_in 1156 (by decide +kernel) rfl) (zGT_in 1157 (by decide +kernel) rfl) (zGT_in 1158 (by decide +kernel) rfl) (zGT_in 24 (by decide +kernel) rfl) (zGT_in 1159 (by decide +kernel) rfl)
theorem zc_L_224 : zCV RL 224 yX7_placeOf cX7_placeOf 2 (some .int) 7 1 := by
  refine ⟨RX7, Or.inl ⟨by decide, TX7, 5, rfl⟩, ?_, rfl, by decide +kernel, by decide +kernel, by decide +kernel⟩
  exact zV5 (zGT_in 1163 (by decide +kernel) rfl) (zGT_in 1164 (by decide +kernel) rfl) (zGT_in 1165 (by decide +kernel) rfl) (zGT_in 24 (by decide +kernel) rfl) (zGT_in 1166 (by decide +kernel) rfl)
theorem zc_L_227 : zCV RL 227 yX7_wardVotes cX7_wardVotes 3 (some .int) 7 2 := by
  refine ⟨RX7, Or.inl ⟨by decide, TX7, 5, rfl⟩, ?_, rfl, by decide +kernel, by decide +kernel, by decide +kernel⟩
  exact zV5 (zGT_in 1167 (by decide +kernel) rfl) (zGT_in 1168 (by decide +kernel) rfl) (zGT_in 1169 (by decide +kernel) rfl) (zGT_in 24 (by decide +kernel) rfl) (zGT_in 1170 (by decide +kernel) rfl)
theorem zc_L_230 : zCV RL 230 yX7_declaredCount cX7_declaredCount 1 (some .int) 7 0 := by
  refine ⟨RX7, Or.inl ⟨by decide, TX7, 5, rfl⟩, ?_, rfl, by decide +kernel, by decide +kernel, by decide +kernel⟩
  exact zV5 (zGT_in 1172 (by decide +kernel) rfl) (zGT_in 1173 (by decide +kernel) rfl) (zGT_in 1174 (by decide +kernel) rfl) (zGT_in 24 (by decide +kernel) rfl) (zGT_in 1175 (by decide +kernel) rfl)
theorem zc_L_233 : zCV RL 233 yX7_declared cX7_declared 2 (some .int) 7 1 := by
  refine ⟨RX7, Or.inl ⟨by decide, TX7, 5, rfl⟩, ?_, rfl, by decide +kernel, by decide +kernel, by decide +kernel⟩
  exact zV5 (zGT_in 1176 (by decide +kernel) rfl) (zGT_in 1177 (by decide +kernel) rfl) (zGT_in 1178 (by decide +kernel) rfl) (zGT_in 24 (by decide +kernel) rfl) (zGT_in 1179 (by decide +kernel) rfl)
theorem zc_L_236 : zCV RL 236 yX7_leader cX7_leader 2 (some .int) 7 1 := by
  refine ⟨RX7, Or.inl ⟨by decide, TX7, 5, rfl⟩, ?_, rfl, by decide +kernel, by decide +kernel, by decide +kernel⟩
  exact zV5 (zGT_in 1180 (by decide +kernel) rfl) (zGT_in 1181 (by decide +kernel) rfl) (zGT_in 1182 (by decide +kernel) rfl) (zGT_in 24 (by decide +kernel) rfl) (zGT_in 1183 (by decide +kernel) rfl)
theorem zc_L_239 : zCV RL 239 yX7_margin cX7_margin 2 (some .int) 7 1 := by
  refine ⟨RX7, Or.inl ⟨by decide, TX7, 5, rfl⟩, ?_, rfl, by decide +kernel, by decide +kernel, by decide +kernel⟩
  exact zV5 (zGT_in 1188 (by decide +kernel) rfl) (zGT_in 1189 (by decide +kernel) rfl) (zGT_in 1190 (by decide +kernel) rfl) (zGT_in 24 (by decide +kernel) rfl) (zGT_in 1191 (by decide +kernel) rfl)
theorem zc_L_242 : zCV RL 242 yX7_isClose cX7_isClose 2 (some .boolean) 7 1 := by
  refine ⟨RX7, Or.inl ⟨by decide, TX7, 5, rfl⟩, ?_, rfl, by decide +kernel, by decide +kernel, by decide +kernel⟩
  exact zV5 (zGT_in 1193 (by decide +kernel) rfl) (zGT_in 1194 (by decide +kernel) rfl) (zGT_in 1195 (by decide +kernel) rfl) (zGT_in 24 (by decide +kernel) rfl) (zGT_in 1196 (by decide +kernel) rfl)
theorem zc_L_245 : zCV RL 245 yX7_whyNot cX7_whyNot 2 (some .int) 7 1 := by
  refine ⟨RX7, Or.inl ⟨by decide, TX7, 5, rfl⟩, ?_, rfl, by decide +kernel, by decide +kernel, by decide +kernel⟩
  exact zV5 (zGT_in 1198 (by decide +kernel) rfl) (zGT_in 1199 (by decide +kernel) rfl) (zGT_in 1200 (by decide +kernel) rfl) (zGT_in 24 (by decide +kernel) rfl) (zGT_in 1201 (by decide +kernel) rfl)
