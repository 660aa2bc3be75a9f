theorem zg_J0_38 : Cond.fieldLink RJ0 38 "java/lang/String" "COMPACT_STRINGS" "Z" ∈ zGT := zGT_in 466 (by decide +kernel) rfl
theorem zi_1 : Int32.ofInt (1) = (1 : Int32) := by decide +kernel
theorem zf_J0_15 : zFS RJ0 15 1 := Or.inr ⟨rfl, zGT_in 1447 (by decide +kernel) rfl⟩
theorem zf_J0_9 : zFS RJ0 9 0 := Or.inl ⟨rfl, zGT_in 1446 (by decide +kernel) rfl⟩
theorem zc_J0_335 : zCV RJ0 335 yJ0_coder_7d493 cJ0_coder_7d493 1 (some .byte) 20 0 := by
  refine ⟨RJ0, Or.inr ⟨rfl, rfl⟩, ?_, rfl, by decide +kernel, by decide +kernel, by decide +kernel⟩
  exact zV5 (zGT_in 462 (by decide +kernel) rfl) (zGT_in 463 (by decide +kernel) rfl) (zGT_in 464 (by decide +kernel) rfl) (zGT_in 111 (by decide +kernel) rfl) (zGT_in 465 (by decide +kernel) rfl)
theorem zi_0 : Int32.ofInt (0) = (0 : Int32) := by decide +kernel
theorem zg_J0_1053 : Cond.fieldLink RJ0 1053 "jdk/internal/util/Preconditions" "SIOOBE_FORMATTER" "Ljava/util/function/BiFunction;" ∈ zGT := zGT_in 481 (by decide +kernel) rfl
theorem zs_J0_1059 : zCS RJ0 1059 yJ3_checkIndex_8e157 cJ3_checkIndex_8e157 3 (some .int) 3 := by
  refine ⟨?_, by decide +kernel, by decide +kernel, by decide +kernel⟩
  exact zS4 (zGT_in 483 (by decide +kernel) rfl) (zGT_in 484 (by decide +kernel) rfl) (zGT_in 116 (by decide +kernel) rfl) (zGT_in 485 (by decide +kernel) rfl)
theorem zs_J1_9 : zCS RJ1 9 yJ0_checkIndex_df160 cJ0_checkIndex_df160 2 none 2 := by
  refine ⟨?_, by decide +kernel, by decide +kernel, by decide +kernel⟩
  exact zS4 (zGT_in 478 (by decide +kernel) rfl) (zGT_in 479 (by decide +kernel) rfl) (zGT_in 111 (by decide +kernel) rfl) (zGT_in 480 (by decide +kernel) rfl)
theorem zsi_255 : (Int16.ofInt (255)).toInt32 = (255 : Int32) := by decide +kernel
theorem zc_J0_492 : zCV RJ0 492 yJ0_isLatin1_aae02 cJ0_isLatin1_aae02 1 (some .boolean) 20 0 := by
  refine ⟨RJ0, Or.inr ⟨rfl, rfl⟩, ?_, rfl, by decide +kernel, by decide +kernel, by decide +kernel⟩
  exact zV5 (zGT_in 471 (by decide +kernel) rfl) (zGT_in 472 (by decide +kernel) rfl) (zGT_in 473 (by decide +kernel) rfl) (zGT_in 111 (by decide +kernel) rfl) (zGT_in 474 (by decide +kernel) rfl)
theorem zs_J0_495 : zCS RJ0 495 yJ1_charAt_3b067 cJ1_charAt_3b067 2 (some .char) 2 := by
  refine ⟨?_, by decide +kernel, by decide +kernel, by decide +kernel⟩
  exact zS4 (zGT_in 475 (by decide +kernel) rfl) (zGT_in 476 (by decide +kernel) rfl) (zGT_in 115 (by decide +kernel) rfl) (zGT_in 477 (by decide +kernel) rfl)
theorem zo_J5_3 : zOI RJ5 3 := ⟨zGT_in 372 (by decide +kernel) rfl, zGT_in 133 (by decide +kernel) rfl, zGT_in 134 (by decide +kernel) rfl⟩
theorem zg_J5_18 : Cond.fieldLink RJ5 18 "java/lang/String" "COMPACT_STRINGS" "Z" ∈ zGT := zGT_in 373 (by decide +kernel) rfl
theorem zar_byte : Cond.arrayClass .byte ∈ zGT := zGT_in 169 (by decide +kernel) rfl
theorem zu_J4 : ∀ w ∈ u_ws RJ4 TJ4 4, w ∈ zGT := fun w h => zGT_of ((by decide +kernel : ∀ w ∈ u_ws RJ4 TJ4 4, w ∈ lw_tbl) w h) ((by decide +kernel : ∀ w ∈ u_ws RJ4 TJ4 4, goodWord w = true) w h)
theorem zf_J5_15 : zFW RJ5 15 9 0 := ⟨RJ4, TJ4, 4, by decide, rfl, by decide, zu_J4, zGT_in 382 (by decide +kernel) rfl⟩
theorem zp_J5_15 : zPW RJ5 15 9 0 (.array .byte) := ⟨RJ4, TJ4, 4, tyJ4, ⟨by decide, rfl, by decide, zu_J4, zGT_in 382 (by decide +kernel) rfl⟩, tyJ4_ok, nmJ4, rfl, by decide +kernel⟩
theorem zf_J5_22 : zFW RJ5 22 9 1 := ⟨RJ4, TJ4, 4, by decide, rfl, by decide, zu_J4, zGT_in 383 (by decide +kernel) rfl⟩
theorem zp_J5_22 : zPW RJ5 22 9 1 .byte := ⟨RJ4, TJ4, 4, tyJ4, ⟨by decide, rfl, by decide, zu_J4, zGT_in 383 (by decide +kernel) rfl⟩, tyJ4_ok, nmJ4, rfl, by decide +kernel⟩
theorem zbi_16 : (Int8.ofInt (16)).toInt32 = (16 : Int32) := by decide +kernel
theorem zci_J4_1 : zCI RJ4 1 yJ5_init_d00df cJ5_init_d00df 2 1 := ⟨zGT_in 369 (by decide +kernel) rfl, zGT_in 370 (by decide +kernel) rfl, zGT_in 109 (by decide +kernel) rfl, zGT_in 371 (by decide +kernel) rfl, by decide +kernel, by decide +kernel, by decide +kernel, by decide +kernel⟩
theorem zm_J7_304 : zMW RJ7 304 Lib.Math.min.name Lib.Math.min.code 2 := ⟨zGT_in 1325 (by decide +kernel) rfl, zGT_in 437 (by decide +kernel) rfl, zGT_in 114 (by decide +kernel) rfl, zGT_in 438 (by decide +kernel) rfl⟩
theorem zy_J7_150 : zYW RJ7 150 := ⟨zGT_in 1326 (by decide +kernel) rfl, zGT_in 620 (by decide +kernel) rfl, zGT_in 619 (by decide +kernel) rfl, zGT_in 117 (by decide +kernel) rfl⟩
theorem zm_J8_194 : zMW RJ8 194 Lib.Math.max.name Lib.Math.max.code 2 := ⟨zGT_in 1309 (by decide +kernel) rfl, zGT_in 699 (by decide +kernel) rfl, zGT_in 114 (by decide +kernel) rfl, zGT_in 700 (by decide +kernel) rfl⟩
theorem zk_J8_200 : Cond.constant RJ8 200 (2147483639 : Int32) ∈ zGT := zGT_in 1310 (by decide +kernel) rfl
theorem zi_2 : Int32.ofInt (2) = (2 : Int32) := by decide +kernel
theorem zs_J5_114 : zCS RJ5 114 yJ8_newLength_cabcc cJ8_newLength_cabcc 4 (some .int) 3 := by
  refine ⟨?_, by decide +kernel, by decide +kernel, by decide +kernel⟩
  exact zS4 (zGT_in 1306 (by decide +kernel) rfl) (zGT_in 1307 (by decide +kernel) rfl) (zGT_in 123 (by decide +kernel) rfl) (zGT_in 1308 (by decide +kernel) rfl)
theorem zk_J5_39 : Cond.constant RJ5 39 (2147483647 : Int32) ∈ zGT := zGT_in 1314 (by decide +kernel) rfl
theorem zcu_J5_104 : zCU RJ5 104 yJ5_newCapacity_0f7a4 cJ5_newCapacity_0f7a4 6 (some .int) 1 := ⟨zGT_in 1302 (by decide +kernel) rfl, zGT_in 2136 (by decide +kernel) rfl, zGT_in 1304 (by decide +kernel) rfl, zGT_in 109 (by decide +kernel) rfl, zGT_in 1305 (by decide +kernel) rfl, Or.inl (zGT_sel 0 rfl), by decide +kernel, by decide +kernel, by decide +kernel⟩
theorem zs_J5_108 : zCS RJ5 108 yJ7_copyOf_9075b cJ7_copyOf_9075b 3 (some (.array .byte)) 2 := by
  refine ⟨?_, by decide +kernel, by decide +kernel, by decide +kernel⟩
  exact zS4 (zGT_in 1315 (by decide +kernel) rfl) (zGT_in 1316 (by decide +kernel) rfl) (zGT_in 124 (by decide +kernel) rfl) (zGT_in 1317 (by decide +kernel) rfl)
theorem zf_J5_79 : zFW RJ5 79 9 3 := ⟨RJ4, TJ4, 4, by decide, rfl, by decide, zu_J4, zGT_in 386 (by decide +kernel) rfl⟩
theorem zcu_J5_100 : zCU RJ5 100 yJ5_ensureCapacityInternal_d00df cJ5_ensureCapacityInternal_d00df 3 none 1 := ⟨zGT_in 1298 (by decide +kernel) rfl, zGT_in 2135 (by decide +kernel) rfl, zGT_in 1300 (by decide +kernel) rfl, zGT_in 109 (by decide +kernel) rfl, zGT_in 1301 (by decide +kernel) rfl, Or.inl (zGT_sel 1 rfl), by decide +kernel, by decide +kernel, by decide +kernel⟩
theorem zcu_J5_83 : zCU RJ5 83 yJ5_isLatin1_aae02 cJ5_isLatin1_aae02 1 (some .boolean) 0 := ⟨zGT_in 1327 (by decide +kernel) rfl, zGT_in 1329 (by decide +kernel) rfl, zGT_in 1328 (by decide +kernel) rfl, zGT_in 109 (by decide +kernel) rfl, zGT_in 1331 (by decide +kernel) rfl, Or.inl (zGT_in 1330 (by decide +kernel) rfl), by decide +kernel, by decide +kernel, by decide +kernel⟩
theorem zp_J5_79 : zPW RJ5 79 9 3 .int := ⟨RJ4, TJ4, 4, tyJ4, ⟨by decide, rfl, by decide, zu_J4, zGT_in 386 (by decide +kernel) rfl⟩, tyJ4_ok, nmJ4, rfl, by decide +kernel⟩
theorem zs_J5_191 : zCS RJ5 191 yJ1_canEncode_fc78d cJ1_canEncode_fc78d 1 (some .boolean) 1 := by
  refine ⟨?_, by decide +kernel, by decide +kernel, by decide +kernel⟩
  exact zS4 (zGT_in 1512 (by decide +kernel) rfl) (zGT_in 1513 (by decide +kernel) rfl) (zGT_in 115 (by decide +kernel) rfl) (zGT_in 1514 (by decide +kernel) rfl)
theorem zc_J5_40 : zCV RJ5 40 yJ0_coder_7d493 cJ0_coder_7d493 1 (some .byte) 20 0 := by
  refine ⟨RJ0, Or.inr ⟨rfl, rfl⟩, ?_, rfl, by decide +kernel, by decide +kernel, by decide +kernel⟩
  exact zV5 (zGT_in 1356 (by decide +kernel) rfl) (zGT_in 463 (by decide +kernel) rfl) (zGT_in 464 (by decide +kernel) rfl) (zGT_in 111 (by decide +kernel) rfl) (zGT_in 465 (by decide +kernel) rfl)
theorem zy_J0_212 : zYW RJ0 212 := ⟨zGT_in 1380 (by decide +kernel) rfl, zGT_in 620 (by decide +kernel) rfl, zGT_in 619 (by decide +kernel) rfl, zGT_in 117 (by decide +kernel) rfl⟩
theorem zcu_J5_397 : zCU RJ5 397 yJ5_inflateIfNeededFor_a7421 cJ5_inflateIfNeededFor_a7421 2 none 1 := ⟨zGT_in 1352 (by decide +kernel) rfl, zGT_in 2138 (by decide +kernel) rfl, zGT_in 1354 (by decide +kernel) rfl, zGT_in 109 (by decide +kernel) rfl, zGT_in 1355 (by decide +kernel) rfl, Or.inl (zGT_sel 2 rfl), by decide +kernel, by decide +kernel, by decide +kernel⟩
theorem zc_J5_399 : zCV RJ5 399 yJ0_getBytes_840e7 cJ0_getBytes_840e7 4 none 20 3 := by
  refine ⟨RJ0, Or.inr ⟨rfl, rfl⟩, ?_, rfl, by decide +kernel, by decide +kernel, by decide +kernel⟩
  exact zV5 (zGT_in 1376 (by decide +kernel) rfl) (zGT_in 1377 (by decide +kernel) rfl) (zGT_in 1378 (by decide +kernel) rfl) (zGT_in 111 (by decide +kernel) rfl) (zGT_in 1379 (by decide +kernel) rfl)
theorem zc_J5_32 : zCV RJ5 32 yJ0_length_8abf5 cJ0_length_8abf5 1 (some .int) 20 0 := by
  refine ⟨RJ0, Or.inr ⟨rfl, rfl⟩, ?_, rfl, by decide +kernel, by decide +kernel, by decide +kernel⟩
  exact zV5 (zGT_in 1347 (by decide +kernel) rfl) (zGT_in 459 (by decide +kernel) rfl) (zGT_in 460 (by decide +kernel) rfl) (zGT_in 111 (by decide +kernel) rfl) (zGT_in 461 (by decide +kernel) rfl)
theorem zcu_J5_208 : zCU RJ5 208 yJ5_putStringAt_47b60 cJ5_putStringAt_47b60 3 none 2 := ⟨zGT_in 1348 (by decide +kernel) rfl, zGT_in 2137 (by decide +kernel) rfl, zGT_in 1350 (by decide +kernel) rfl, zGT_in 109 (by decide +kernel) rfl, zGT_in 1351 (by decide +kernel) rfl, Or.inl (zGT_sel 3 rfl), by decide +kernel, by decide +kernel, by decide +kernel⟩
theorem zbi_m10 : (Int8.ofInt (-10)).toInt32 = (-10 : Int32) := by decide +kernel
theorem zbi_10 : (Int8.ofInt (10)).toInt32 = (10 : Int32) := by decide +kernel
theorem zbi_m100 : (Int8.ofInt (-100)).toInt32 = (-100 : Int32) := by decide +kernel
theorem zbi_100 : (Int8.ofInt (100)).toInt32 = (100 : Int32) := by decide +kernel
theorem zi_m1 : Int32.ofInt (-1) = (-1 : Int32) := by decide +kernel
theorem zg_J6_83 : Cond.fieldLink RJ6 83 "java/lang/Integer" "DigitOnes" "[B" ∈ zGT := zGT_in 1395 (by decide +kernel) rfl
theorem zg_J6_87 : Cond.fieldLink RJ6 87 "java/lang/Integer" "DigitTens" "[B" ∈ zGT := zGT_in 1397 (by decide +kernel) rfl
theorem zbi_m9 : (Int8.ofInt (-9)).toInt32 = (-9 : Int32) := by decide +kernel
theorem zbi_45 : (Int8.ofInt (45)).toInt32 = (45 : Int32) := by decide +kernel
theorem zs_J5_245 : zCS RJ5 245 yJ6_stringSize_0f7a4 cJ6_stringSize_0f7a4 4 (some .int) 1 := by
  refine ⟨?_, by decide +kernel, by decide +kernel, by decide +kernel⟩
  exact zS4 (zGT_in 1389 (by decide +kernel) rfl) (zGT_in 1390 (by decide +kernel) rfl) (zGT_in 125 (by decide +kernel) rfl) (zGT_in 1391 (by decide +kernel) rfl)
theorem zs_J5_248 : zCS RJ5 248 yJ6_getChars_ba4f3 cJ6_getChars_ba4f3 7 (some .int) 3 := by
  refine ⟨?_, by decide +kernel, by decide +kernel, by decide +kernel⟩
  exact zS4 (zGT_in 1392 (by decide +kernel) rfl) (zGT_in 1393 (by decide +kernel) rfl) (zGT_in 125 (by decide +kernel) rfl) (zGT_in 1394 (by decide +kernel) rfl)
theorem zf_J5_73 : zFW RJ5 73 9 2 := ⟨RJ4, TJ4, 4, by decide, rfl, by decide, zu_J4, zGT_in 384 (by decide +kernel) rfl⟩
theorem zp_J5_73 : zPW RJ5 73 9 2 .boolean := ⟨RJ4, TJ4, 4, tyJ4, ⟨by decide, rfl, by decide, zu_J4, zGT_in 384 (by decide +kernel) rfl⟩, tyJ4_ok, nmJ4, rfl, by decide +kernel⟩
theorem zsu_J4_50 : zCUS RJ4 50 yJ5_append_3fe6f cJ5_append_3fe6f 2 (some (.object "java/lang/AbstractStringBuilder")) 1 := ⟨zU6 (zGT_in 1509 (by decide +kernel) rfl) (zGT_in 2142 (by decide +kernel) rfl) (zGT_in 395 (by decide +kernel) rfl) (zGT_in 1510 (by decide +kernel) rfl) (zGT_in 109 (by decide +kernel) rfl) (zGT_in 1511 (by decide +kernel) rfl), by decide +kernel, by decide +kernel⟩
theorem zsu_J4_29 : zCUS RJ4 29 yJ5_append_cf1ce cJ5_append_cf1ce 3 (some (.object "java/lang/AbstractStringBuilder")) 1 := ⟨zU6 (zGT_in 1291 (by decide +kernel) rfl) (zGT_in 2133 (by decide +kernel) rfl) (zGT_in 395 (by decide +kernel) rfl) (zGT_in 1292 (by decide +kernel) rfl) (zGT_in 109 (by decide +kernel) rfl) (zGT_in 1293 (by decide +kernel) rfl), by decide +kernel, by decide +kernel⟩
theorem zsu_J4_53 : zCUS RJ4 53 yJ5_append_c97b9 cJ5_append_c97b9 4 (some (.object "java/lang/AbstractStringBuilder")) 1 := ⟨zU6 (zGT_in 1386 (by decide +kernel) rfl) (zGT_in 2140 (by decide +kernel) rfl) (zGT_in 395 (by decide +kernel) rfl) (zGT_in 1387 (by decide +kernel) rfl) (zGT_in 109 (by decide +kernel) rfl) (zGT_in 1388 (by decide +kernel) rfl), by decide +kernel, by decide +kernel⟩
theorem zsu_J4_333 : zCUS RJ4 333 yJ5_setLength_d00df cJ5_setLength_d00df 2 none 1 := ⟨zU6 (zGT_in 1276 (by decide +kernel) rfl) (zGT_in 2132 (by decide +kernel) rfl) (zGT_in 395 (by decide +kernel) rfl) (zGT_in 1277 (by decide +kernel) rfl) (zGT_in 109 (by decide +kernel) rfl) (zGT_in 1278 (by decide +kernel) rfl), by decide +kernel, by decide +kernel⟩
theorem zm_J5_138 : zMW RJ5 138 Lib.Math.min.name Lib.Math.min.code 2 := ⟨zGT_in 908 (by decide +kernel) rfl, zGT_in 437 (by decide +kernel) rfl, zGT_in 114 (by decide +kernel) rfl, zGT_in 438 (by decide +kernel) rfl⟩
theorem zs_J5_144 : zCS RJ5 144 yJ0_checkIndex_df160 cJ0_checkIndex_df160 2 none 2 := by
  refine ⟨?_, by decide +kernel, by decide +kernel, by decide +kernel⟩
  exact zS4 (zGT_in 909 (by decide +kernel) rfl) (zGT_in 479 (by decide +kernel) rfl) (zGT_in 111 (by decide +kernel) rfl) (zGT_in 480 (by decide +kernel) rfl)
theorem zsu_J4_329 : zCUS RJ4 329 yJ5_charAt_5068e cJ5_charAt_5068e 5 (some .char) 1 := ⟨zU6 (zGT_in 905 (by decide +kernel) rfl) (zGT_in 2130 (by decide +kernel) rfl) (zGT_in 395 (by decide +kernel) rfl) (zGT_in 906 (by decide +kernel) rfl) (zGT_in 109 (by decide +kernel) rfl) (zGT_in 907 (by decide +kernel) rfl), by decide +kernel, by decide +kernel⟩
theorem zsu_J4_343 : zCUS RJ4 343 yJ5_length_8abf5 cJ5_length_8abf5 1 (some .int) 0 := ⟨zU6 (zGT_in 898 (by decide +kernel) rfl) (zGT_in 2129 (by decide +kernel) rfl) (zGT_in 395 (by decide +kernel) rfl) (zGT_in 899 (by decide +kernel) rfl) (zGT_in 109 (by decide +kernel) rfl) (zGT_in 900 (by decide +kernel) rfl), by decide +kernel, by decide +kernel⟩
theorem zo_X0_3 : zOI RX0 3 := ⟨zGT_in 270 (by decide +kernel) rfl, zGT_in 133 (by decide +kernel) rfl, zGT_in 134 (by decide +kernel) rfl⟩
theorem zbi_12 : (Int8.ofInt (12)).toInt32 = (12 : Int32) := by decide +kernel
theorem zar_int : Cond.arrayClass .int ∈ zGT := zGT_in 234 (by decide +kernel) rfl
theorem zu_X0 : ∀ w ∈ u_ws RX0 TX0 9, w ∈ zGT := fun w h => zGT_of ((by decide +kernel : ∀ w ∈ u_ws RX0 TX0 9, w ∈ lw_tbl) w h) ((by decide +kernel : ∀ w ∈ u_ws RX0 TX0 9, goodWord w = true) w h)
theorem zf_X0_9 : zFW RX0 9 0 6 := ⟨RX0, TX0, 9, by decide, rfl, by decide, zu_X0, zGT_in 288 (by decide +kernel) rfl⟩
theorem zpf_X0_9 : zPF RX0 9 0 6 (.array .int) := ⟨RX0, TX0, 9, tyX0, ⟨by decide, rfl, by decide, zu_X0, zGT_in 288 (by decide +kernel) rfl⟩, tyX0_ok, nmX0, rfl, rfl, by decide +kernel⟩
theorem zi_4 : Int32.ofInt (4) = (4 : Int32) := by decide +kernel
theorem zf_X0_15 : zFW RX0 15 0 7 := ⟨RX0, TX0, 9, by decide, rfl, by decide, zu_X0, zGT_in 290 (by decide +kernel) rfl⟩
theorem zpf_X0_15 : zPF RX0 15 0 7 (.array .int) := ⟨RX0, TX0, 9, tyX0, ⟨by decide, rfl, by decide, zu_X0, zGT_in 290 (by decide +kernel) rfl⟩, tyX0_ok, nmX0, rfl, rfl, by decide +kernel⟩
theorem zbi_24 : (Int8.ofInt (24)).toInt32 = (24 : Int32) := by decide +kernel
theorem zf_X0_18 : zFW RX0 18 0 8 := ⟨RX0, TX0, 9, by decide, rfl, by decide, zu_X0, zGT_in 293 (by decide +kernel) rfl⟩
theorem zpf_X0_18 : zPF RX0 18 0 8 (.array .int) := ⟨RX0, TX0, 9, tyX0, ⟨by decide, rfl, by decide, zu_X0, zGT_in 293 (by decide +kernel) rfl⟩, tyX0_ok, nmX0, rfl, rfl, by decide +kernel⟩
theorem zf_X0_28 : zFW RX0 28 0 2 := ⟨RX0, TX0, 9, by decide, rfl, by decide, zu_X0, zGT_in 278 (by decide +kernel) rfl⟩
theorem zp_X0_28 : zPW RX0 28 0 2 .int := ⟨RX0, TX0, 9, tyX0, ⟨by decide, rfl, by decide, zu_X0, zGT_in 278 (by decide +kernel) rfl⟩, tyX0_ok, nmX0, rfl, by decide +kernel⟩
theorem zbi_m3 : (Int8.ofInt (-3)).toInt32 = (-3 : Int32) := by decide +kernel
theorem zf_X0_21 : zFW RX0 21 0 0 := ⟨RX0, TX0, 9, by decide, rfl, by decide, zu_X0, zGT_in 271 (by decide +kernel) rfl⟩
theorem zp_X0_21 : zPW RX0 21 0 0 .int := ⟨RX0, TX0, 9, tyX0, ⟨by decide, rfl, by decide, zu_X0, zGT_in 271 (by decide +kernel) rfl⟩, tyX0_ok, nmX0, rfl, by decide +kernel⟩
theorem zf_X0_25 : zFW RX0 25 0 1 := ⟨RX0, TX0, 9, by decide, rfl, by decide, zu_X0, zGT_in 275 (by decide +kernel) rfl⟩
theorem zp_X0_25 : zPW RX0 25 0 1 .int := ⟨RX0, TX0, 9, tyX0, ⟨by decide, rfl, by decide, zu_X0, zGT_in 275 (by decide +kernel) rfl⟩, tyX0_ok, nmX0, rfl, by decide +kernel⟩
theorem zc_X0_31 : zCV RX0 31 yX0_enter cX0_enter 2 none 0 1 := by
  refine ⟨RX0, Or.inl ⟨by decide, TX0, 9, rfl⟩, ?_, rfl, by decide +kernel, by decide +kernel, by decide +kernel⟩
  exact zV5 (zGT_in 614 (by decide +kernel) rfl) (zGT_in 615 (by decide +kernel) rfl) (zGT_in 616 (by decide +kernel) rfl) (zGT_in 107 (by decide +kernel) rfl) (zGT_in 617 (by decide +kernel) rfl)
theorem zf_X0_35 : zFW RX0 35 0 3 := ⟨RX0, TX0, 9, by decide, rfl, by decide, zu_X0, zGT_in 281 (by decide +kernel) rfl⟩
theorem zp_X0_35 : zPW RX0 35 0 3 .int := ⟨RX0, TX0, 9, tyX0, ⟨by decide, rfl, by decide, zu_X0, zGT_in 281 (by decide +kernel) rfl⟩, tyX0_ok, nmX0, rfl, by decide +kernel⟩
theorem zf_X0_38 : zFW RX0 38 0 4 := ⟨RX0, TX0, 9, by decide, rfl, by decide, zu_X0, zGT_in 284 (by decide +kernel) rfl⟩
theorem zp_X0_38 : zPW RX0 38 0 4 .int := ⟨RX0, TX0, 9, tyX0, ⟨by decide, rfl, by decide, zu_X0, zGT_in 284 (by decide +kernel) rfl⟩, tyX0_ok, nmX0, rfl, by decide +kernel⟩
theorem zf_X0_41 : zFW RX0 41 0 5 := ⟨RX0, TX0, 9, by decide, rfl, by decide, zu_X0, zGT_in 285 (by decide +kernel) rfl⟩
theorem zp_X0_41 : zPW RX0 41 0 5 .boolean := ⟨RX0, TX0, 9, tyX0, ⟨by decide, rfl, by decide, zu_X0, zGT_in 285 (by decide +kernel) rfl⟩, tyX0_ok, nmX0, rfl, by decide +kernel⟩
theorem zy_X0_45 : zYW RX0 45 := ⟨zGT_in 770 (by decide +kernel) rfl, zGT_in 620 (by decide +kernel) rfl, zGT_in 619 (by decide +kernel) rfl, zGT_in 117 (by decide +kernel) rfl⟩
theorem zc_X0_51 : zCV RX0 51 yX0_isAtTable cX0_isAtTable 1 (some .boolean) 0 0 := by
  refine ⟨RX0, Or.inl ⟨by decide, TX0, 9, rfl⟩, ?_, rfl, by decide +kernel, by decide +kernel, by decide +kernel⟩
  exact zV5 (zGT_in 788 (by decide +kernel) rfl) (zGT_in 789 (by decide +kernel) rfl) (zGT_in 790 (by decide +kernel) rfl) (zGT_in 107 (by decide +kernel) rfl) (zGT_in 791 (by decide +kernel) rfl)
theorem zbi_6 : (Int8.ofInt (6)).toInt32 = (6 : Int32) := by decide +kernel
theorem zc_X0_55 : zCV RX0 55 yX0_hasCount cX0_hasCount 2 (some .boolean) 0 1 := by
  refine ⟨RX0, Or.inl ⟨by decide, TX0, 9, rfl⟩, ?_, rfl, by decide +kernel, by decide +kernel, by decide +kernel⟩
  exact zV5 (zGT_in 674 (by decide +kernel) rfl) (zGT_in 675 (by decide +kernel) rfl) (zGT_in 676 (by decide +kernel) rfl) (zGT_in 107 (by decide +kernel) rfl) (zGT_in 677 (by decide +kernel) rfl)
theorem zc_X0_59 : zCV RX0 59 yX0_foundBy cX0_foundBy 3 (some .int) 0 2 := by
  refine ⟨RX0, Or.inl ⟨by decide, TX0, 9, rfl⟩, ?_, rfl, by decide +kernel, by decide +kernel, by decide +kernel⟩
  exact zV5 (zGT_in 678 (by decide +kernel) rfl) (zGT_in 679 (by decide +kernel) rfl) (zGT_in 680 (by decide +kernel) rfl) (zGT_in 107 (by decide +kernel) rfl) (zGT_in 681 (by decide +kernel) rfl)
theorem zc_X0_67 : zCV RX0 67 yX0_agree cX0_agree 5 (some .boolean) 0 3 := by
  refine ⟨RX0, Or.inl ⟨by decide, TX0, 9, rfl⟩, ?_, rfl, by decide +kernel, by decide +kernel, by decide +kernel⟩
  exact zV5 (zGT_in 821 (by decide +kernel) rfl) (zGT_in 823 (by decide +kernel) rfl) (zGT_in 20 (by decide +kernel) rfl) (zGT_in 107 (by decide +kernel) rfl) (zGT_in 824 (by decide +kernel) rfl)
theorem zc_X0_63 : zCV RX0 63 yX0_isRepeatedAfter cX0_isRepeatedAfter 4 (some .boolean) 0 2 := by
  refine ⟨RX0, Or.inl ⟨by decide, TX0, 9, rfl⟩, ?_, rfl, by decide +kernel, by decide +kernel, by decide +kernel⟩
  exact zV5 (zGT_in 817 (by decide +kernel) rfl) (zGT_in 819 (by decide +kernel) rfl) (zGT_in 19 (by decide +kernel) rfl) (zGT_in 107 (by decide +kernel) rfl) (zGT_in 820 (by decide +kernel) rfl)
theorem zo_X5_3 : zOI RX5 3 := ⟨zGT_in 175 (by decide +kernel) rfl, zGT_in 133 (by decide +kernel) rfl, zGT_in 134 (by decide +kernel) rfl⟩
theorem zi_5 : Int32.ofInt (5) = (5 : Int32) := by decide +kernel
theorem zu_X5 : ∀ w ∈ u_ws RX5 TX5 10, w ∈ zGT := fun w h => zGT_of ((by decide +kernel : ∀ w ∈ u_ws RX5 TX5 10, w ∈ lw_tbl) w h) ((by decide +kernel : ∀ w ∈ u_ws RX5 TX5 10, goodWord w = true) w h)
theorem zf_X5_9 : zFW RX5 9 5 0 := ⟨RX5, TX5, 10, by decide, rfl, by decide, zu_X5, zGT_in 178 (by decide +kernel) rfl⟩
theorem zpf_X5_9 : zPF RX5 9 5 0 (.array .int) := ⟨RX5, TX5, 10, tyX5, ⟨by decide, rfl, by decide, zu_X5, zGT_in 178 (by decide +kernel) rfl⟩, tyX5_ok, nmX5, rfl, rfl, by decide +kernel⟩
theorem zml_X5_15 : Cond.classLink RX5 15 ("[" ++ (FieldType.array .int).toString) ∈ zGT := zGT_in 176 (by decide +kernel) rfl
theorem zf_X5_17 : zFW RX5 17 5 1 := ⟨RX5, TX5, 10, by decide, rfl, by decide, zu_X5, zGT_in 183 (by decide +kernel) rfl⟩
theorem zpf_X5_17 : zPF RX5 17 5 1 (.array (.array .int)) := ⟨RX5, TX5, 10, tyX5, ⟨by decide, rfl, by decide, zu_X5, zGT_in 183 (by decide +kernel) rfl⟩, tyX5_ok, nmX5, rfl, rfl, by decide +kernel⟩
theorem zf_X5_20 : zFW RX5 20 5 2 := ⟨RX5, TX5, 10, by decide, rfl, by decide, zu_X5, zGT_in 186 (by decide +kernel) rfl⟩
theorem zpf_X5_20 : zPF RX5 20 5 2 (.array .int) := ⟨RX5, TX5, 10, tyX5, ⟨by decide, rfl, by decide, zu_X5, zGT_in 186 (by decide +kernel) rfl⟩, tyX5_ok, nmX5, rfl, rfl, by decide +kernel⟩
theorem zf_X5_23 : zFW RX5 23 5 3 := ⟨RX5, TX5, 10, by decide, rfl, by decide, zu_X5, zGT_in 189 (by decide +kernel) rfl⟩
theorem zpf_X5_23 : zPF RX5 23 5 3 (.array .int) := ⟨RX5, TX5, 10, tyX5, ⟨by decide, rfl, by decide, zu_X5, zGT_in 189 (by decide +kernel) rfl⟩, tyX5_ok, nmX5, rfl, rfl, by decide +kernel⟩
theorem zf_X5_26 : zFW RX5 26 5 4 := ⟨RX5, TX5, 10, by decide, rfl, by decide, zu_X5, zGT_in 192 (by decide +kernel) rfl⟩
theorem zpf_X5_26 : zPF RX5 26 5 4 (.array .int) := ⟨RX5, TX5, 10, tyX5, ⟨by decide, rfl, by decide, zu_X5, zGT_in 192 (by decide +kernel) rfl⟩, tyX5_ok, nmX5, rfl, rfl, by decide +kernel⟩
theorem zf_X5_29 : zFW RX5 29 5 5 := ⟨RX5, TX5, 10, by decide, rfl, by decide, zu_X5, zGT_in 196 (by decide +kernel) rfl⟩
theorem zpf_X5_29 : zPF RX5 29 5 5 (.array .int) := ⟨RX5, TX5, 10, tyX5, ⟨by decide, rfl, by decide, zu_X5, zGT_in 196 (by decide +kernel) rfl⟩, tyX5_ok, nmX5, rfl, rfl, by decide +kernel⟩
theorem zf_X5_32 : zFW RX5 32 5 6 := ⟨RX5, TX5, 10, by decide, rfl, by decide, zu_X5, zGT_in 200 (by decide +kernel) rfl⟩
theorem zpf_X5_32 : zPF RX5 32 5 6 (.array .int) := ⟨RX5, TX5, 10, tyX5, ⟨by decide, rfl, by decide, zu_X5, zGT_in 200 (by decide +kernel) rfl⟩, tyX5_ok, nmX5, rfl, rfl, by decide +kernel⟩
theorem zf_X5_35 : zFW RX5 35 5 7 := ⟨RX5, TX5, 10, by decide, rfl, by decide, zu_X5, zGT_in 203 (by decide +kernel) rfl⟩
theorem zpf_X5_35 : zPF RX5 35 5 7 (.array (.array .int)) := ⟨RX5, TX5, 10, tyX5, ⟨by decide, rfl, by decide, zu_X5, zGT_in 203 (by decide +kernel) rfl⟩, tyX5_ok, nmX5, rfl, rfl, by decide +kernel⟩
theorem zf_X5_38 : zFW RX5 38 5 8 := ⟨RX5, TX5, 10, by decide, rfl, by decide, zu_X5, zGT_in 207 (by decide +kernel) rfl⟩
theorem zpf_X5_38 : zPF RX5 38 5 8 (.array .int) := ⟨RX5, TX5, 10, tyX5, ⟨by decide, rfl, by decide, zu_X5, zGT_in 207 (by decide +kernel) rfl⟩, tyX5_ok, nmX5, rfl, rfl, by decide +kernel⟩
theorem zf_X5_41 : zFW RX5 41 5 9 := ⟨RX5, TX5, 10, by decide, rfl, by decide, zu_X5, zGT_in 210 (by decide +kernel) rfl⟩
theorem zpf_X5_41 : zPF RX5 41 5 9 (.array .int) := ⟨RX5, TX5, 10, tyX5, ⟨by decide, rfl, by decide, zu_X5, zGT_in 210 (by decide +kernel) rfl⟩, tyX5_ok, nmX5, rfl, rfl, by decide +kernel⟩
theorem zo_X6_3 : zOI RX6 3 := ⟨zGT_in 263 (by decide +kernel) rfl, zGT_in 133 (by decide +kernel) rfl, zGT_in 134 (by decide +kernel) rfl⟩
theorem zal_X6_9 : Cond.classLink RX6 9 "CountHall$Box" ∈ zGT := zGT_in 264 (by decide +kernel) rfl
theorem zu_X6 : ∀ w ∈ u_ws RX6 TX6 5, w ∈ zGT := fun w h => zGT_of ((by decide +kernel : ∀ w ∈ u_ws RX6 TX6 5, w ∈ lw_tbl) w h) ((by decide +kernel : ∀ w ∈ u_ws RX6 TX6 5, goodWord w = true) w h)
theorem zf_X6_11 : zFW RX6 11 6 0 := ⟨RX6, TX6, 5, by decide, rfl, by decide, zu_X6, zGT_in 314 (by decide +kernel) rfl⟩
theorem zpf_X6_11 : zPF RX6 11 6 0 (.array (.object "CountHall$Box")) := ⟨RX6, TX6, 5, tyX6, ⟨by decide, rfl, by decide, zu_X6, zGT_in 314 (by decide +kernel) rfl⟩, tyX6_ok, nmX6, rfl, rfl, by decide +kernel⟩
theorem zf_X6_17 : zFW RX6 17 6 1 := ⟨RX6, TX6, 5, by decide, rfl, by decide, zu_X6, zGT_in 317 (by decide +kernel) rfl⟩
theorem zpf_X6_17 : zPF RX6 17 6 1 (.array .int) := ⟨RX6, TX6, 5, tyX6, ⟨by decide, rfl, by decide, zu_X6, zGT_in 317 (by decide +kernel) rfl⟩, tyX6_ok, nmX6, rfl, rfl, by decide +kernel⟩
theorem zf_X6_21 : zFW RX6 21 6 2 := ⟨RX6, TX6, 5, by decide, rfl, by decide, zu_X6, zGT_in 320 (by decide +kernel) rfl⟩
theorem zpf_X6_21 : zPF RX6 21 6 2 (.array .int) := ⟨RX6, TX6, 5, tyX6, ⟨by decide, rfl, by decide, zu_X6, zGT_in 320 (by decide +kernel) rfl⟩, tyX6_ok, nmX6, rfl, rfl, by decide +kernel⟩
theorem za_X6_9 : zAW RX6 9 0 [.int 0, .int 0, .int 0, .int 0, .int 0, .int 0, .null, .null, .null] := ⟨RX0, TX0, 9, tyX0, by decide, rfl, rfl, zu_X0, tyX0_ok, (fun j hj => by rcases (show j = 0 ∨ j = 1 ∨ j = 2 ∨ j = 3 ∨ j = 4 ∨ j = 5 ∨ j = 6 ∨ j = 7 ∨ j = 8 by omega) with rfl | rfl | rfl | rfl | rfl | rfl | rfl | rfl | rfl <;> rfl), zGT_in 264 (by decide +kernel) rfl, zGT_in 266 (by decide +kernel) rfl, zGT_in 107 (by decide +kernel) rfl⟩
theorem zci_X6_24 : zCIN RX6 24 yX0_init cX0_init 1 0 "CountHall" := ⟨by decide +kernel, zGT_in 268 (by decide +kernel) rfl, zGT_in 107 (by decide +kernel) rfl, zGT_in 269 (by decide +kernel) rfl, by decide +kernel, by decide +kernel, by decide +kernel, by decide +kernel⟩
theorem zsi_5000 : (Int16.ofInt (5000)).toInt32 = (5000 : Int32) := by decide +kernel
theorem zf_X6_25 : zFW RX6 25 6 4 := ⟨RX6, TX6, 5, by decide, rfl, by decide, zu_X6, zGT_in 326 (by decide +kernel) rfl⟩
theorem zp_X6_25 : zPW RX6 25 6 4 .int := ⟨RX6, TX6, 5, tyX6, ⟨by decide, rfl, by decide, zu_X6, zGT_in 326 (by decide +kernel) rfl⟩, tyX6_ok, nmX6, rfl, by decide +kernel⟩
theorem zo_X1_3 : zOI RX1 3 := ⟨zGT_in 255 (by decide +kernel) rfl, zGT_in 133 (by decide +kernel) rfl, zGT_in 134 (by decide +kernel) rfl⟩
theorem za_X1_9 : zAW RX1 9 5 [.null, .null, .null, .null, .null, .null, .null, .null, .null, .null] := ⟨RX5, TX5, 10, tyX5, by decide, rfl, rfl, zu_X5, tyX5_ok, (fun j hj => by rcases (show j = 0 ∨ j = 1 ∨ j = 2 ∨ j = 3 ∨ j = 4 ∨ j = 5 ∨ j = 6 ∨ j = 7 ∨ j = 8 ∨ j = 9 by omega) with rfl | rfl | rfl | rfl | rfl | rfl | rfl | rfl | rfl | rfl <;> rfl), zGT_in 256 (by decide +kernel) rfl, zGT_in 171 (by decide +kernel) rfl, zGT_in 104 (by decide +kernel) rfl⟩
theorem zci_X1_11 : zCIN RX1 11 yX5_init cX5_init 1 0 "CountHall" := ⟨by decide +kernel, zGT_in 173 (by decide +kernel) rfl, zGT_in 104 (by decide +kernel) rfl, zGT_in 174 (by decide +kernel) rfl, by decide +kernel, by decide +kernel, by decide +kernel, by decide +kernel⟩
theorem zu_X1 : ∀ w ∈ u_ws RX1 TX1 2, w ∈ zGT := fun w h => zGT_of ((by decide +kernel : ∀ w ∈ u_ws RX1 TX1 2, w ∈ lw_tbl) w h) ((by decide +kernel : ∀ w ∈ u_ws RX1 TX1 2, goodWord w = true) w h)
theorem zf_X1_12 : zFW RX1 12 1 0 := ⟨RX1, TX1, 2, by decide, rfl, by decide, zu_X1, zGT_in 338 (by decide +kernel) rfl⟩
theorem zp_X1_12 : zPW RX1 12 1 0 (.object "CountHall$Plan") := ⟨RX1, TX1, 2, tyX1, ⟨by decide, rfl, by decide, zu_X1, zGT_in 338 (by decide +kernel) rfl⟩, tyX1_ok, nmX1, rfl, by decide +kernel⟩
theorem za_X1_18 : zAW RX1 18 6 [.null, .null, .null, .int 0, .int 0] := ⟨RX6, TX6, 5, tyX6, by decide, rfl, rfl, zu_X6, tyX6_ok, (fun j hj => by rcases (show j = 0 ∨ j = 1 ∨ j = 2 ∨ j = 3 ∨ j = 4 by omega) with rfl | rfl | rfl | rfl | rfl <;> rfl), zGT_in 258 (by decide +kernel) rfl, zGT_in 259 (by decide +kernel) rfl, zGT_in 106 (by decide +kernel) rfl⟩
theorem zci_X1_20 : zCI RX1 20 yX6_init cX6_init 2 0 := ⟨zGT_in 260 (by decide +kernel) rfl, zGT_in 261 (by decide +kernel) rfl, zGT_in 106 (by decide +kernel) rfl, zGT_in 262 (by decide +kernel) rfl, by decide +kernel, by decide +kernel, by decide +kernel, by decide +kernel⟩
theorem zf_X1_21 : zFW RX1 21 1 1 := ⟨RX1, TX1, 2, by decide, rfl, by decide, zu_X1, zGT_in 340 (by decide +kernel) rfl⟩
theorem zpf_X1_21 : zPF RX1 21 1 1 (.object "CountHall$State") := ⟨RX1, TX1, 2, tyX1, ⟨by decide, rfl, by decide, zu_X1, zGT_in 340 (by decide +kernel) rfl⟩, tyX1_ok, nmX1, rfl, rfl, by decide +kernel⟩
theorem zf_X6_29 : zFW RX6 29 5 0 := ⟨RX5, TX5, 10, by decide, rfl, by decide, zu_X5, zGT_in 179 (by decide +kernel) rfl⟩
theorem zi_3 : Int32.ofInt (3) = (3 : Int32) := by decide +kernel
theorem zf_X6_34 : zFW RX6 34 5 6 := ⟨RX5, TX5, 10, by decide, rfl, by decide, zu_X5, zGT_in 201 (by decide +kernel) rfl⟩
theorem zc_X6_37 : zCV RX6 37 yX0_begin cX0_begin 2 none 0 1 := by
  refine ⟨RX0, Or.inl ⟨by decide, TX0, 9, rfl⟩, ?_, rfl, by decide +kernel, by decide +kernel, by decide +kernel⟩
  exact zV5 (zGT_in 610 (by decide +kernel) rfl) (zGT_in 611 (by decide +kernel) rfl) (zGT_in 612 (by decide +kernel) rfl) (zGT_in 107 (by decide +kernel) rfl) (zGT_in 613 (by decide +kernel) rfl)
theorem zf_X6_41 : zFW RX6 41 5 9 := ⟨RX5, TX5, 10, by decide, rfl, by decide, zu_X5, zGT_in 211 (by decide +kernel) rfl⟩
theorem zy_X6_42 : zYW RX6 42 := ⟨zGT_in 618 (by decide +kernel) rfl, zGT_in 620 (by decide +kernel) rfl, zGT_in 619 (by decide +kernel) rfl, zGT_in 117 (by decide +kernel) rfl⟩
theorem zf_X6_48 : zFW RX6 48 6 3 := ⟨RX6, TX6, 5, by decide, rfl, by decide, zu_X6, zGT_in 323 (by decide +kernel) rfl⟩
theorem zp_X6_48 : zPW RX6 48 6 3 .int := ⟨RX6, TX6, 5, tyX6, ⟨by decide, rfl, by decide, zu_X6, zGT_in 323 (by decide +kernel) rfl⟩, tyX6_ok, nmX6, rfl, by decide +kernel⟩
theorem zc_X1_25 : zCV RX1 25 yX6_begin cX6_begin 3 none 6 1 := by
  refine ⟨RX6, Or.inl ⟨by decide, TX6, 5, rfl⟩, ?_, rfl, by decide +kernel, by decide +kernel, by decide +kernel⟩
  exact zV5 (zGT_in 606 (by decide +kernel) rfl) (zGT_in 607 (by decide +kernel) rfl) (zGT_in 608 (by decide +kernel) rfl) (zGT_in 106 (by decide +kernel) rfl) (zGT_in 609 (by decide +kernel) rfl)
theorem zf_X1_29 : zFW RX1 29 5 0 := ⟨RX5, TX5, 10, by decide, rfl, by decide, zu_X5, zGT_in 180 (by decide +kernel) rfl⟩
theorem zf_X1_33 : zFW RX1 33 6 0 := ⟨RX6, TX6, 5, by decide, rfl, by decide, zu_X6, zGT_in 315 (by decide +kernel) rfl⟩
theorem zf_X1_37 : zFW RX1 37 0 0 := ⟨RX0, TX0, 9, by decide, rfl, by decide, zu_X0, zGT_in 272 (by decide +kernel) rfl⟩
theorem zbi_m4 : (Int8.ofInt (-4)).toInt32 = (-4 : Int32) := by decide +kernel
theorem zc_X5_52 : zCV RX5 52 yX5_slipped cX5_slipped 6 (some .int) 5 3 := by
  refine ⟨RX5, Or.inl ⟨by decide, TX5, 10, rfl⟩, ?_, rfl, by decide +kernel, by decide +kernel, by decide +kernel⟩
  exact zV5 (zGT_in 809 (by decide +kernel) rfl) (zGT_in 811 (by decide +kernel) rfl) (zGT_in 18 (by decide +kernel) rfl) (zGT_in 104 (by decide +kernel) rfl) (zGT_in 812 (by decide +kernel) rfl)
theorem zc_X5_44 : zCV RX5 44 yX5_piles cX5_piles 1 (some .int) 5 0 := by
  refine ⟨RX5, Or.inl ⟨by decide, TX5, 10, rfl⟩, ?_, rfl, by decide +kernel, by decide +kernel, by decide +kernel⟩
  exact zV5 (zGT_in 808 (by decide +kernel) rfl) (zGT_in 576 (by decide +kernel) rfl) (zGT_in 577 (by decide +kernel) rfl) (zGT_in 104 (by decide +kernel) rfl) (zGT_in 578 (by decide +kernel) rfl)
theorem zf_X1_43 : zFW RX1 43 0 3 := ⟨RX0, TX0, 9, by decide, rfl, by decide, zu_X0, zGT_in 282 (by decide +kernel) rfl⟩
theorem zf_X1_46 : zFW RX1 46 0 7 := ⟨RX0, TX0, 9, by decide, rfl, by decide, zu_X0, zGT_in 291 (by decide +kernel) rfl⟩
theorem zc_X1_49 : zCV RX1 49 yX5_piles cX5_piles 1 (some .int) 5 0 := by
  refine ⟨RX5, Or.inl ⟨by decide, TX5, 10, rfl⟩, ?_, rfl, by decide +kernel, by decide +kernel, by decide +kernel⟩
  exact zV5 (zGT_in 669 (by decide +kernel) rfl) (zGT_in 576 (by decide +kernel) rfl) (zGT_in 577 (by decide +kernel) rfl) (zGT_in 104 (by decide +kernel) rfl) (zGT_in 578 (by decide +kernel) rfl)
theorem zf_X1_53 : zFW RX1 53 0 8 := ⟨RX0, TX0, 9, by decide, rfl, by decide, zu_X0, zGT_in 294 (by decide +kernel) rfl⟩
theorem zc_X1_56 : zCV RX1 56 yX5_wouldFind cX5_wouldFind 6 (some .int) 5 3 := by
  refine ⟨RX5, Or.inl ⟨by decide, TX5, 10, rfl⟩, ?_, rfl, by decide +kernel, by decide +kernel, by decide +kernel⟩
  exact zV5 (zGT_in 804 (by decide +kernel) rfl) (zGT_in 805 (by decide +kernel) rfl) (zGT_in 806 (by decide +kernel) rfl) (zGT_in 104 (by decide +kernel) rfl) (zGT_in 807 (by decide +kernel) rfl)
theorem zp_X1_43 : zPW RX1 43 0 3 .int := ⟨RX0, TX0, 9, tyX0, ⟨by decide, rfl, by decide, zu_X0, zGT_in 282 (by decide +kernel) rfl⟩, tyX0_ok, nmX0, rfl, by decide +kernel⟩
theorem zc_X1_60 : zCV RX1 60 yX0_chooseValid cX0_chooseValid 3 none 0 1 := by
  refine ⟨RX0, Or.inl ⟨by decide, TX0, 9, rfl⟩, ?_, rfl, by decide +kernel, by decide +kernel, by decide +kernel⟩
  exact zV5 (zGT_in 813 (by decide +kernel) rfl) (zGT_in 814 (by decide +kernel) rfl) (zGT_in 815 (by decide +kernel) rfl) (zGT_in 107 (by decide +kernel) rfl) (zGT_in 816 (by decide +kernel) rfl)
theorem zc_X1_79 : zCV RX1 79 yX0_bearsGoodSeal cX0_bearsGoodSeal 1 (some .boolean) 0 0 := by
  refine ⟨RX0, Or.inl ⟨by decide, TX0, 9, rfl⟩, ?_, rfl, by decide +kernel, by decide +kernel, by decide +kernel⟩
  exact zV5 (zGT_in 869 (by decide +kernel) rfl) (zGT_in 785 (by decide +kernel) rfl) (zGT_in 786 (by decide +kernel) rfl) (zGT_in 107 (by decide +kernel) rfl) (zGT_in 787 (by decide +kernel) rfl)
theorem zc_X1_75 : zCV RX1 75 yX0_wasCountedAt cX0_wasCountedAt 3 (some .boolean) 0 1 := by
  refine ⟨RX0, Or.inl ⟨by decide, TX0, 9, rfl⟩, ?_, rfl, by decide +kernel, by decide +kernel, by decide +kernel⟩
  exact zV5 (zGT_in 865 (by decide +kernel) rfl) (zGT_in 866 (by decide +kernel) rfl) (zGT_in 867 (by decide +kernel) rfl) (zGT_in 107 (by decide +kernel) rfl) (zGT_in 868 (by decide +kernel) rfl)
theorem zc_X1_64 : zCV RX1 64 yX1_boxOn cX1_boxOn 3 (some .int) 1 1 := by
  refine ⟨RX1, Or.inl ⟨by decide, TX1, 2, rfl⟩, ?_, rfl, by decide +kernel, by decide +kernel, by decide +kernel⟩
  exact zV5 (zGT_in 860 (by decide +kernel) rfl) (zGT_in 780 (by decide +kernel) rfl) (zGT_in 781 (by decide +kernel) rfl) (zGT_in 105 (by decide +kernel) rfl) (zGT_in 782 (by decide +kernel) rfl)
theorem zc_X1_72 : zCV RX1 72 yX0_openOn cX0_openOn 3 (some .int) 0 1 := by
  refine ⟨RX0, Or.inl ⟨by decide, TX0, 9, rfl⟩, ?_, rfl, by decide +kernel, by decide +kernel, by decide +kernel⟩
  exact zV5 (zGT_in 870 (by decide +kernel) rfl) (zGT_in 793 (by decide +kernel) rfl) (zGT_in 794 (by decide +kernel) rfl) (zGT_in 107 (by decide +kernel) rfl) (zGT_in 795 (by decide +kernel) rfl)
theorem zc_X1_68 : zCV RX1 68 yX1_boxFor cX1_boxFor 6 (some .int) 1 2 := by
  refine ⟨RX1, Or.inl ⟨by decide, TX1, 2, rfl⟩, ?_, rfl, by decide +kernel, by decide +kernel, by decide +kernel⟩
  exact zV5 (zGT_in 861 (by decide +kernel) rfl) (zGT_in 863 (by decide +kernel) rfl) (zGT_in 21 (by decide +kernel) rfl) (zGT_in 105 (by decide +kernel) rfl) (zGT_in 864 (by decide +kernel) rfl)
theorem zf_X6_55 : zFW RX6 55 0 1 := ⟨RX0, TX0, 9, by decide, rfl, by decide, zu_X0, zGT_in 276 (by decide +kernel) rfl⟩
theorem zp_X6_55 : zPW RX6 55 0 1 .int := ⟨RX0, TX0, 9, tyX0, ⟨by decide, rfl, by decide, zu_X0, zGT_in 276 (by decide +kernel) rfl⟩, tyX0_ok, nmX0, rfl, by decide +kernel⟩
theorem zc_X6_58 : zCV RX6 58 yX0_enter cX0_enter 2 none 0 1 := by
  refine ⟨RX0, Or.inl ⟨by decide, TX0, 9, rfl⟩, ?_, rfl, by decide +kernel, by decide +kernel, by decide +kernel⟩
  exact zV5 (zGT_in 833 (by decide +kernel) rfl) (zGT_in 615 (by decide +kernel) rfl) (zGT_in 616 (by decide +kernel) rfl) (zGT_in 107 (by decide +kernel) rfl) (zGT_in 617 (by decide +kernel) rfl)
theorem zf_X6_61 : zFW RX6 61 0 0 := ⟨RX0, TX0, 9, by decide, rfl, by decide, zu_X0, zGT_in 273 (by decide +kernel) rfl⟩
theorem zp_X6_61 : zPW RX6 61 0 0 .int := ⟨RX0, TX0, 9, tyX0, ⟨by decide, rfl, by decide, zu_X0, zGT_in 273 (by decide +kernel) rfl⟩, tyX0_ok, nmX0, rfl, by decide +kernel⟩
theorem zc_X1_83 : zCV RX1 83 yX1_addCount cX1_addCount 6 none 1 2 := by
  refine ⟨RX1, Or.inl ⟨by decide, TX1, 2, rfl⟩, ?_, rfl, by decide +kernel, by decide +kernel, by decide +kernel⟩
  exact zV5 (zGT_in 875 (by decide +kernel) rfl) (zGT_in 801 (by decide +kernel) rfl) (zGT_in 802 (by decide +kernel) rfl) (zGT_in 105 (by decide +kernel) rfl) (zGT_in 803 (by decide +kernel) rfl)
theorem zf_X1_87 : zFW RX1 87 0 2 := ⟨RX0, TX0, 9, by decide, rfl, by decide, zu_X0, zGT_in 279 (by decide +kernel) rfl⟩
theorem zc_X1_90 : zCV RX1 90 yX6_sealUp cX6_sealUp 3 none 6 1 := by
  refine ⟨RX6, Or.inl ⟨by decide, TX6, 5, rfl⟩, ?_, rfl, by decide +kernel, by decide +kernel, by decide +kernel⟩
  exact zV5 (zGT_in 876 (by decide +kernel) rfl) (zGT_in 830 (by decide +kernel) rfl) (zGT_in 831 (by decide +kernel) rfl) (zGT_in 106 (by decide +kernel) rfl) (zGT_in 832 (by decide +kernel) rfl)
theorem zc_X1_93 : zCV RX1 93 yX0_foundValidly cX0_foundValidly 2 (some .int) 0 1 := by
  refine ⟨RX0, Or.inl ⟨by decide, TX0, 9, rfl⟩, ?_, rfl, by decide +kernel, by decide +kernel, by decide +kernel⟩
  exact zV5 (zGT_in 670 (by decide +kernel) rfl) (zGT_in 671 (by decide +kernel) rfl) (zGT_in 672 (by decide +kernel) rfl) (zGT_in 107 (by decide +kernel) rfl) (zGT_in 673 (by decide +kernel) rfl)
theorem zf_X1_96 : zFW RX1 96 5 5 := ⟨RX5, TX5, 10, by decide, rfl, by decide, zu_X5, zGT_in 197 (by decide +kernel) rfl⟩
theorem zc_X1_99 : zCV RX1 99 yX1_papersTooMany cX1_papersTooMany 5 (some .int) 1 1 := by
  refine ⟨RX1, Or.inl ⟨by decide, TX1, 2, rfl⟩, ?_, rfl, by decide +kernel, by decide +kernel, by decide +kernel⟩
  exact zV5 (zGT_in 665 (by decide +kernel) rfl) (zGT_in 666 (by decide +kernel) rfl) (zGT_in 667 (by decide +kernel) rfl) (zGT_in 105 (by decide +kernel) rfl) (zGT_in 668 (by decide +kernel) rfl)
theorem zm_X1_102 : zMW RX1 102 Lib.Math.abs.name Lib.Math.abs.code 1 := ⟨zGT_in 682 (by decide +kernel) rfl, zGT_in 683 (by decide +kernel) rfl, zGT_in 114 (by decide +kernel) rfl, zGT_in 684 (by decide +kernel) rfl⟩
theorem zf_X1_107 : zFW RX1 107 6 1 := ⟨RX6, TX6, 5, by decide, rfl, by decide, zu_X6, zGT_in 319 (by decide +kernel) rfl⟩
theorem zf_X1_110 : zFW RX1 110 5 7 := ⟨RX5, TX5, 10, by decide, rfl, by decide, zu_X5, zGT_in 205 (by decide +kernel) rfl⟩
theorem zc_X1_118 : zCV RX1 118 yX0_foundBy cX0_foundBy 3 (some .int) 0 2 := by
  refine ⟨RX0, Or.inl ⟨by decide, TX0, 9, rfl⟩, ?_, rfl, by decide +kernel, by decide +kernel, by decide +kernel⟩
  exact zV5 (zGT_in 745 (by decide +kernel) rfl) (zGT_in 679 (by decide +kernel) rfl) (zGT_in 680 (by decide +kernel) rfl) (zGT_in 107 (by decide +kernel) rfl) (zGT_in 681 (by decide +kernel) rfl)
theorem zc_X1_114 : zCV RX1 114 yX1_isWrong cX1_isWrong 4 (some .boolean) 1 2 := by
  refine ⟨RX1, Or.inl ⟨by decide, TX1, 2, rfl⟩, ?_, rfl, by decide +kernel, by decide +kernel, by decide +kernel⟩
  exact zV5 (zGT_in 741 (by decide +kernel) rfl) (zGT_in 743 (by decide +kernel) rfl) (zGT_in 16 (by decide +kernel) rfl) (zGT_in 105 (by decide +kernel) rfl) (zGT_in 744 (by decide +kernel) rfl)
theorem zc_X1_131 : zCV RX1 131 yX1_wouldRepeat cX1_wouldRepeat 6 (some .boolean) 1 3 := by
  refine ⟨RX1, Or.inl ⟨by decide, TX1, 2, rfl⟩, ?_, rfl, by decide +kernel, by decide +kernel, by decide +kernel⟩
  exact zV5 (zGT_in 1193 (by decide +kernel) rfl) (zGT_in 1195 (by decide +kernel) rfl) (zGT_in 25 (by decide +kernel) rfl) (zGT_in 105 (by decide +kernel) rfl) (zGT_in 1196 (by decide +kernel) rfl)
theorem zc_X5_56 : zCV RX5 56 yX5_wouldFind cX5_wouldFind 6 (some .int) 5 3 := by
  refine ⟨RX5, Or.inl ⟨by decide, TX5, 10, rfl⟩, ?_, rfl, by decide +kernel, by decide +kernel, by decide +kernel⟩
  exact zV5 (zGT_in 1205 (by decide +kernel) rfl) (zGT_in 805 (by decide +kernel) rfl) (zGT_in 806 (by decide +kernel) rfl) (zGT_in 104 (by decide +kernel) rfl) (zGT_in 807 (by decide +kernel) rfl)
theorem zc_X1_135 : zCV RX1 135 yX5_wouldAgree cX5_wouldAgree 5 (some .boolean) 5 3 := by
  refine ⟨RX5, Or.inl ⟨by decide, TX5, 10, rfl⟩, ?_, rfl, by decide +kernel, by decide +kernel, by decide +kernel⟩
  exact zV5 (zGT_in 1201 (by decide +kernel) rfl) (zGT_in 1202 (by decide +kernel) rfl) (zGT_in 1203 (by decide +kernel) rfl) (zGT_in 104 (by decide +kernel) rfl) (zGT_in 1204 (by decide +kernel) rfl)
theorem zf_X1_121 : zFW RX1 121 0 5 := ⟨RX0, TX0, 9, by decide, rfl, by decide, zu_X0, zGT_in 286 (by decide +kernel) rfl⟩
theorem zc_X1_128 : zCV RX1 128 yX1_haveTablesThatAgree cX1_haveTablesThatAgree 4 (some .boolean) 1 1 := by
  refine ⟨RX1, Or.inl ⟨by decide, TX1, 2, rfl⟩, ?_, rfl, by decide +kernel, by decide +kernel, by decide +kernel⟩
  exact zV5 (zGT_in 1197 (by decide +kernel) rfl) (zGT_in 1199 (by decide +kernel) rfl) (zGT_in 26 (by decide +kernel) rfl) (zGT_in 105 (by decide +kernel) rfl) (zGT_in 1200 (by decide +kernel) rfl)
theorem zc_X1_125 : zCV RX1 125 yX1_canRepeatACount cX1_canRepeatACount 4 (some .boolean) 1 1 := by
  refine ⟨RX1, Or.inl ⟨by decide, TX1, 2, rfl⟩, ?_, rfl, by decide +kernel, by decide +kernel, by decide +kernel⟩
  exact zV5 (zGT_in 1189 (by decide +kernel) rfl) (zGT_in 1191 (by decide +kernel) rfl) (zGT_in 24 (by decide +kernel) rfl) (zGT_in 105 (by decide +kernel) rfl) (zGT_in 1192 (by decide +kernel) rfl)
theorem zf_X1_138 : zFW RX1 138 5 4 := ⟨RX5, TX5, 10, by decide, rfl, by decide, zu_X5, zGT_in 195 (by decide +kernel) rfl⟩
theorem zc_X1_141 : zCV RX1 141 yX1_foundInWard cX1_foundInWard 5 (some .int) 1 2 := by
  refine ⟨RX1, Or.inl ⟨by decide, TX1, 2, rfl⟩, ?_, rfl, by decide +kernel, by decide +kernel, by decide +kernel⟩
  exact zV5 (zGT_in 689 (by decide +kernel) rfl) (zGT_in 690 (by decide +kernel) rfl) (zGT_in 691 (by decide +kernel) rfl) (zGT_in 105 (by decide +kernel) rfl) (zGT_in 692 (by decide +kernel) rfl)
theorem zm_X1_144 : zMW RX1 144 Lib.Math.min.name Lib.Math.min.code 2 := ⟨zGT_in 697 (by decide +kernel) rfl, zGT_in 437 (by decide +kernel) rfl, zGT_in 114 (by decide +kernel) rfl, zGT_in 438 (by decide +kernel) rfl⟩
theorem zm_X1_147 : zMW RX1 147 Lib.Math.max.name Lib.Math.max.code 2 := ⟨zGT_in 698 (by decide +kernel) rfl, zGT_in 699 (by decide +kernel) rfl, zGT_in 114 (by decide +kernel) rfl, zGT_in 700 (by decide +kernel) rfl⟩
theorem zc_X1_150 : zCV RX1 150 yX1_lead cX1_lead 6 (some .int) 1 1 := by
  refine ⟨RX1, Or.inl ⟨by decide, TX1, 2, rfl⟩, ?_, rfl, by decide +kernel, by decide +kernel, by decide +kernel⟩
  exact zV5 (zGT_in 693 (by decide +kernel) rfl) (zGT_in 694 (by decide +kernel) rfl) (zGT_in 695 (by decide +kernel) rfl) (zGT_in 105 (by decide +kernel) rfl) (zGT_in 696 (by decide +kernel) rfl)
theorem zf_X1_153 : zFW RX1 153 6 3 := ⟨RX6, TX6, 5, by decide, rfl, by decide, zu_X6, zGT_in 324 (by decide +kernel) rfl⟩
theorem zf_X1_156 : zFW RX1 156 6 2 := ⟨RX6, TX6, 5, by decide, rfl, by decide, zu_X6, zGT_in 321 (by decide +kernel) rfl⟩
theorem zc_X1_159 : zCV RX1 159 yX1_isWardDeclared cX1_isWardDeclared 3 (some .boolean) 1 1 := by
  refine ⟨RX1, Or.inl ⟨by decide, TX1, 2, rfl⟩, ?_, rfl, by decide +kernel, by decide +kernel, by decide +kernel⟩
  exact zV5 (zGT_in 657 (by decide +kernel) rfl) (zGT_in 658 (by decide +kernel) rfl) (zGT_in 659 (by decide +kernel) rfl) (zGT_in 105 (by decide +kernel) rfl) (zGT_in 660 (by decide +kernel) rfl)
theorem zc_X1_162 : zCV RX1 162 yX1_isBoxOff cX1_isBoxOff 2 (some .boolean) 1 1 := by
  refine ⟨RX1, Or.inl ⟨by decide, TX1, 2, rfl⟩, ?_, rfl, by decide +kernel, by decide +kernel, by decide +kernel⟩
  exact zV5 (zGT_in 661 (by decide +kernel) rfl) (zGT_in 662 (by decide +kernel) rfl) (zGT_in 663 (by decide +kernel) rfl) (zGT_in 105 (by decide +kernel) rfl) (zGT_in 664 (by decide +kernel) rfl)
theorem zc_X1_165 : zCV RX1 165 yX1_isWardClose cX1_isWardClose 4 (some .boolean) 1 1 := by
  refine ⟨RX1, Or.inl ⟨by decide, TX1, 2, rfl⟩, ?_, rfl, by decide +kernel, by decide +kernel, by decide +kernel⟩
  exact zV5 (zGT_in 685 (by decide +kernel) rfl) (zGT_in 686 (by decide +kernel) rfl) (zGT_in 687 (by decide +kernel) rfl) (zGT_in 105 (by decide +kernel) rfl) (zGT_in 688 (by decide +kernel) rfl)
theorem zc_X1_168 : zCV RX1 168 yX1_mustBeCounted cX1_mustBeCounted 4 (some .boolean) 1 1 := by
  refine ⟨RX1, Or.inl ⟨by decide, TX1, 2, rfl⟩, ?_, rfl, by decide +kernel, by decide +kernel, by decide +kernel⟩
  exact zV5 (zGT_in 653 (by decide +kernel) rfl) (zGT_in 655 (by decide +kernel) rfl) (zGT_in 14 (by decide +kernel) rfl) (zGT_in 105 (by decide +kernel) rfl) (zGT_in 656 (by decide +kernel) rfl)
theorem zc_X1_171 : zCV RX1 171 yX1_foundInAll cX1_foundInAll 4 (some .int) 1 1 := by
  refine ⟨RX1, Or.inl ⟨by decide, TX1, 2, rfl⟩, ?_, rfl, by decide +kernel, by decide +kernel, by decide +kernel⟩
  exact zV5 (zGT_in 709 (by decide +kernel) rfl) (zGT_in 711 (by decide +kernel) rfl) (zGT_in 15 (by decide +kernel) rfl) (zGT_in 105 (by decide +kernel) rfl) (zGT_in 712 (by decide +kernel) rfl)
theorem zc_X1_174 : zCV RX1 174 yX1_reasonAgainst cX1_reasonAgainst 9 (some .int) 1 1 := by
  refine ⟨RX1, Or.inl ⟨by decide, TX1, 2, rfl⟩, ?_, rfl, by decide +kernel, by decide +kernel, by decide +kernel⟩
  exact zV5 (zGT_in 713 (by decide +kernel) rfl) (zGT_in 714 (by decide +kernel) rfl) (zGT_in 715 (by decide +kernel) rfl) (zGT_in 105 (by decide +kernel) rfl) (zGT_in 716 (by decide +kernel) rfl)
theorem zc_X5_48 : zCV RX5 48 yX5_has cX5_has 3 (some .boolean) 5 2 := by
  refine ⟨RX5, Or.inl ⟨by decide, TX5, 10, rfl⟩, ?_, rfl, by decide +kernel, by decide +kernel, by decide +kernel⟩
  exact zV5 (zGT_in 1008 (by decide +kernel) rfl) (zGT_in 751 (by decide +kernel) rfl) (zGT_in 752 (by decide +kernel) rfl) (zGT_in 104 (by decide +kernel) rfl) (zGT_in 753 (by decide +kernel) rfl)
theorem zc_X1_177 : zCV RX1 177 yX5_isWardIn cX5_isWardIn 5 (some .boolean) 5 2 := by
  refine ⟨RX5, Or.inl ⟨by decide, TX5, 10, rfl⟩, ?_, rfl, by decide +kernel, by decide +kernel, by decide +kernel⟩
  exact zV5 (zGT_in 1228 (by decide +kernel) rfl) (zGT_in 1005 (by decide +kernel) rfl) (zGT_in 1006 (by decide +kernel) rfl) (zGT_in 104 (by decide +kernel) rfl) (zGT_in 1007 (by decide +kernel) rfl)
theorem zc_X1_180 : zCV RX1 180 yX1_partyAhead cX1_partyAhead 6 (some .int) 1 1 := by
  refine ⟨RX1, Or.inl ⟨by decide, TX1, 2, rfl⟩, ?_, rfl, by decide +kernel, by decide +kernel, by decide +kernel⟩
  exact zV5 (zGT_in 1251 (by decide +kernel) rfl) (zGT_in 1151 (by decide +kernel) rfl) (zGT_in 1152 (by decide +kernel) rfl) (zGT_in 105 (by decide +kernel) rfl) (zGT_in 1153 (by decide +kernel) rfl)
theorem zc_X1_183 : zCV RX1 183 yX1_seatsWithin cX1_seatsWithin 6 (some .int) 1 2 := by
  refine ⟨RX1, Or.inl ⟨by decide, TX1, 2, rfl⟩, ?_, rfl, by decide +kernel, by decide +kernel, by decide +kernel⟩
  exact zV5 (zGT_in 1263 (by decide +kernel) rfl) (zGT_in 1248 (by decide +kernel) rfl) (zGT_in 1249 (by decide +kernel) rfl) (zGT_in 105 (by decide +kernel) rfl) (zGT_in 1250 (by decide +kernel) rfl)
theorem zc_X1_186 : zCV RX1 186 yX1_wardsWithin cX1_wardsWithin 5 (some .int) 1 2 := by
  refine ⟨RX1, Or.inl ⟨by decide, TX1, 2, rfl⟩, ?_, rfl, by decide +kernel, by decide +kernel, by decide +kernel⟩
  exact zV5 (zGT_in 1264 (by decide +kernel) rfl) (zGT_in 1225 (by decide +kernel) rfl) (zGT_in 1226 (by decide +kernel) rfl) (zGT_in 105 (by decide +kernel) rfl) (zGT_in 1227 (by decide +kernel) rfl)
theorem zo_X2_3 : zOI RX2 3 := ⟨zGT_in 352 (by decide +kernel) rfl, zGT_in 133 (by decide +kernel) rfl, zGT_in 134 (by decide +kernel) rfl⟩
theorem zal_X2_9 : Cond.classLink RX2 9 "CountHall$State" ∈ zGT := zGT_in 353 (by decide +kernel) rfl
theorem zu_X2 : ∀ w ∈ u_ws RX2 TX2 2, w ∈ zGT := fun w h => zGT_of ((by decide +kernel : ∀ w ∈ u_ws RX2 TX2 2, w ∈ lw_tbl) w h) ((by decide +kernel : ∀ w ∈ u_ws RX2 TX2 2, goodWord w = true) w h)
theorem zf_X2_11 : zFW RX2 11 2 0 := ⟨RX2, TX2, 2, by decide, rfl, by decide, zu_X2, zGT_in 356 (by decide +kernel) rfl⟩
theorem zpf_X2_11 : zPF RX2 11 2 0 (.array (.object "CountHall$State")) := ⟨RX2, TX2, 2, tyX2, ⟨by decide, rfl, by decide, zu_X2, zGT_in 356 (by decide +kernel) rfl⟩, tyX2_ok, nmX2, rfl, rfl, by decide +kernel⟩
theorem za_X2_9 : zAW RX2 9 6 [.null, .null, .null, .int 0, .int 0] := ⟨RX6, TX6, 5, tyX6, by decide, rfl, rfl, zu_X6, tyX6_ok, (fun j hj => by rcases (show j = 0 ∨ j = 1 ∨ j = 2 ∨ j = 3 ∨ j = 4 by omega) with rfl | rfl | rfl | rfl | rfl <;> rfl), zGT_in 353 (by decide +kernel) rfl, zGT_in 259 (by decide +kernel) rfl, zGT_in 106 (by decide +kernel) rfl⟩
theorem zci_X2_17 : zCI RX2 17 yX6_init cX6_init 2 0 := ⟨zGT_in 355 (by decide +kernel) rfl, zGT_in 261 (by decide +kernel) rfl, zGT_in 106 (by decide +kernel) rfl, zGT_in 262 (by decide +kernel) rfl, by decide +kernel, by decide +kernel, by decide +kernel, by decide +kernel⟩
theorem zbi_9 : (Int8.ofInt (9)).toInt32 = (9 : Int32) := by decide +kernel
theorem zf_X2_18 : zFW RX2 18 2 1 := ⟨RX2, TX2, 2, by decide, rfl, by decide, zu_X2, zGT_in 357 (by decide +kernel) rfl⟩
theorem zp_X2_18 : zPW RX2 18 2 1 .int := ⟨RX2, TX2, 2, tyX2, ⟨by decide, rfl, by decide, zu_X2, zGT_in 357 (by decide +kernel) rfl⟩, tyX2_ok, nmX2, rfl, by decide +kernel⟩
theorem zc_X6_51 : zCV RX6 51 yX0_copyFrom cX0_copyFrom 2 none 0 1 := by
  refine ⟨RX0, Or.inl ⟨by decide, TX0, 9, rfl⟩, ?_, rfl, by decide +kernel, by decide +kernel, by decide +kernel⟩
  exact zV5 (zGT_in 766 (by decide +kernel) rfl) (zGT_in 767 (by decide +kernel) rfl) (zGT_in 768 (by decide +kernel) rfl) (zGT_in 107 (by decide +kernel) rfl) (zGT_in 769 (by decide +kernel) rfl)
theorem zc_X2_25 : zCV RX2 25 yX6_copyFrom cX6_copyFrom 3 none 6 1 := by
  refine ⟨RX6, Or.inl ⟨by decide, TX6, 5, rfl⟩, ?_, rfl, by decide +kernel, by decide +kernel, by decide +kernel⟩
  exact zV5 (zGT_in 762 (by decide +kernel) rfl) (zGT_in 763 (by decide +kernel) rfl) (zGT_in 764 (by decide +kernel) rfl) (zGT_in 106 (by decide +kernel) rfl) (zGT_in 765 (by decide +kernel) rfl)
theorem zc_X2_22 : zCV RX2 22 yX2_forgetOldest cX2_forgetOldest 3 none 2 0 := by
  refine ⟨RX2, Or.inl ⟨by decide, TX2, 2, rfl⟩, ?_, rfl, by decide +kernel, by decide +kernel, by decide +kernel⟩
  exact zV5 (zGT_in 758 (by decide +kernel) rfl) (zGT_in 760 (by decide +kernel) rfl) (zGT_in 17 (by decide +kernel) rfl) (zGT_in 108 (by decide +kernel) rfl) (zGT_in 761 (by decide +kernel) rfl)
theorem zo_X3_3 : zOI RX3 3 := ⟨zGT_in 146 (by decide +kernel) rfl, zGT_in 133 (by decide +kernel) rfl, zGT_in 134 (by decide +kernel) rfl⟩
theorem zsi_900 : (Int16.ofInt (900)).toInt32 = (900 : Int32) := by decide +kernel
theorem zu_X3 : ∀ w ∈ u_ws RX3 TX3 6, w ∈ zGT := fun w h => zGT_of ((by decide +kernel : ∀ w ∈ u_ws RX3 TX3 6, w ∈ lw_tbl) w h) ((by decide +kernel : ∀ w ∈ u_ws RX3 TX3 6, goodWord w = true) w h)
theorem zf_X3_9 : zFW RX3 9 3 0 := ⟨RX3, TX3, 6, by decide, rfl, by decide, zu_X3, zGT_in 147 (by decide +kernel) rfl⟩
theorem zpf_X3_9 : zPF RX3 9 3 0 (.array .byte) := ⟨RX3, TX3, 6, tyX3, ⟨by decide, rfl, by decide, zu_X3, zGT_in 147 (by decide +kernel) rfl⟩, tyX3_ok, nmX3, rfl, rfl, by decide +kernel⟩
theorem zf_X3_15 : zFW RX3 15 3 1 := ⟨RX3, TX3, 6, by decide, rfl, by decide, zu_X3, zGT_in 148 (by decide +kernel) rfl⟩
theorem zi_m8 : Int32.ofInt (-8) = (-8 : Int32) := by decide +kernel
theorem zp_X3_15 : zPW RX3 15 3 1 .int := ⟨RX3, TX3, 6, tyX3, ⟨by decide, rfl, by decide, zu_X3, zGT_in 148 (by decide +kernel) rfl⟩, tyX3_ok, nmX3, rfl, by decide +kernel⟩
theorem zbi_32 : (Int8.ofInt (32)).toInt32 = (32 : Int32) := by decide +kernel
theorem zbi_97 : (Int8.ofInt (97)).toInt32 = (97 : Int32) := by decide +kernel
theorem zbi_48 : (Int8.ofInt (48)).toInt32 = (48 : Int32) := by decide +kernel
theorem zbi_59 : (Int8.ofInt (59)).toInt32 = (59 : Int32) := by decide +kernel
theorem zbi_57 : (Int8.ofInt (57)).toInt32 = (57 : Int32) := by decide +kernel
theorem zbi_122 : (Int8.ofInt (122)).toInt32 = (122 : Int32) := by decide +kernel
theorem zf_X3_28 : zFW RX3 28 3 5 := ⟨RX3, TX3, 6, by decide, rfl, by decide, zu_X3, zGT_in 155 (by decide +kernel) rfl⟩
theorem zf_X3_34 : zFW RX3 34 3 4 := ⟨RX3, TX3, 6, by decide, rfl, by decide, zu_X3, zGT_in 154 (by decide +kernel) rfl⟩
theorem zp_X3_34 : zPW RX3 34 3 4 .int := ⟨RX3, TX3, 6, tyX3, ⟨by decide, rfl, by decide, zu_X3, zGT_in 154 (by decide +kernel) rfl⟩, tyX3_ok, nmX3, rfl, by decide +kernel⟩
theorem zf_X3_25 : zFW RX3 25 3 2 := ⟨RX3, TX3, 6, by decide, rfl, by decide, zu_X3, zGT_in 150 (by decide +kernel) rfl⟩
theorem zs_X3_37 : zCS RX3 37 yX3_isBlank cX3_isBlank 1 (some .boolean) 1 := by
  refine ⟨?_, by decide +kernel, by decide +kernel, by decide +kernel⟩
  exact zS4 (zGT_in 443 (by decide +kernel) rfl) (zGT_in 444 (by decide +kernel) rfl) (zGT_in 103 (by decide +kernel) rfl) (zGT_in 445 (by decide +kernel) rfl)
theorem zf_X3_45 : zFW RX3 45 3 3 := ⟨RX3, TX3, 6, by decide, rfl, by decide, zu_X3, zGT_in 152 (by decide +kernel) rfl⟩
theorem zp_X3_45 : zPW RX3 45 3 3 .int := ⟨RX3, TX3, 6, tyX3, ⟨by decide, rfl, by decide, zu_X3, zGT_in 152 (by decide +kernel) rfl⟩, tyX3_ok, nmX3, rfl, by decide +kernel⟩
theorem zp_X3_28 : zPW RX3 28 3 5 .int := ⟨RX3, TX3, 6, tyX3, ⟨by decide, rfl, by decide, zu_X3, zGT_in 155 (by decide +kernel) rfl⟩, tyX3_ok, nmX3, rfl, by decide +kernel⟩
theorem zs_X3_41 : zCS RX3 41 yX3_kindOf cX3_kindOf 1 (some .int) 1 := by
  refine ⟨?_, by decide +kernel, by decide +kernel, by decide +kernel⟩
  exact zS4 (zGT_in 446 (by decide +kernel) rfl) (zGT_in 447 (by decide +kernel) rfl) (zGT_in 103 (by decide +kernel) rfl) (zGT_in 448 (by decide +kernel) rfl)
theorem zm_X3_19 : zMW RX3 19 Lib.Math.min.name Lib.Math.min.code 2 := ⟨zGT_in 436 (by decide +kernel) rfl, zGT_in 437 (by decide +kernel) rfl, zGT_in 114 (by decide +kernel) rfl, zGT_in 438 (by decide +kernel) rfl⟩
theorem zp_X3_25 : zPW RX3 25 3 2 .int := ⟨RX3, TX3, 6, tyX3, ⟨by decide, rfl, by decide, zu_X3, zGT_in 150 (by decide +kernel) rfl⟩, tyX3_ok, nmX3, rfl, by decide +kernel⟩
theorem zc_X3_31 : zCV RX3 31 yX3_next cX3_next 2 none 3 0 := by
  refine ⟨RX3, Or.inl ⟨by decide, TX3, 6, rfl⟩, ?_, rfl, by decide +kernel, by decide +kernel, by decide +kernel⟩
  exact zV5 (zGT_in 439 (by decide +kernel) rfl) (zGT_in 440 (by decide +kernel) rfl) (zGT_in 441 (by decide +kernel) rfl) (zGT_in 103 (by decide +kernel) rfl) (zGT_in 442 (by decide +kernel) rfl)
theorem zc_X3_48 : zCV RX3 48 yJ0_length_8abf5 cJ0_length_8abf5 1 (some .int) 20 0 := by
  refine ⟨RJ0, Or.inr ⟨rfl, rfl⟩, ?_, rfl, by decide +kernel, by decide +kernel, by decide +kernel⟩
  exact zV5 (zGT_in 458 (by decide +kernel) rfl) (zGT_in 459 (by decide +kernel) rfl) (zGT_in 460 (by decide +kernel) rfl) (zGT_in 111 (by decide +kernel) rfl) (zGT_in 461 (by decide +kernel) rfl)
theorem zc_X3_53 : zCV RX3 53 yJ0_charAt_5068e cJ0_charAt_5068e 2 (some .char) 20 1 := by
  refine ⟨RJ0, Or.inr ⟨rfl, rfl⟩, ?_, rfl, by decide +kernel, by decide +kernel, by decide +kernel⟩
  exact zV5 (zGT_in 467 (by decide +kernel) rfl) (zGT_in 468 (by decide +kernel) rfl) (zGT_in 469 (by decide +kernel) rfl) (zGT_in 111 (by decide +kernel) rfl) (zGT_in 470 (by decide +kernel) rfl)
theorem zc_X3_59 : zCV RX3 59 yX3_spells cX3_spells 3 (some .boolean) 3 1 := by
  refine ⟨RX3, Or.inl ⟨by decide, TX3, 6, rfl⟩, ?_, rfl, by decide +kernel, by decide +kernel, by decide +kernel⟩
  exact zV5 (zGT_in 523 (by decide +kernel) rfl) (zGT_in 455 (by decide +kernel) rfl) (zGT_in 456 (by decide +kernel) rfl) (zGT_in 103 (by decide +kernel) rfl) (zGT_in 457 (by decide +kernel) rfl)
theorem zk_X3_75 : Cond.constant RX3 75 (99999 : Int32) ∈ zGT := zGT_in 570 (by decide +kernel) rfl
theorem zo_X4_3 : zOI RX4 3 := ⟨zGT_in 140 (by decide +kernel) rfl, zGT_in 133 (by decide +kernel) rfl, zGT_in 134 (by decide +kernel) rfl⟩
theorem za_X4_9 : zAW RX4 9 3 [.null, .int 0, .int 0, .int 0, .int 0, .int 0] := ⟨RX3, TX3, 6, tyX3, by decide, rfl, rfl, zu_X3, tyX3_ok, (fun j hj => by rcases (show j = 0 ∨ j = 1 ∨ j = 2 ∨ j = 3 ∨ j = 4 ∨ j = 5 by omega) with rfl | rfl | rfl | rfl | rfl | rfl <;> rfl), zGT_in 141 (by decide +kernel) rfl, zGT_in 142 (by decide +kernel) rfl, zGT_in 103 (by decide +kernel) rfl⟩
theorem zci_X4_11 : zCIN RX4 11 yX3_init cX3_init 1 0 "CountHall" := ⟨by decide +kernel, zGT_in 144 (by decide +kernel) rfl, zGT_in 103 (by decide +kernel) rfl, zGT_in 145 (by decide +kernel) rfl, by decide +kernel, by decide +kernel, by decide +kernel, by decide +kernel⟩
theorem zu_X4 : ∀ w ∈ u_ws RX4 TX4 4, w ∈ zGT := fun w h => zGT_of ((by decide +kernel : ∀ w ∈ u_ws RX4 TX4 4, w ∈ lw_tbl) w h) ((by decide +kernel : ∀ w ∈ u_ws RX4 TX4 4, goodWord w = true) w h)
theorem zf_X4_12 : zFW RX4 12 4 0 := ⟨RX4, TX4, 4, by decide, rfl, by decide, zu_X4, zGT_in 235 (by decide +kernel) rfl⟩
theorem zpf_X4_12 : zPF RX4 12 4 0 (.object "CountHall$Input") := ⟨RX4, TX4, 4, tyX4, ⟨by decide, rfl, by decide, zu_X4, zGT_in 235 (by decide +kernel) rfl⟩, tyX4_ok, nmX4, rfl, rfl, by decide +kernel⟩
theorem za_X4_18 : zAW RX4 18 5 [.null, .null, .null, .null, .null, .null, .null, .null, .null, .null] := ⟨RX5, TX5, 10, tyX5, by decide, rfl, rfl, zu_X5, tyX5_ok, (fun j hj => by rcases (show j = 0 ∨ j = 1 ∨ j = 2 ∨ j = 3 ∨ j = 4 ∨ j = 5 ∨ j = 6 ∨ j = 7 ∨ j = 8 ∨ j = 9 by omega) with rfl | rfl | rfl | rfl | rfl | rfl | rfl | rfl | rfl | rfl <;> rfl), zGT_in 170 (by decide +kernel) rfl, zGT_in 171 (by decide +kernel) rfl, zGT_in 104 (by decide +kernel) rfl⟩
theorem zci_X4_20 : zCIN RX4 20 yX5_init cX5_init 1 0 "CountHall" := ⟨by decide +kernel, zGT_in 173 (by decide +kernel) rfl, zGT_in 104 (by decide +kernel) rfl, zGT_in 174 (by decide +kernel) rfl, by decide +kernel, by decide +kernel, by decide +kernel, by decide +kernel⟩
theorem zf_X4_21 : zFW RX4 21 4 1 := ⟨RX4, TX4, 4, by decide, rfl, by decide, zu_X4, zGT_in 237 (by decide +kernel) rfl⟩
theorem zp_X4_21 : zPW RX4 21 4 1 (.object "CountHall$Plan") := ⟨RX4, TX4, 4, tyX4, ⟨by decide, rfl, by decide, zu_X4, zGT_in 237 (by decide +kernel) rfl⟩, tyX4_ok, nmX4, rfl, by decide +kernel⟩
theorem zf_X4_25 : zFW RX4 25 4 3 := ⟨RX4, TX4, 4, by decide, rfl, by decide, zu_X4, zGT_in 239 (by decide +kernel) rfl⟩
theorem zp_X4_25 : zPW RX4 25 4 3 .int := ⟨RX4, TX4, 4, tyX4, ⟨by decide, rfl, by decide, zu_X4, zGT_in 239 (by decide +kernel) rfl⟩, tyX4_ok, nmX4, rfl, by decide +kernel⟩
theorem zf_X4_89 : zFW RX4 89 5 0 := ⟨RX5, TX5, 10, by decide, rfl, by decide, zu_X5, zGT_in 182 (by decide +kernel) rfl⟩
theorem zc_X4_52 : zCV RX4 52 yX3_next cX3_next 2 none 3 0 := by
  refine ⟨RX3, Or.inl ⟨by decide, TX3, 6, rfl⟩, ?_, rfl, by decide +kernel, by decide +kernel, by decide +kernel⟩
  exact zV5 (zGT_in 517 (by decide +kernel) rfl) (zGT_in 440 (by decide +kernel) rfl) (zGT_in 441 (by decide +kernel) rfl) (zGT_in 103 (by decide +kernel) rfl) (zGT_in 442 (by decide +kernel) rfl)
theorem zbi_m15 : (Int8.ofInt (-15)).toInt32 = (-15 : Int32) := by decide +kernel
theorem zc_X4_134 : zCV RX4 134 yX4_beginThing cX4_beginThing 3 (some .int) 4 2 := by
  refine ⟨RX4, Or.inl ⟨by decide, TX4, 4, rfl⟩, ?_, rfl, by decide +kernel, by decide +kernel, by decide +kernel⟩
  exact zV5 (zGT_in 513 (by decide +kernel) rfl) (zGT_in 515 (by decide +kernel) rfl) (zGT_in 3 (by decide +kernel) rfl) (zGT_in 102 (by decide +kernel) rfl) (zGT_in 516 (by decide +kernel) rfl)
theorem zc_X4_150 : zCV RX4 150 yX3_isName cX3_isName 2 (some .boolean) 3 0 := by
  refine ⟨RX3, Or.inl ⟨by decide, TX3, 6, rfl⟩, ?_, rfl, by decide +kernel, by decide +kernel, by decide +kernel⟩
  exact zV5 (zGT_in 518 (by decide +kernel) rfl) (zGT_in 519 (by decide +kernel) rfl) (zGT_in 520 (by decide +kernel) rfl) (zGT_in 103 (by decide +kernel) rfl) (zGT_in 521 (by decide +kernel) rfl)
theorem zc_X4_154 : zCV RX4 154 yX3_packed cX3_packed 4 (some .int) 3 0 := by
  refine ⟨RX3, Or.inl ⟨by decide, TX3, 6, rfl⟩, ?_, rfl, by decide +kernel, by decide +kernel, by decide +kernel⟩
  exact zV5 (zGT_in 530 (by decide +kernel) rfl) (zGT_in 531 (by decide +kernel) rfl) (zGT_in 532 (by decide +kernel) rfl) (zGT_in 103 (by decide +kernel) rfl) (zGT_in 533 (by decide +kernel) rfl)
theorem zc_X4_157 : zCV RX4 157 yX5_find cX5_find 4 (some .int) 5 2 := by
  refine ⟨RX5, Or.inl ⟨by decide, TX5, 10, rfl⟩, ?_, rfl, by decide +kernel, by decide +kernel, by decide +kernel⟩
  exact zV5 (zGT_in 534 (by decide +kernel) rfl) (zGT_in 535 (by decide +kernel) rfl) (zGT_in 536 (by decide +kernel) rfl) (zGT_in 104 (by decide +kernel) rfl) (zGT_in 537 (by decide +kernel) rfl)
theorem zbi_m14 : (Int8.ofInt (-14)).toInt32 = (-14 : Int32) := by decide +kernel
theorem zbi_m11 : (Int8.ofInt (-11)).toInt32 = (-11 : Int32) := by decide +kernel
theorem zf_X4_163 : zFW RX4 163 5 1 := ⟨RX5, TX5, 10, by decide, rfl, by decide, zu_X5, zGT_in 184 (by decide +kernel) rfl⟩
theorem zc_X4_93 : zCV RX4 93 yX4_readNewName cX4_readNewName 5 (some .int) 4 2 := by
  refine ⟨RX4, Or.inl ⟨by decide, TX4, 4, rfl⟩, ?_, rfl, by decide +kernel, by decide +kernel, by decide +kernel⟩
  exact zV5 (zGT_in 509 (by decide +kernel) rfl) (zGT_in 511 (by decide +kernel) rfl) (zGT_in 2 (by decide +kernel) rfl) (zGT_in 102 (by decide +kernel) rfl) (zGT_in 512 (by decide +kernel) rfl)
theorem zc_X4_97 : zCV RX4 97 yX4_add cX4_add 3 (some .int) 4 2 := by
  refine ⟨RX4, Or.inl ⟨by decide, TX4, 4, rfl⟩, ?_, rfl, by decide +kernel, by decide +kernel, by decide +kernel⟩
  exact zV5 (zGT_in 538 (by decide +kernel) rfl) (zGT_in 540 (by decide +kernel) rfl) (zGT_in 4 (by decide +kernel) rfl) (zGT_in 102 (by decide +kernel) rfl) (zGT_in 541 (by decide +kernel) rfl)
theorem zbi_m13 : (Int8.ofInt (-13)).toInt32 = (-13 : Int32) := by decide +kernel
theorem zc_X4_57 : zCV RX4 57 yX3_spells cX3_spells 3 (some .boolean) 3 1 := by
  refine ⟨RX3, Or.inl ⟨by decide, TX3, 6, rfl⟩, ?_, rfl, by decide +kernel, by decide +kernel, by decide +kernel⟩
  exact zV5 (zGT_in 454 (by decide +kernel) rfl) (zGT_in 455 (by decide +kernel) rfl) (zGT_in 456 (by decide +kernel) rfl) (zGT_in 103 (by decide +kernel) rfl) (zGT_in 457 (by decide +kernel) rfl)
theorem zf_X4_106 : zFW RX4 106 5 2 := ⟨RX5, TX5, 10, by decide, rfl, by decide, zu_X5, zGT_in 187 (by decide +kernel) rfl⟩
theorem zc_X4_102 : zCV RX4 102 yX4_readKnownName cX4_readKnownName 3 (some .int) 4 1 := by
  refine ⟨RX4, Or.inl ⟨by decide, TX4, 4, rfl⟩, ?_, rfl, by decide +kernel, by decide +kernel, by decide +kernel⟩
  exact zV5 (zGT_in 548 (by decide +kernel) rfl) (zGT_in 550 (by decide +kernel) rfl) (zGT_in 6 (by decide +kernel) rfl) (zGT_in 102 (by decide +kernel) rfl) (zGT_in 551 (by decide +kernel) rfl)
theorem zf_X4_109 : zFW RX4 109 5 3 := ⟨RX5, TX5, 10, by decide, rfl, by decide, zu_X5, zGT_in 190 (by decide +kernel) rfl⟩
theorem zf_X4_39 : zFW RX4 39 3 3 := ⟨RX3, TX3, 6, by decide, rfl, by decide, zu_X3, zGT_in 151 (by decide +kernel) rfl⟩
theorem zc_X4_160 : zCV RX4 160 yX3_value cX3_value 3 (some .int) 3 0 := by
  refine ⟨RX3, Or.inl ⟨by decide, TX3, 6, rfl⟩, ?_, rfl, by decide +kernel, by decide +kernel, by decide +kernel⟩
  exact zV5 (zGT_in 566 (by decide +kernel) rfl) (zGT_in 567 (by decide +kernel) rfl) (zGT_in 568 (by decide +kernel) rfl) (zGT_in 103 (by decide +kernel) rfl) (zGT_in 569 (by decide +kernel) rfl)
theorem zbi_m12 : (Int8.ofInt (-12)).toInt32 = (-12 : Int32) := by decide +kernel
theorem zc_X4_127 : zCV RX4 127 yX5_piles cX5_piles 1 (some .int) 5 0 := by
  refine ⟨RX5, Or.inl ⟨by decide, TX5, 10, rfl⟩, ?_, rfl, by decide +kernel, by decide +kernel, by decide +kernel⟩
  exact zV5 (zGT_in 575 (by decide +kernel) rfl) (zGT_in 576 (by decide +kernel) rfl) (zGT_in 577 (by decide +kernel) rfl) (zGT_in 104 (by decide +kernel) rfl) (zGT_in 578 (by decide +kernel) rfl)
theorem zsi_300 : (Int16.ofInt (300)).toInt32 = (300 : Int32) := by decide +kernel
theorem zc_X4_112 : zCV RX4 112 yX4_readInteger cX4_readInteger 4 (some .int) 4 2 := by
  refine ⟨RX4, Or.inl ⟨by decide, TX4, 4, rfl⟩, ?_, rfl, by decide +kernel, by decide +kernel, by decide +kernel⟩
  exact zV5 (zGT_in 562 (by decide +kernel) rfl) (zGT_in 564 (by decide +kernel) rfl) (zGT_in 9 (by decide +kernel) rfl) (zGT_in 102 (by decide +kernel) rfl) (zGT_in 565 (by decide +kernel) rfl)
theorem zf_X4_130 : zFW RX4 130 5 7 := ⟨RX5, TX5, 10, by decide, rfl, by decide, zu_X5, zGT_in 204 (by decide +kernel) rfl⟩
theorem zsi_999 : (Int16.ofInt (999)).toInt32 = (999 : Int32) := by decide +kernel
theorem zsi_9999 : (Int16.ofInt (9999)).toInt32 = (9999 : Int32) := by decide +kernel
theorem zf_X4_115 : zFW RX4 115 5 4 := ⟨RX5, TX5, 10, by decide, rfl, by decide, zu_X5, zGT_in 193 (by decide +kernel) rfl⟩
theorem zf_X4_118 : zFW RX4 118 5 5 := ⟨RX5, TX5, 10, by decide, rfl, by decide, zu_X5, zGT_in 198 (by decide +kernel) rfl⟩
theorem zf_X4_121 : zFW RX4 121 5 6 := ⟨RX5, TX5, 10, by decide, rfl, by decide, zu_X5, zGT_in 202 (by decide +kernel) rfl⟩
theorem zc_X4_124 : zCV RX4 124 yX4_readPapers cX4_readPapers 4 (some .int) 4 1 := by
  refine ⟨RX4, Or.inl ⟨by decide, TX4, 4, rfl⟩, ?_, rfl, by decide +kernel, by decide +kernel, by decide +kernel⟩
  exact zV5 (zGT_in 571 (by decide +kernel) rfl) (zGT_in 573 (by decide +kernel) rfl) (zGT_in 10 (by decide +kernel) rfl) (zGT_in 102 (by decide +kernel) rfl) (zGT_in 574 (by decide +kernel) rfl)
theorem zbi_99 : (Int8.ofInt (99)).toInt32 = (99 : Int32) := by decide +kernel
theorem zf_X4_137 : zFW RX4 137 5 8 := ⟨RX5, TX5, 10, by decide, rfl, by decide, zu_X5, zGT_in 208 (by decide +kernel) rfl⟩
theorem zbi_50 : (Int8.ofInt (50)).toInt32 = (50 : Int32) := by decide +kernel
theorem zf_X4_32 : zFW RX4 32 4 2 := ⟨RX4, TX4, 4, by decide, rfl, by decide, zu_X4, zGT_in 238 (by decide +kernel) rfl⟩
theorem zn_X4_144 : zNS RX4 144 yX7_mostOf cX7_mostOf 1 (some .int) 1 "CountHall" := ⟨by decide +kernel, zGT_in 592 (by decide +kernel) rfl, zGT_in 101 (by decide +kernel) rfl, zGT_in 593 (by decide +kernel) rfl, by decide +kernel, by decide +kernel, by decide +kernel⟩
theorem zp_X4_32 : zPW RX4 32 4 2 .int := ⟨RX4, TX4, 4, tyX4, ⟨by decide, rfl, by decide, zu_X4, zGT_in 238 (by decide +kernel) rfl⟩, tyX4_ok, nmX4, rfl, by decide +kernel⟩
theorem zf_X4_147 : zFW RX4 147 5 9 := ⟨RX5, TX5, 10, by decide, rfl, by decide, zu_X5, zGT_in 212 (by decide +kernel) rfl⟩
theorem zc_X4_86 : zCV RX4 86 yX4_readSetting cX4_readSetting 3 (some .int) 4 0 := by
  refine ⟨RX4, Or.inl ⟨by decide, TX4, 4, rfl⟩, ?_, rfl, by decide +kernel, by decide +kernel, by decide +kernel⟩
  exact zV5 (zGT_in 585 (by decide +kernel) rfl) (zGT_in 587 (by decide +kernel) rfl) (zGT_in 12 (by decide +kernel) rfl) (zGT_in 102 (by decide +kernel) rfl) (zGT_in 588 (by decide +kernel) rfl)
theorem zc_X4_81 : zCV RX4 81 yX4_readTable cX4_readTable 3 (some .int) 4 0 := by
  refine ⟨RX4, Or.inl ⟨by decide, TX4, 4, rfl⟩, ?_, rfl, by decide +kernel, by decide +kernel, by decide +kernel⟩
  exact zV5 (zGT_in 580 (by decide +kernel) rfl) (zGT_in 582 (by decide +kernel) rfl) (zGT_in 11 (by decide +kernel) rfl) (zGT_in 102 (by decide +kernel) rfl) (zGT_in 583 (by decide +kernel) rfl)
theorem zc_X4_76 : zCV RX4 76 yX4_readBox cX4_readBox 7 (some .int) 4 0 := by
  refine ⟨RX4, Or.inl ⟨by decide, TX4, 4, rfl⟩, ?_, rfl, by decide +kernel, by decide +kernel, by decide +kernel⟩
  exact zV5 (zGT_in 558 (by decide +kernel) rfl) (zGT_in 560 (by decide +kernel) rfl) (zGT_in 8 (by decide +kernel) rfl) (zGT_in 102 (by decide +kernel) rfl) (zGT_in 561 (by decide +kernel) rfl)
theorem zc_X4_71 : zCV RX4 71 yX4_readWard cX4_readWard 3 (some .int) 4 0 := by
  refine ⟨RX4, Or.inl ⟨by decide, TX4, 4, rfl⟩, ?_, rfl, by decide +kernel, by decide +kernel, by decide +kernel⟩
  exact zV5 (zGT_in 553 (by decide +kernel) rfl) (zGT_in 555 (by decide +kernel) rfl) (zGT_in 7 (by decide +kernel) rfl) (zGT_in 102 (by decide +kernel) rfl) (zGT_in 556 (by decide +kernel) rfl)
theorem zc_X4_66 : zCV RX4 66 yX4_readRegion cX4_readRegion 3 (some .int) 4 0 := by
  refine ⟨RX4, Or.inl ⟨by decide, TX4, 4, rfl⟩, ?_, rfl, by decide +kernel, by decide +kernel, by decide +kernel⟩
  exact zV5 (zGT_in 543 (by decide +kernel) rfl) (zGT_in 545 (by decide +kernel) rfl) (zGT_in 5 (by decide +kernel) rfl) (zGT_in 102 (by decide +kernel) rfl) (zGT_in 546 (by decide +kernel) rfl)
theorem zc_X4_61 : zCV RX4 61 yX4_readParty cX4_readParty 2 (some .int) 4 0 := by
  refine ⟨RX4, Or.inl ⟨by decide, TX4, 4, rfl⟩, ?_, rfl, by decide +kernel, by decide +kernel, by decide +kernel⟩
  exact zV5 (zGT_in 505 (by decide +kernel) rfl) (zGT_in 507 (by decide +kernel) rfl) (zGT_in 1 (by decide +kernel) rfl) (zGT_in 102 (by decide +kernel) rfl) (zGT_in 508 (by decide +kernel) rfl)
theorem zc_X4_29 : zCV RX4 29 yX5_clear cX5_clear 2 none 5 0 := by
  refine ⟨RX5, Or.inl ⟨by decide, TX5, 10, rfl⟩, ?_, rfl, by decide +kernel, by decide +kernel, by decide +kernel⟩
  exact zV5 (zGT_in 428 (by decide +kernel) rfl) (zGT_in 429 (by decide +kernel) rfl) (zGT_in 430 (by decide +kernel) rfl) (zGT_in 104 (by decide +kernel) rfl) (zGT_in 431 (by decide +kernel) rfl)
theorem zc_X4_35 : zCV RX4 35 yX3_beginText cX3_beginText 2 none 3 1 := by
  refine ⟨RX3, Or.inl ⟨by decide, TX3, 6, rfl⟩, ?_, rfl, by decide +kernel, by decide +kernel, by decide +kernel⟩
  exact zV5 (zGT_in 432 (by decide +kernel) rfl) (zGT_in 433 (by decide +kernel) rfl) (zGT_in 434 (by decide +kernel) rfl) (zGT_in 103 (by decide +kernel) rfl) (zGT_in 435 (by decide +kernel) rfl)
theorem zc_X4_42 : zCV RX4 42 yX4_readDeclaration cX4_readDeclaration 1 (some .int) 4 0 := by
  refine ⟨RX4, Or.inl ⟨by decide, TX4, 4, rfl⟩, ?_, rfl, by decide +kernel, by decide +kernel, by decide +kernel⟩
  exact zV5 (zGT_in 449 (by decide +kernel) rfl) (zGT_in 451 (by decide +kernel) rfl) (zGT_in 0 (by decide +kernel) rfl) (zGT_in 102 (by decide +kernel) rfl) (zGT_in 452 (by decide +kernel) rfl)
theorem zc_X4_46 : zCV RX4 46 yX4_readSemicolon cX4_readSemicolon 1 (some .int) 4 0 := by
  refine ⟨RX4, Or.inl ⟨by decide, TX4, 4, rfl⟩, ?_, rfl, by decide +kernel, by decide +kernel, by decide +kernel⟩
  exact zV5 (zGT_in 594 (by decide +kernel) rfl) (zGT_in 596 (by decide +kernel) rfl) (zGT_in 13 (by decide +kernel) rfl) (zGT_in 102 (by decide +kernel) rfl) (zGT_in 597 (by decide +kernel) rfl)
theorem zf_X4_49 : zFW RX4 49 3 4 := ⟨RX3, TX3, 6, by decide, rfl, by decide, zu_X3, zGT_in 153 (by decide +kernel) rfl⟩
theorem zo_X7_3 : zOI RX7 3 := ⟨zGT_in 132 (by decide +kernel) rfl, zGT_in 133 (by decide +kernel) rfl, zGT_in 134 (by decide +kernel) rfl⟩
theorem za_X7_9 : zAW RX7 9 4 [.null, .null, .int 0, .int 0] := ⟨RX4, TX4, 4, tyX4, by decide, rfl, rfl, zu_X4, tyX4_ok, (fun j hj => by rcases (show j = 0 ∨ j = 1 ∨ j = 2 ∨ j = 3 by omega) with rfl | rfl | rfl | rfl <;> rfl), zGT_in 135 (by decide +kernel) rfl, zGT_in 136 (by decide +kernel) rfl, zGT_in 102 (by decide +kernel) rfl⟩
theorem zci_X7_11 : zCIN RX7 11 yX4_init cX4_init 1 0 "CountHall" := ⟨by decide +kernel, zGT_in 138 (by decide +kernel) rfl, zGT_in 102 (by decide +kernel) rfl, zGT_in 139 (by decide +kernel) rfl, by decide +kernel, by decide +kernel, by decide +kernel, by decide +kernel⟩
theorem zu_X7 : ∀ w ∈ u_ws RX7 TX7 5, w ∈ zGT := fun w h => zGT_of ((by decide +kernel : ∀ w ∈ u_ws RX7 TX7 5, w ∈ lw_tbl) w h) ((by decide +kernel : ∀ w ∈ u_ws RX7 TX7 5, goodWord w = true) w h)
theorem zf_X7_12 : zFW RX7 12 7 0 := ⟨RX7, TX7, 5, by decide, rfl, by decide, zu_X7, zGT_in 396 (by decide +kernel) rfl⟩
theorem zpf_X7_12 : zPF RX7 12 7 0 (.object "CountHall$Loader") := ⟨RX7, TX7, 5, tyX7, ⟨by decide, rfl, by decide, zu_X7, zGT_in 396 (by decide +kernel) rfl⟩, tyX7_ok, nmX7, rfl, rfl, by decide +kernel⟩
theorem za_X7_16 : zAW RX7 16 1 [.null, .null] := ⟨RX1, TX1, 2, tyX1, by decide, rfl, rfl, zu_X1, tyX1_ok, (fun j hj => by rcases (show j = 0 ∨ j = 1 by omega) with rfl | rfl <;> rfl), zGT_in 250 (by decide +kernel) rfl, zGT_in 251 (by decide +kernel) rfl, zGT_in 105 (by decide +kernel) rfl⟩
theorem zci_X7_18 : zCIN RX7 18 yX1_init cX1_init 1 0 "CountHall" := ⟨by decide +kernel, zGT_in 253 (by decide +kernel) rfl, zGT_in 105 (by decide +kernel) rfl, zGT_in 254 (by decide +kernel) rfl, by decide +kernel, by decide +kernel, by decide +kernel, by decide +kernel⟩
theorem zf_X7_19 : zFW RX7 19 7 1 := ⟨RX7, TX7, 5, by decide, rfl, by decide, zu_X7, zGT_in 397 (by decide +kernel) rfl⟩
theorem zpf_X7_19 : zPF RX7 19 7 1 (.object "CountHall$Hall") := ⟨RX7, TX7, 5, tyX7, ⟨by decide, rfl, by decide, zu_X7, zGT_in 397 (by decide +kernel) rfl⟩, tyX7_ok, nmX7, rfl, rfl, by decide +kernel⟩
theorem za_X7_23 : zAW RX7 23 2 [.null, .int 0] := ⟨RX2, TX2, 2, tyX2, by decide, rfl, rfl, zu_X2, tyX2_ok, (fun j hj => by rcases (show j = 0 ∨ j = 1 by omega) with rfl | rfl <;> rfl), zGT_in 347 (by decide +kernel) rfl, zGT_in 348 (by decide +kernel) rfl, zGT_in 108 (by decide +kernel) rfl⟩
theorem zci_X7_25 : zCI RX7 25 yX2_init cX2_init 2 0 := ⟨zGT_in 349 (by decide +kernel) rfl, zGT_in 350 (by decide +kernel) rfl, zGT_in 108 (by decide +kernel) rfl, zGT_in 351 (by decide +kernel) rfl, by decide +kernel, by decide +kernel, by decide +kernel, by decide +kernel⟩
theorem zf_X7_26 : zFW RX7 26 7 2 := ⟨RX7, TX7, 5, by decide, rfl, by decide, zu_X7, zGT_in 398 (by decide +kernel) rfl⟩
theorem zpf_X7_26 : zPF RX7 26 7 2 (.object "CountHall$History") := ⟨RX7, TX7, 5, tyX7, ⟨by decide, rfl, by decide, zu_X7, zGT_in 398 (by decide +kernel) rfl⟩, tyX7_ok, nmX7, rfl, rfl, by decide +kernel⟩
theorem za_X7_30 : zAW RX7 30 9 [.null, .int 0, .int 0, .int 0] := ⟨RJ4, TJ4, 4, tyJ4, by decide, rfl, rfl, zu_J4, tyJ4_ok, (fun j hj => by rcases (show j = 0 ∨ j = 1 ∨ j = 2 ∨ j = 3 by omega) with rfl | rfl | rfl | rfl <;> rfl), zGT_in 364 (by decide +kernel) rfl, zGT_in 365 (by decide +kernel) rfl, zGT_in 110 (by decide +kernel) rfl⟩
theorem zci_X7_32 : zCI RX7 32 yJ4_init_da8c8 cJ4_init_da8c8 1 0 := ⟨zGT_in 366 (by decide +kernel) rfl, zGT_in 367 (by decide +kernel) rfl, zGT_in 110 (by decide +kernel) rfl, zGT_in 368 (by decide +kernel) rfl, by decide +kernel, by decide +kernel, by decide +kernel, by decide +kernel⟩
theorem zf_X7_33 : zFW RX7 33 7 3 := ⟨RX7, TX7, 5, by decide, rfl, by decide, zu_X7, zGT_in 399 (by decide +kernel) rfl⟩
theorem zpf_X7_33 : zPF RX7 33 7 3 (.object "java/lang/StringBuilder") := ⟨RX7, TX7, 5, tyX7, ⟨by decide, rfl, by decide, zu_X7, zGT_in 399 (by decide +kernel) rfl⟩, tyX7_ok, nmX7, rfl, rfl, by decide +kernel⟩
theorem zf_X7_37 : zFW RX7 37 7 4 := ⟨RX7, TX7, 5, by decide, rfl, by decide, zu_X7, zGT_in 400 (by decide +kernel) rfl⟩
theorem zp_X7_37 : zPW RX7 37 7 4 .int := ⟨RX7, TX7, 5, tyX7, ⟨by decide, rfl, by decide, zu_X7, zGT_in 400 (by decide +kernel) rfl⟩, tyX7_ok, nmX7, rfl, by decide +kernel⟩
theorem zf_X7_41 : zFW RX7 41 4 0 := ⟨RX4, TX4, 4, by decide, rfl, by decide, zu_X4, zGT_in 236 (by decide +kernel) rfl⟩
theorem zf_X7_45 : zFW RX7 45 3 1 := ⟨RX3, TX3, 6, by decide, rfl, by decide, zu_X3, zGT_in 149 (by decide +kernel) rfl⟩
theorem zbi_20 : (Int8.ofInt (20)).toInt32 = (20 : Int32) := by decide +kernel
theorem zc_X7_50 : zCV RX7 50 yX3_append cX3_append 3 none 3 1 := by
  refine ⟨RX3, Or.inl ⟨by decide, TX3, 6, rfl⟩, ?_, rfl, by decide +kernel, by decide +kernel, by decide +kernel⟩
  exact zV5 (zGT_in 416 (by decide +kernel) rfl) (zGT_in 417 (by decide +kernel) rfl) (zGT_in 418 (by decide +kernel) rfl) (zGT_in 103 (by decide +kernel) rfl) (zGT_in 419 (by decide +kernel) rfl)
theorem zbi_m5 : (Int8.ofInt (-5)).toInt32 = (-5 : Int32) := by decide +kernel
theorem zbi_m2 : (Int8.ofInt (-2)).toInt32 = (-2 : Int32) := by decide +kernel
theorem zc_X7_54 : zCV RX7 54 yX4_readText cX4_readText 4 (some .int) 4 1 := by
  refine ⟨RX4, Or.inl ⟨by decide, TX4, 4, rfl⟩, ?_, rfl, by decide +kernel, by decide +kernel, by decide +kernel⟩
  exact zV5 (zGT_in 424 (by decide +kernel) rfl) (zGT_in 425 (by decide +kernel) rfl) (zGT_in 426 (by decide +kernel) rfl) (zGT_in 102 (by decide +kernel) rfl) (zGT_in 427 (by decide +kernel) rfl)
theorem zf_X7_58 : zFW RX7 58 4 3 := ⟨RX4, TX4, 4, by decide, rfl, by decide, zu_X4, zGT_in 240 (by decide +kernel) rfl⟩
theorem zf_X7_61 : zFW RX7 61 1 0 := ⟨RX1, TX1, 2, by decide, rfl, by decide, zu_X1, zGT_in 339 (by decide +kernel) rfl⟩
theorem zc_X7_65 : zCV RX7 65 yX4_exchange cX4_exchange 3 (some (.object "CountHall$Plan")) 4 1 := by
  refine ⟨RX4, Or.inl ⟨by decide, TX4, 4, rfl⟩, ?_, rfl, by decide +kernel, by decide +kernel, by decide +kernel⟩
  exact zV5 (zGT_in 598 (by decide +kernel) rfl) (zGT_in 599 (by decide +kernel) rfl) (zGT_in 600 (by decide +kernel) rfl) (zGT_in 102 (by decide +kernel) rfl) (zGT_in 601 (by decide +kernel) rfl)
theorem zc_X7_69 : zCV RX7 69 yX1_begin cX1_begin 2 none 1 1 := by
  refine ⟨RX1, Or.inl ⟨by decide, TX1, 2, rfl⟩, ?_, rfl, by decide +kernel, by decide +kernel, by decide +kernel⟩
  exact zV5 (zGT_in 602 (by decide +kernel) rfl) (zGT_in 603 (by decide +kernel) rfl) (zGT_in 604 (by decide +kernel) rfl) (zGT_in 105 (by decide +kernel) rfl) (zGT_in 605 (by decide +kernel) rfl)
theorem zf_X7_73 : zFW RX7 73 2 1 := ⟨RX2, TX2, 2, by decide, rfl, by decide, zu_X2, zGT_in 358 (by decide +kernel) rfl⟩
theorem zp_X7_73 : zPW RX7 73 2 1 .int := ⟨RX2, TX2, 2, tyX2, ⟨by decide, rfl, by decide, zu_X2, zGT_in 358 (by decide +kernel) rfl⟩, tyX2_ok, nmX2, rfl, by decide +kernel⟩
theorem zf_X7_76 : zFW RX7 76 5 0 := ⟨RX5, TX5, 10, by decide, rfl, by decide, zu_X5, zGT_in 181 (by decide +kernel) rfl⟩
theorem zc_X7_82 : zCV RX7 82 yX5_find cX5_find 4 (some .int) 5 2 := by
  refine ⟨RX5, Or.inl ⟨by decide, TX5, 10, rfl⟩, ?_, rfl, by decide +kernel, by decide +kernel, by decide +kernel⟩
  exact zV5 (zGT_in 637 (by decide +kernel) rfl) (zGT_in 535 (by decide +kernel) rfl) (zGT_in 536 (by decide +kernel) rfl) (zGT_in 104 (by decide +kernel) rfl) (zGT_in 537 (by decide +kernel) rfl)
theorem zs_X7_86 : zCS RX7 86 yX7_isSetting cX7_isSetting 1 (some .boolean) 1 := by
  refine ⟨?_, by decide +kernel, by decide +kernel, by decide +kernel⟩
  exact zS4 (zGT_in 642 (by decide +kernel) rfl) (zGT_in 643 (by decide +kernel) rfl) (zGT_in 101 (by decide +kernel) rfl) (zGT_in 644 (by decide +kernel) rfl)
theorem zf_X7_90 : zFW RX7 90 1 1 := ⟨RX1, TX1, 2, by decide, rfl, by decide, zu_X1, zGT_in 341 (by decide +kernel) rfl⟩
theorem zf_X7_94 : zFW RX7 94 6 1 := ⟨RX6, TX6, 5, by decide, rfl, by decide, zu_X6, zGT_in 318 (by decide +kernel) rfl⟩
theorem zc_X7_224 : zCV RX7 224 yX5_has cX5_has 3 (some .boolean) 5 2 := by
  refine ⟨RX5, Or.inl ⟨by decide, TX5, 10, rfl⟩, ?_, rfl, by decide +kernel, by decide +kernel, by decide +kernel⟩
  exact zV5 (zGT_in 750 (by decide +kernel) rfl) (zGT_in 751 (by decide +kernel) rfl) (zGT_in 752 (by decide +kernel) rfl) (zGT_in 104 (by decide +kernel) rfl) (zGT_in 753 (by decide +kernel) rfl)
theorem zt_X7_k : Cond.classLink RX7 306 zIO ∈ zGT := zGT_in 923 (by decide +kernel) rfl
theorem zt_X7_i : Cond.initialized zIO ∈ zGT := zGT_in 121 (by decide +kernel) rfl
theorem zt_X7_a : ∀ w ∈ (vx_atS RX7 310 zIO ["java/lang/RuntimeException", "java/lang/Exception"]).filter goodWord, w ∈ zGT := fun w h => zGT_of ((by decide +kernel : ∀ w ∈ (vx_atS RX7 310 zIO ["java/lang/RuntimeException", "java/lang/Exception"]).filter goodWord, w ∈ lw_tbl) w h) (List.mem_filter.mp h).2
theorem zt_X7_b : ∀ w ∈ (vx_atS RX7 310 zIO ["java/lang/RuntimeException", "java/lang/Exception"]).filter (fun w => !goodWord w), w ∈ zNwL := by decide +kernel
theorem zt_X7_g : ∀ w ∈ Cond.classLink RX7 306 zIO :: Cond.initialized zIO :: (vx_atS RX7 310 zIO ["java/lang/RuntimeException", "java/lang/Exception"]), vx_ot w = true := by decide +kernel
theorem zc_X7_99 : zCV RX7 99 yX7_demand cX7_demand 3 none 7 2 := by
  refine ⟨RX7, Or.inl ⟨by decide, TX7, 5, rfl⟩, ?_, rfl, by decide +kernel, by decide +kernel, by decide +kernel⟩
  exact zV5 (zGT_in 919 (by decide +kernel) rfl) (zGT_in 921 (by decide +kernel) rfl) (zGT_in 22 (by decide +kernel) rfl) (zGT_in 101 (by decide +kernel) rfl) (zGT_in 922 (by decide +kernel) rfl)
theorem zf_X7_103 : zFW RX7 103 5 2 := ⟨RX5, TX5, 10, by decide, rfl, by decide, zu_X5, zGT_in 188 (by decide +kernel) rfl⟩
theorem zf_X7_106 : zFW RX7 106 5 3 := ⟨RX5, TX5, 10, by decide, rfl, by decide, zu_X5, zGT_in 191 (by decide +kernel) rfl⟩
theorem zc_X7_109 : zCV RX7 109 yX5_isWardIn cX5_isWardIn 5 (some .boolean) 5 2 := by
  refine ⟨RX5, Or.inl ⟨by decide, TX5, 10, rfl⟩, ?_, rfl, by decide +kernel, by decide +kernel, by decide +kernel⟩
  exact zV5 (zGT_in 1004 (by decide +kernel) rfl) (zGT_in 1005 (by decide +kernel) rfl) (zGT_in 1006 (by decide +kernel) rfl) (zGT_in 104 (by decide +kernel) rfl) (zGT_in 1007 (by decide +kernel) rfl)
theorem zc_X7_113 : zCV RX7 113 yX5_regionsAround cX5_regionsAround 4 (some .int) 5 1 := by
  refine ⟨RX5, Or.inl ⟨by decide, TX5, 10, rfl⟩, ?_, rfl, by decide +kernel, by decide +kernel, by decide +kernel⟩
  exact zV5 (zGT_in 1016 (by decide +kernel) rfl) (zGT_in 1017 (by decide +kernel) rfl) (zGT_in 1018 (by decide +kernel) rfl) (zGT_in 104 (by decide +kernel) rfl) (zGT_in 1019 (by decide +kernel) rfl)
theorem zf_X7_116 : zFW RX7 116 5 4 := ⟨RX5, TX5, 10, by decide, rfl, by decide, zu_X5, zGT_in 194 (by decide +kernel) rfl⟩
theorem zf_X7_119 : zFW RX7 119 5 5 := ⟨RX5, TX5, 10, by decide, rfl, by decide, zu_X5, zGT_in 199 (by decide +kernel) rfl⟩
theorem zf_X7_122 : zFW RX7 122 6 0 := ⟨RX6, TX6, 5, by decide, rfl, by decide, zu_X6, zGT_in 316 (by decide +kernel) rfl⟩
theorem zf_X7_126 : zFW RX7 126 0 1 := ⟨RX0, TX0, 9, by decide, rfl, by decide, zu_X0, zGT_in 277 (by decide +kernel) rfl⟩
theorem zf_X7_131 : zFW RX7 131 0 3 := ⟨RX0, TX0, 9, by decide, rfl, by decide, zu_X0, zGT_in 283 (by decide +kernel) rfl⟩
theorem zf_X7_134 : zFW RX7 134 0 0 := ⟨RX0, TX0, 9, by decide, rfl, by decide, zu_X0, zGT_in 274 (by decide +kernel) rfl⟩
theorem zc_X7_137 : zCV RX7 137 yX5_hasPile cX5_hasPile 2 (some .boolean) 5 1 := by
  refine ⟨RX5, Or.inl ⟨by decide, TX5, 10, rfl⟩, ?_, rfl, by decide +kernel, by decide +kernel, by decide +kernel⟩
  exact zV5 (zGT_in 1041 (by decide +kernel) rfl) (zGT_in 1042 (by decide +kernel) rfl) (zGT_in 1043 (by decide +kernel) rfl) (zGT_in 104 (by decide +kernel) rfl) (zGT_in 1044 (by decide +kernel) rfl)
theorem zf_X7_140 : zFW RX7 140 5 7 := ⟨RX5, TX5, 10, by decide, rfl, by decide, zu_X5, zGT_in 206 (by decide +kernel) rfl⟩
theorem zc_X7_144 : zCV RX7 144 yX0_bearsGoodSeal cX0_bearsGoodSeal 1 (some .boolean) 0 0 := by
  refine ⟨RX0, Or.inl ⟨by decide, TX0, 9, rfl⟩, ?_, rfl, by decide +kernel, by decide +kernel, by decide +kernel⟩
  exact zV5 (zGT_in 784 (by decide +kernel) rfl) (zGT_in 785 (by decide +kernel) rfl) (zGT_in 786 (by decide +kernel) rfl) (zGT_in 107 (by decide +kernel) rfl) (zGT_in 787 (by decide +kernel) rfl)
theorem zf_X7_148 : zFW RX7 148 0 2 := ⟨RX0, TX0, 9, by decide, rfl, by decide, zu_X0, zGT_in 280 (by decide +kernel) rfl⟩
theorem zf_X7_151 : zFW RX7 151 0 6 := ⟨RX0, TX0, 9, by decide, rfl, by decide, zu_X0, zGT_in 289 (by decide +kernel) rfl⟩
theorem zc_X7_154 : zCV RX7 154 yX1_boxOn cX1_boxOn 3 (some .int) 1 1 := by
  refine ⟨RX1, Or.inl ⟨by decide, TX1, 2, rfl⟩, ?_, rfl, by decide +kernel, by decide +kernel, by decide +kernel⟩
  exact zV5 (zGT_in 779 (by decide +kernel) rfl) (zGT_in 780 (by decide +kernel) rfl) (zGT_in 781 (by decide +kernel) rfl) (zGT_in 105 (by decide +kernel) rfl) (zGT_in 782 (by decide +kernel) rfl)
theorem zf_X7_157 : zFW RX7 157 5 8 := ⟨RX5, TX5, 10, by decide, rfl, by decide, zu_X5, zGT_in 209 (by decide +kernel) rfl⟩
theorem zc_X7_160 : zCV RX7 160 yX0_hasCount cX0_hasCount 2 (some .boolean) 0 1 := by
  refine ⟨RX0, Or.inl ⟨by decide, TX0, 9, rfl⟩, ?_, rfl, by decide +kernel, by decide +kernel, by decide +kernel⟩
  exact zV5 (zGT_in 1087 (by decide +kernel) rfl) (zGT_in 675 (by decide +kernel) rfl) (zGT_in 676 (by decide +kernel) rfl) (zGT_in 107 (by decide +kernel) rfl) (zGT_in 677 (by decide +kernel) rfl)
theorem zc_X7_163 : zCV RX7 163 yX0_foundBy cX0_foundBy 3 (some .int) 0 2 := by
  refine ⟨RX0, Or.inl ⟨by decide, TX0, 9, rfl⟩, ?_, rfl, by decide +kernel, by decide +kernel, by decide +kernel⟩
  exact zV5 (zGT_in 1088 (by decide +kernel) rfl) (zGT_in 679 (by decide +kernel) rfl) (zGT_in 680 (by decide +kernel) rfl) (zGT_in 107 (by decide +kernel) rfl) (zGT_in 681 (by decide +kernel) rfl)
theorem zf_X7_166 : zFW RX7 166 0 7 := ⟨RX0, TX0, 9, by decide, rfl, by decide, zu_X0, zGT_in 292 (by decide +kernel) rfl⟩
theorem zc_X7_169 : zCV RX7 169 yX5_wouldFind cX5_wouldFind 6 (some .int) 5 3 := by
  refine ⟨RX5, Or.inl ⟨by decide, TX5, 10, rfl⟩, ?_, rfl, by decide +kernel, by decide +kernel, by decide +kernel⟩
  exact zV5 (zGT_in 1103 (by decide +kernel) rfl) (zGT_in 805 (by decide +kernel) rfl) (zGT_in 806 (by decide +kernel) rfl) (zGT_in 104 (by decide +kernel) rfl) (zGT_in 807 (by decide +kernel) rfl)
theorem zf_X7_173 : zFW RX7 173 0 5 := ⟨RX0, TX0, 9, by decide, rfl, by decide, zu_X0, zGT_in 287 (by decide +kernel) rfl⟩
theorem zc_X7_177 : zCV RX7 177 yX0_foundValidly cX0_foundValidly 2 (some .int) 0 1 := by
  refine ⟨RX0, Or.inl ⟨by decide, TX0, 9, rfl⟩, ?_, rfl, by decide +kernel, by decide +kernel, by decide +kernel⟩
  exact zV5 (zGT_in 1118 (by decide +kernel) rfl) (zGT_in 671 (by decide +kernel) rfl) (zGT_in 672 (by decide +kernel) rfl) (zGT_in 107 (by decide +kernel) rfl) (zGT_in 673 (by decide +kernel) rfl)
theorem zc_X7_180 : zCV RX7 180 yX1_papersTooMany cX1_papersTooMany 5 (some .int) 1 1 := by
  refine ⟨RX1, Or.inl ⟨by decide, TX1, 2, rfl⟩, ?_, rfl, by decide +kernel, by decide +kernel, by decide +kernel⟩
  exact zV5 (zGT_in 1126 (by decide +kernel) rfl) (zGT_in 666 (by decide +kernel) rfl) (zGT_in 667 (by decide +kernel) rfl) (zGT_in 105 (by decide +kernel) rfl) (zGT_in 668 (by decide +kernel) rfl)
theorem zc_X7_183 : zCV RX7 183 yX1_isBoxOff cX1_isBoxOff 2 (some .boolean) 1 1 := by
  refine ⟨RX1, Or.inl ⟨by decide, TX1, 2, rfl⟩, ?_, rfl, by decide +kernel, by decide +kernel, by decide +kernel⟩
  exact zV5 (zGT_in 1134 (by decide +kernel) rfl) (zGT_in 662 (by decide +kernel) rfl) (zGT_in 663 (by decide +kernel) rfl) (zGT_in 105 (by decide +kernel) rfl) (zGT_in 664 (by decide +kernel) rfl)
theorem zc_X7_186 : zCV RX7 186 yX1_foundInWard cX1_foundInWard 5 (some .int) 1 2 := by
  refine ⟨RX1, Or.inl ⟨by decide, TX1, 2, rfl⟩, ?_, rfl, by decide +kernel, by decide +kernel, by decide +kernel⟩
  exact zV5 (zGT_in 1142 (by decide +kernel) rfl) (zGT_in 690 (by decide +kernel) rfl) (zGT_in 691 (by decide +kernel) rfl) (zGT_in 105 (by decide +kernel) rfl) (zGT_in 692 (by decide +kernel) rfl)
theorem zc_X7_189 : zCV RX7 189 yX1_partyAhead cX1_partyAhead 6 (some .int) 1 1 := by
  refine ⟨RX1, Or.inl ⟨by decide, TX1, 2, rfl⟩, ?_, rfl, by decide +kernel, by decide +kernel, by decide +kernel⟩
  exact zV5 (zGT_in 1150 (by decide +kernel) rfl) (zGT_in 1151 (by decide +kernel) rfl) (zGT_in 1152 (by decide +kernel) rfl) (zGT_in 105 (by decide +kernel) rfl) (zGT_in 1153 (by decide +kernel) rfl)
theorem zc_X7_192 : zCV RX7 192 yX1_lead cX1_lead 6 (some .int) 1 1 := by
  refine ⟨RX1, Or.inl ⟨by decide, TX1, 2, rfl⟩, ?_, rfl, by decide +kernel, by decide +kernel, by decide +kernel⟩
  exact zV5 (zGT_in 1161 (by decide +kernel) rfl) (zGT_in 694 (by decide +kernel) rfl) (zGT_in 695 (by decide +kernel) rfl) (zGT_in 105 (by decide +kernel) rfl) (zGT_in 696 (by decide +kernel) rfl)
theorem zc_X7_195 : zCV RX7 195 yX1_isWardClose cX1_isWardClose 4 (some .boolean) 1 1 := by
  refine ⟨RX1, Or.inl ⟨by decide, TX1, 2, rfl⟩, ?_, rfl, by decide +kernel, by decide +kernel, by decide +kernel⟩
  exact zV5 (zGT_in 1169 (by decide +kernel) rfl) (zGT_in 686 (by decide +kernel) rfl) (zGT_in 687 (by decide +kernel) rfl) (zGT_in 105 (by decide +kernel) rfl) (zGT_in 688 (by decide +kernel) rfl)
theorem zc_X7_198 : zCV RX7 198 yX1_reasonAgainst cX1_reasonAgainst 9 (some .int) 1 1 := by
  refine ⟨RX1, Or.inl ⟨by decide, TX1, 2, rfl⟩, ?_, rfl, by decide +kernel, by decide +kernel, by decide +kernel⟩
  exact zV5 (zGT_in 1177 (by decide +kernel) rfl) (zGT_in 714 (by decide +kernel) rfl) (zGT_in 715 (by decide +kernel) rfl) (zGT_in 105 (by decide +kernel) rfl) (zGT_in 716 (by decide +kernel) rfl)
theorem zc_X7_201 : zCV RX7 201 yX1_boxesToCount cX1_boxesToCount 3 (some .int) 1 0 := by
  refine ⟨RX1, Or.inl ⟨by decide, TX1, 2, rfl⟩, ?_, rfl, by decide +kernel, by decide +kernel, by decide +kernel⟩
  exact zV5 (zGT_in 649 (by decide +kernel) rfl) (zGT_in 650 (by decide +kernel) rfl) (zGT_in 651 (by decide +kernel) rfl) (zGT_in 105 (by decide +kernel) rfl) (zGT_in 652 (by decide +kernel) rfl)
theorem zc_X7_205 : zCV RX7 205 yX1_countsToConfirm cX1_countsToConfirm 3 (some .int) 1 1 := by
  refine ⟨RX1, Or.inl ⟨by decide, TX1, 2, rfl⟩, ?_, rfl, by decide +kernel, by decide +kernel, by decide +kernel⟩
  exact zV5 (zGT_in 1185 (by decide +kernel) rfl) (zGT_in 1186 (by decide +kernel) rfl) (zGT_in 1187 (by decide +kernel) rfl) (zGT_in 105 (by decide +kernel) rfl) (zGT_in 1188 (by decide +kernel) rfl)
theorem zc_X7_208 : zCV RX7 208 yX5_wouldFindTruth cX5_wouldFindTruth 4 (some .boolean) 5 2 := by
  refine ⟨RX5, Or.inl ⟨by decide, TX5, 10, rfl⟩, ?_, rfl, by decide +kernel, by decide +kernel, by decide +kernel⟩
  exact zV5 (zGT_in 1213 (by decide +kernel) rfl) (zGT_in 1214 (by decide +kernel) rfl) (zGT_in 1215 (by decide +kernel) rfl) (zGT_in 104 (by decide +kernel) rfl) (zGT_in 1216 (by decide +kernel) rfl)
theorem zc_X7_211 : zCV RX7 211 yX1_nextReady cX1_nextReady 5 (some .int) 1 0 := by
  refine ⟨RX1, Or.inl ⟨by decide, TX1, 2, rfl⟩, ?_, rfl, by decide +kernel, by decide +kernel, by decide +kernel⟩
  exact zV5 (zGT_in 705 (by decide +kernel) rfl) (zGT_in 706 (by decide +kernel) rfl) (zGT_in 707 (by decide +kernel) rfl) (zGT_in 105 (by decide +kernel) rfl) (zGT_in 708 (by decide +kernel) rfl)
theorem zf_X7_214 : zFW RX7 214 6 3 := ⟨RX6, TX6, 5, by decide, rfl, by decide, zu_X6, zGT_in 325 (by decide +kernel) rfl⟩
theorem zf_X7_217 : zFW RX7 217 6 2 := ⟨RX6, TX6, 5, by decide, rfl, by decide, zu_X6, zGT_in 322 (by decide +kernel) rfl⟩
theorem zc_X7_220 : zCV RX7 220 yX1_wardsWithin cX1_wardsWithin 5 (some .int) 1 2 := by
  refine ⟨RX1, Or.inl ⟨by decide, TX1, 2, rfl⟩, ?_, rfl, by decide +kernel, by decide +kernel, by decide +kernel⟩
  exact zV5 (zGT_in 1224 (by decide +kernel) rfl) (zGT_in 1225 (by decide +kernel) rfl) (zGT_in 1226 (by decide +kernel) rfl) (zGT_in 105 (by decide +kernel) rfl) (zGT_in 1227 (by decide +kernel) rfl)
theorem zc_X7_227 : zCV RX7 227 yX1_votesWithin cX1_votesWithin 5 (some .int) 1 2 := by
  refine ⟨RX1, Or.inl ⟨by decide, TX1, 2, rfl⟩, ?_, rfl, by decide +kernel, by decide +kernel, by decide +kernel⟩
  exact zV5 (zGT_in 1236 (by decide +kernel) rfl) (zGT_in 1237 (by decide +kernel) rfl) (zGT_in 1238 (by decide +kernel) rfl) (zGT_in 105 (by decide +kernel) rfl) (zGT_in 1239 (by decide +kernel) rfl)
theorem zc_X7_230 : zCV RX7 230 yX1_seatsWithin cX1_seatsWithin 6 (some .int) 1 2 := by
  refine ⟨RX1, Or.inl ⟨by decide, TX1, 2, rfl⟩, ?_, rfl, by decide +kernel, by decide +kernel, by decide +kernel⟩
  exact zV5 (zGT_in 1247 (by decide +kernel) rfl) (zGT_in 1248 (by decide +kernel) rfl) (zGT_in 1249 (by decide +kernel) rfl) (zGT_in 105 (by decide +kernel) rfl) (zGT_in 1250 (by decide +kernel) rfl)
theorem zc_X7_233 : zCV RX7 233 yX1_cannotBeCaught cX1_cannotBeCaught 6 (some .boolean) 1 2 := by
  refine ⟨RX1, Or.inl ⟨by decide, TX1, 2, rfl⟩, ?_, rfl, by decide +kernel, by decide +kernel, by decide +kernel⟩
  exact zV5 (zGT_in 1259 (by decide +kernel) rfl) (zGT_in 1260 (by decide +kernel) rfl) (zGT_in 1261 (by decide +kernel) rfl) (zGT_in 105 (by decide +kernel) rfl) (zGT_in 1262 (by decide +kernel) rfl)
theorem zc_X7_236 : zCV RX7 236 yX1_differencesOf cX1_differencesOf 5 (some .int) 1 1 := by
  refine ⟨RX1, Or.inl ⟨by decide, TX1, 2, rfl⟩, ?_, rfl, by decide +kernel, by decide +kernel, by decide +kernel⟩
  exact zV5 (zGT_in 729 (by decide +kernel) rfl) (zGT_in 730 (by decide +kernel) rfl) (zGT_in 731 (by decide +kernel) rfl) (zGT_in 105 (by decide +kernel) rfl) (zGT_in 732 (by decide +kernel) rfl)
theorem zc_X7_239 : zCV RX7 239 yX1_wrongCountsAt cX1_wrongCountsAt 5 (some .int) 1 1 := by
  refine ⟨RX1, Or.inl ⟨by decide, TX1, 2, rfl⟩, ?_, rfl, by decide +kernel, by decide +kernel, by decide +kernel⟩
  exact zV5 (zGT_in 737 (by decide +kernel) rfl) (zGT_in 738 (by decide +kernel) rfl) (zGT_in 739 (by decide +kernel) rfl) (zGT_in 105 (by decide +kernel) rfl) (zGT_in 740 (by decide +kernel) rfl)
theorem zc_X7_242 : zCV RX7 242 yX2_keep cX2_keep 2 none 2 1 := by
  refine ⟨RX2, Or.inl ⟨by decide, TX2, 2, rfl⟩, ?_, rfl, by decide +kernel, by decide +kernel, by decide +kernel⟩
  exact zV5 (zGT_in 754 (by decide +kernel) rfl) (zGT_in 755 (by decide +kernel) rfl) (zGT_in 756 (by decide +kernel) rfl) (zGT_in 108 (by decide +kernel) rfl) (zGT_in 757 (by decide +kernel) rfl)
theorem zp_X7_134 : zPW RX7 134 0 0 .int := ⟨RX0, TX0, 9, tyX0, ⟨by decide, rfl, by decide, zu_X0, zGT_in 274 (by decide +kernel) rfl⟩, tyX0_ok, nmX0, rfl, by decide +kernel⟩
theorem zc_X7_246 : zCV RX7 246 yX1_boxesInHall cX1_boxesInHall 3 (some .int) 1 0 := by
  refine ⟨RX1, Or.inl ⟨by decide, TX1, 2, rfl⟩, ?_, rfl, by decide +kernel, by decide +kernel, by decide +kernel⟩
  exact zV5 (zGT_in 771 (by decide +kernel) rfl) (zGT_in 772 (by decide +kernel) rfl) (zGT_in 773 (by decide +kernel) rfl) (zGT_in 105 (by decide +kernel) rfl) (zGT_in 774 (by decide +kernel) rfl)
theorem zbi_m6 : (Int8.ofInt (-6)).toInt32 = (-6 : Int32) := by decide +kernel
theorem zc_X7_249 : zCV RX7 249 yX1_isWardDeclared cX1_isWardDeclared 3 (some .boolean) 1 1 := by
  refine ⟨RX1, Or.inl ⟨by decide, TX1, 2, rfl⟩, ?_, rfl, by decide +kernel, by decide +kernel, by decide +kernel⟩
  exact zV5 (zGT_in 783 (by decide +kernel) rfl) (zGT_in 658 (by decide +kernel) rfl) (zGT_in 659 (by decide +kernel) rfl) (zGT_in 105 (by decide +kernel) rfl) (zGT_in 660 (by decide +kernel) rfl)
theorem zc_X7_252 : zCV RX7 252 yX0_openOn cX0_openOn 3 (some .int) 0 1 := by
  refine ⟨RX0, Or.inl ⟨by decide, TX0, 9, rfl⟩, ?_, rfl, by decide +kernel, by decide +kernel, by decide +kernel⟩
  exact zV5 (zGT_in 792 (by decide +kernel) rfl) (zGT_in 793 (by decide +kernel) rfl) (zGT_in 794 (by decide +kernel) rfl) (zGT_in 107 (by decide +kernel) rfl) (zGT_in 795 (by decide +kernel) rfl)
theorem zbi_m7 : (Int8.ofInt (-7)).toInt32 = (-7 : Int32) := by decide +kernel
theorem zc_X7_255 : zCV RX7 255 yX1_addCount cX1_addCount 6 none 1 2 := by
  refine ⟨RX1, Or.inl ⟨by decide, TX1, 2, rfl⟩, ?_, rfl, by decide +kernel, by decide +kernel, by decide +kernel⟩
  exact zV5 (zGT_in 800 (by decide +kernel) rfl) (zGT_in 801 (by decide +kernel) rfl) (zGT_in 802 (by decide +kernel) rfl) (zGT_in 105 (by decide +kernel) rfl) (zGT_in 803 (by decide +kernel) rfl)
theorem zc_X7_258 : zCV RX7 258 yX6_sealUp cX6_sealUp 3 none 6 1 := by
  refine ⟨RX6, Or.inl ⟨by decide, TX6, 5, rfl⟩, ?_, rfl, by decide +kernel, by decide +kernel, by decide +kernel⟩
  exact zV5 (zGT_in 829 (by decide +kernel) rfl) (zGT_in 830 (by decide +kernel) rfl) (zGT_in 831 (by decide +kernel) rfl) (zGT_in 106 (by decide +kernel) rfl) (zGT_in 832 (by decide +kernel) rfl)
theorem zc_X7_261 : zCV RX7 261 yX0_isAtTable cX0_isAtTable 1 (some .boolean) 0 0 := by
  refine ⟨RX0, Or.inl ⟨by decide, TX0, 9, rfl⟩, ?_, rfl, by decide +kernel, by decide +kernel, by decide +kernel⟩
  exact zV5 (zGT_in 838 (by decide +kernel) rfl) (zGT_in 789 (by decide +kernel) rfl) (zGT_in 790 (by decide +kernel) rfl) (zGT_in 107 (by decide +kernel) rfl) (zGT_in 791 (by decide +kernel) rfl)
theorem zp_X7_126 : zPW RX7 126 0 1 .int := ⟨RX0, TX0, 9, tyX0, ⟨by decide, rfl, by decide, zu_X0, zGT_in 277 (by decide +kernel) rfl⟩, tyX0_ok, nmX0, rfl, by decide +kernel⟩
theorem zc_X7_264 : zCV RX7 264 yX0_enter cX0_enter 2 none 0 1 := by
  refine ⟨RX0, Or.inl ⟨by decide, TX0, 9, rfl⟩, ?_, rfl, by decide +kernel, by decide +kernel, by decide +kernel⟩
  exact zV5 (zGT_in 843 (by decide +kernel) rfl) (zGT_in 615 (by decide +kernel) rfl) (zGT_in 616 (by decide +kernel) rfl) (zGT_in 107 (by decide +kernel) rfl) (zGT_in 617 (by decide +kernel) rfl)
theorem zc_X7_267 : zCV RX7 267 yX6_addDeclared cX6_addDeclared 2 none 6 1 := by
  refine ⟨RX6, Or.inl ⟨by decide, TX6, 5, rfl⟩, ?_, rfl, by decide +kernel, by decide +kernel, by decide +kernel⟩
  exact zV5 (zGT_in 848 (by decide +kernel) rfl) (zGT_in 849 (by decide +kernel) rfl) (zGT_in 850 (by decide +kernel) rfl) (zGT_in 106 (by decide +kernel) rfl) (zGT_in 851 (by decide +kernel) rfl)
theorem zc_X7_270 : zCV RX7 270 yX1_fillTables cX1_fillTables 4 none 1 1 := by
  refine ⟨RX1, Or.inl ⟨by decide, TX1, 2, rfl⟩, ?_, rfl, by decide +kernel, by decide +kernel, by decide +kernel⟩
  exact zV5 (zGT_in 856 (by decide +kernel) rfl) (zGT_in 857 (by decide +kernel) rfl) (zGT_in 858 (by decide +kernel) rfl) (zGT_in 105 (by decide +kernel) rfl) (zGT_in 859 (by decide +kernel) rfl)
theorem zc_X7_273 : zCV RX7 273 yX1_countAndSeal cX1_countAndSeal 5 (some .int) 1 1 := by
  refine ⟨RX1, Or.inl ⟨by decide, TX1, 2, rfl⟩, ?_, rfl, by decide +kernel, by decide +kernel, by decide +kernel⟩
  exact zV5 (zGT_in 871 (by decide +kernel) rfl) (zGT_in 872 (by decide +kernel) rfl) (zGT_in 873 (by decide +kernel) rfl) (zGT_in 105 (by decide +kernel) rfl) (zGT_in 874 (by decide +kernel) rfl)
theorem zs_X7_276 : zCS RX7 276 yX7_mostOf cX7_mostOf 1 (some .int) 1 := by
  refine ⟨?_, by decide +kernel, by decide +kernel, by decide +kernel⟩
  exact zS4 (zGT_in 881 (by decide +kernel) rfl) (zGT_in 592 (by decide +kernel) rfl) (zGT_in 101 (by decide +kernel) rfl) (zGT_in 593 (by decide +kernel) rfl)
theorem zc_X7_279 : zCV RX7 279 yX2_giveBack cX2_giveBack 2 none 2 1 := by
  refine ⟨RX2, Or.inl ⟨by decide, TX2, 2, rfl⟩, ?_, rfl, by decide +kernel, by decide +kernel, by decide +kernel⟩
  exact zV5 (zGT_in 886 (by decide +kernel) rfl) (zGT_in 887 (by decide +kernel) rfl) (zGT_in 888 (by decide +kernel) rfl) (zGT_in 108 (by decide +kernel) rfl) (zGT_in 889 (by decide +kernel) rfl)
theorem zf_X7_313 : zFW RX7 313 5 1 := ⟨RX5, TX5, 10, by decide, rfl, by decide, zu_X5, zGT_in 185 (by decide +kernel) rfl⟩
theorem zbi_31 : (Int8.ofInt (31)).toInt32 = (31 : Int32) := by decide +kernel
theorem zc_X7_288 : zCV RX7 288 yJ4_append_cf468 cJ4_append_cf468 2 (some (.object "java/lang/StringBuilder")) 9 1 := by
  refine ⟨RJ4, Or.inl ⟨by decide, TJ4, 4, rfl⟩, ?_, rfl, by decide +kernel, by decide +kernel, by decide +kernel⟩
  exact zV5 (zGT_in 1505 (by decide +kernel) rfl) (zGT_in 1506 (by decide +kernel) rfl) (zGT_in 1507 (by decide +kernel) rfl) (zGT_in 110 (by decide +kernel) rfl) (zGT_in 1508 (by decide +kernel) rfl)
theorem zc_X7_282 : zCV RX7 282 yJ4_setLength_d00df cJ4_setLength_d00df 2 none 9 1 := by
  refine ⟨RJ4, Or.inl ⟨by decide, TJ4, 4, rfl⟩, ?_, rfl, by decide +kernel, by decide +kernel, by decide +kernel⟩
  exact zV5 (zGT_in 1272 (by decide +kernel) rfl) (zGT_in 1273 (by decide +kernel) rfl) (zGT_in 1274 (by decide +kernel) rfl) (zGT_in 110 (by decide +kernel) rfl) (zGT_in 1275 (by decide +kernel) rfl)
theorem zc_X7_285 : zCV RX7 285 yX7_writeName cX7_writeName 6 none 7 2 := by
  refine ⟨RX7, Or.inl ⟨by decide, TX7, 5, rfl⟩, ?_, rfl, by decide +kernel, by decide +kernel, by decide +kernel⟩
  exact zV5 (zGT_in 1501 (by decide +kernel) rfl) (zGT_in 1503 (by decide +kernel) rfl) (zGT_in 27 (by decide +kernel) rfl) (zGT_in 101 (by decide +kernel) rfl) (zGT_in 1504 (by decide +kernel) rfl)
theorem zbi_61 : (Int8.ofInt (61)).toInt32 = (61 : Int32) := by decide +kernel
theorem zc_X7_291 : zCV RX7 291 yJ4_append_bf812 cJ4_append_bf812 2 (some (.object "java/lang/StringBuilder")) 9 1 := by
  refine ⟨RJ4, Or.inl ⟨by decide, TJ4, 4, rfl⟩, ?_, rfl, by decide +kernel, by decide +kernel, by decide +kernel⟩
  exact zV5 (zGT_in 1518 (by decide +kernel) rfl) (zGT_in 1383 (by decide +kernel) rfl) (zGT_in 1384 (by decide +kernel) rfl) (zGT_in 110 (by decide +kernel) rfl) (zGT_in 1385 (by decide +kernel) rfl)
theorem zc_X7_299 : zCV RX7 299 yJ4_length_8abf5 cJ4_length_8abf5 1 (some .int) 9 0 := by
  refine ⟨RJ4, Or.inl ⟨by decide, TJ4, 4, rfl⟩, ?_, rfl, by decide +kernel, by decide +kernel, by decide +kernel⟩
  exact zV5 (zGT_in 894 (by decide +kernel) rfl) (zGT_in 895 (by decide +kernel) rfl) (zGT_in 896 (by decide +kernel) rfl) (zGT_in 110 (by decide +kernel) rfl) (zGT_in 897 (by decide +kernel) rfl)
theorem zc_X7_296 : zCV RX7 296 yJ4_append_15ec4 cJ4_append_15ec4 2 (some (.object "java/lang/StringBuilder")) 9 1 := by
  refine ⟨RJ4, Or.inl ⟨by decide, TJ4, 4, rfl⟩, ?_, rfl, by decide +kernel, by decide +kernel, by decide +kernel⟩
  exact zV5 (zGT_in 1520 (by decide +kernel) rfl) (zGT_in 1288 (by decide +kernel) rfl) (zGT_in 1289 (by decide +kernel) rfl) (zGT_in 110 (by decide +kernel) rfl) (zGT_in 1290 (by decide +kernel) rfl)
theorem zc_X7_302 : zCV RX7 302 yJ4_charAt_5068e cJ4_charAt_5068e 2 (some .char) 9 1 := by
  refine ⟨RJ4, Or.inl ⟨by decide, TJ4, 4, rfl⟩, ?_, rfl, by decide +kernel, by decide +kernel, by decide +kernel⟩
  exact zV5 (zGT_in 901 (by decide +kernel) rfl) (zGT_in 902 (by decide +kernel) rfl) (zGT_in 903 (by decide +kernel) rfl) (zGT_in 110 (by decide +kernel) rfl) (zGT_in 904 (by decide +kernel) rfl)
theorem zsi_144 : (Int16.ofInt (144)).toInt32 = (144 : Int32) := by decide +kernel
theorem zu_X8 : ∀ w ∈ u_ws RX8 TX8 21, w ∈ zGT := fun w h => zGT_of ((by decide +kernel : ∀ w ∈ u_ws RX8 TX8 21, w ∈ lw_tbl) w h) ((by decide +kernel : ∀ w ∈ u_ws RX8 TX8 21, goodWord w = true) w h)
theorem zf_X8_13 : zFW RX8 13 8 3 := ⟨RX8, TX8, 21, by decide, rfl, by decide, zu_X8, zGT_in 1534 (by decide +kernel) rfl⟩
theorem zsi_538 : (Int16.ofInt (538)).toInt32 = (538 : Int32) := by decide +kernel
theorem zf_X8_19 : zFW RX8 19 8 5 := ⟨RX8, TX8, 21, by decide, rfl, by decide, zu_X8, zGT_in 1536 (by decide +kernel) rfl⟩
theorem zo_X8_1 : zOI RX8 1 := ⟨zGT_in 1526 (by decide +kernel) rfl, zGT_in 133 (by decide +kernel) rfl, zGT_in 134 (by decide +kernel) rfl⟩
theorem zf_X8_7 : zFW RX8 7 8 1 := ⟨RX8, TX8, 21, by decide, rfl, by decide, zu_X8, zGT_in 1532 (by decide +kernel) rfl⟩
theorem zpf_X8_7 : zPF RX8 7 8 1 (.array .int) := ⟨RX8, TX8, 21, tyX8, ⟨by decide, rfl, by decide, zu_X8, zGT_in 1532 (by decide +kernel) rfl⟩, tyX8_ok, nmX8, rfl, rfl, by decide +kernel⟩
theorem zpf_X8_13 : zPF RX8 13 8 3 (.array .int) := ⟨RX8, TX8, 21, tyX8, ⟨by decide, rfl, by decide, zu_X8, zGT_in 1534 (by decide +kernel) rfl⟩, tyX8_ok, nmX8, rfl, rfl, by decide +kernel⟩
theorem zf_X8_16 : zFW RX8 16 8 4 := ⟨RX8, TX8, 21, by decide, rfl, by decide, zu_X8, zGT_in 1535 (by decide +kernel) rfl⟩
theorem zpf_X8_16 : zPF RX8 16 8 4 (.array .int) := ⟨RX8, TX8, 21, tyX8, ⟨by decide, rfl, by decide, zu_X8, zGT_in 1535 (by decide +kernel) rfl⟩, tyX8_ok, nmX8, rfl, rfl, by decide +kernel⟩
theorem zpf_X8_19 : zPF RX8 19 8 5 (.array .int) := ⟨RX8, TX8, 21, tyX8, ⟨by decide, rfl, by decide, zu_X8, zGT_in 1536 (by decide +kernel) rfl⟩, tyX8_ok, nmX8, rfl, rfl, by decide +kernel⟩
theorem zf_X8_22 : zFW RX8 22 8 6 := ⟨RX8, TX8, 21, by decide, rfl, by decide, zu_X8, zGT_in 1537 (by decide +kernel) rfl⟩
theorem zpf_X8_22 : zPF RX8 22 8 6 (.array .int) := ⟨RX8, TX8, 21, tyX8, ⟨by decide, rfl, by decide, zu_X8, zGT_in 1537 (by decide +kernel) rfl⟩, tyX8_ok, nmX8, rfl, rfl, by decide +kernel⟩
theorem zsi_5380 : (Int16.ofInt (5380)).toInt32 = (5380 : Int32) := by decide +kernel
theorem zf_X8_25 : zFW RX8 25 8 7 := ⟨RX8, TX8, 21, by decide, rfl, by decide, zu_X8, zGT_in 1538 (by decide +kernel) rfl⟩
theorem zpf_X8_25 : zPF RX8 25 8 7 (.array .int) := ⟨RX8, TX8, 21, tyX8, ⟨by decide, rfl, by decide, zu_X8, zGT_in 1538 (by decide +kernel) rfl⟩, tyX8_ok, nmX8, rfl, rfl, by decide +kernel⟩
theorem zf_X8_28 : zFW RX8 28 8 16 := ⟨RX8, TX8, 21, by decide, rfl, by decide, zu_X8, zGT_in 1547 (by decide +kernel) rfl⟩
theorem zp_X8_28 : zPW RX8 28 8 16 .int := ⟨RX8, TX8, 21, tyX8, ⟨by decide, rfl, by decide, zu_X8, zGT_in 1547 (by decide +kernel) rfl⟩, tyX8_ok, nmX8, rfl, by decide +kernel⟩
theorem zf_X8_32 : zFW RX8 32 8 19 := ⟨RX8, TX8, 21, by decide, rfl, by decide, zu_X8, zGT_in 1550 (by decide +kernel) rfl⟩
theorem zpf_X8_32 : zPF RX8 32 8 19 (.array .int) := ⟨RX8, TX8, 21, tyX8, ⟨by decide, rfl, by decide, zu_X8, zGT_in 1550 (by decide +kernel) rfl⟩, tyX8_ok, nmX8, rfl, rfl, by decide +kernel⟩
theorem zc_X8_35 : zCV RX8 35 yX8_newHall cX8_newHall 2 none 8 0 := by
  refine ⟨RX8, Or.inl ⟨by decide, TX8, 21, rfl⟩, ?_, rfl, by decide +kernel, by decide +kernel, by decide +kernel⟩
  exact zV5 (zGT_in 1527 (by decide +kernel) rfl) (zGT_in 1529 (by decide +kernel) rfl) (zGT_in 28 (by decide +kernel) rfl) (zGT_in 113 (by decide +kernel) rfl) (zGT_in 1530 (by decide +kernel) rfl)
theorem zf_X8_38 : zFW RX8 38 8 0 := ⟨RX8, TX8, 21, by decide, rfl, by decide, zu_X8, zGT_in 1531 (by decide +kernel) rfl⟩
theorem zp_X8_38 : zPW RX8 38 8 0 .int := ⟨RX8, TX8, 21, tyX8, ⟨by decide, rfl, by decide, zu_X8, zGT_in 1531 (by decide +kernel) rfl⟩, tyX8_ok, nmX8, rfl, by decide +kernel⟩
theorem zf_X8_41 : zFW RX8 41 8 2 := ⟨RX8, TX8, 21, by decide, rfl, by decide, zu_X8, zGT_in 1533 (by decide +kernel) rfl⟩
theorem zbi_8 : (Int8.ofInt (8)).toInt32 = (8 : Int32) := by decide +kernel
theorem zp_X8_41 : zPW RX8 41 8 2 .int := ⟨RX8, TX8, 21, tyX8, ⟨by decide, rfl, by decide, zu_X8, zGT_in 1533 (by decide +kernel) rfl⟩, tyX8_ok, nmX8, rfl, by decide +kernel⟩
theorem zc_X8_44 : zCV RX8 44 yX8_many cX8_many 2 (some .int) 8 1 := by
  refine ⟨RX8, Or.inl ⟨by decide, TX8, 21, rfl⟩, ?_, rfl, by decide +kernel, by decide +kernel, by decide +kernel⟩
  exact zV5 (zGT_in 1640 (by decide +kernel) rfl) (zGT_in 1642 (by decide +kernel) rfl) (zGT_in 34 (by decide +kernel) rfl) (zGT_in 113 (by decide +kernel) rfl) (zGT_in 1643 (by decide +kernel) rfl)
theorem zbi_44 : (Int8.ofInt (44)).toInt32 = (44 : Int32) := by decide +kernel
theorem zbi_68 : (Int8.ofInt (68)).toInt32 = (68 : Int32) := by decide +kernel
theorem zc_X8_48 : zCV RX8 48 yX8_of cX8_of 3 (some .int) 8 2 := by
  refine ⟨RX8, Or.inl ⟨by decide, TX8, 21, rfl⟩, ?_, rfl, by decide +kernel, by decide +kernel, by decide +kernel⟩
  exact zV5 (zGT_in 1766 (by decide +kernel) rfl) (zGT_in 1768 (by decide +kernel) rfl) (zGT_in 53 (by decide +kernel) rfl) (zGT_in 113 (by decide +kernel) rfl) (zGT_in 1769 (by decide +kernel) rfl)
theorem zc_X8_52 : zCV RX8 52 yX8_isAtTable cX8_isAtTable 2 (some .boolean) 8 1 := by
  refine ⟨RX8, Or.inl ⟨by decide, TX8, 21, rfl⟩, ?_, rfl, by decide +kernel, by decide +kernel, by decide +kernel⟩
  exact zV5 (zGT_in 1794 (by decide +kernel) rfl) (zGT_in 1796 (by decide +kernel) rfl) (zGT_in 57 (by decide +kernel) rfl) (zGT_in 113 (by decide +kernel) rfl) (zGT_in 1797 (by decide +kernel) rfl)
theorem zc_X8_56 : zCV RX8 56 yX8_paper cX8_paper 3 (some .int) 8 2 := by
  refine ⟨RX8, Or.inl ⟨by decide, TX8, 21, rfl⟩, ?_, rfl, by decide +kernel, by decide +kernel, by decide +kernel⟩
  exact zV5 (zGT_in 1782 (by decide +kernel) rfl) (zGT_in 1784 (by decide +kernel) rfl) (zGT_in 55 (by decide +kernel) rfl) (zGT_in 113 (by decide +kernel) rfl) (zGT_in 1785 (by decide +kernel) rfl)
theorem zsi_140 : (Int16.ofInt (140)).toInt32 = (140 : Int32) := by decide +kernel
theorem zc_X8_63 : zCV RX8 63 yX8_slips cX8_slips 6 (some .int) 8 3 := by
  refine ⟨RX8, Or.inl ⟨by decide, TX8, 21, rfl⟩, ?_, rfl, by decide +kernel, by decide +kernel, by decide +kernel⟩
  exact zV5 (zGT_in 1842 (by decide +kernel) rfl) (zGT_in 1844 (by decide +kernel) rfl) (zGT_in 62 (by decide +kernel) rfl) (zGT_in 113 (by decide +kernel) rfl) (zGT_in 1845 (by decide +kernel) rfl)
theorem zc_X8_59 : zCV RX8 59 yX8_piles cX8_piles 1 (some .int) 8 0 := by
  refine ⟨RX8, Or.inl ⟨by decide, TX8, 21, rfl⟩, ?_, rfl, by decide +kernel, by decide +kernel, by decide +kernel⟩
  exact zV5 (zGT_in 1687 (by decide +kernel) rfl) (zGT_in 1689 (by decide +kernel) rfl) (zGT_in 45 (by decide +kernel) rfl) (zGT_in 113 (by decide +kernel) rfl) (zGT_in 1690 (by decide +kernel) rfl)
theorem zc_X8_67 : zCV RX8 67 yX8_found cX8_found 4 (some .int) 8 3 := by
  refine ⟨RX8, Or.inl ⟨by decide, TX8, 21, rfl⟩, ?_, rfl, by decide +kernel, by decide +kernel, by decide +kernel⟩
  exact zV5 (zGT_in 1826 (by decide +kernel) rfl) (zGT_in 1828 (by decide +kernel) rfl) (zGT_in 60 (by decide +kernel) rfl) (zGT_in 113 (by decide +kernel) rfl) (zGT_in 1829 (by decide +kernel) rfl)
theorem zc_X8_70 : zCV RX8 70 yX8_agree cX8_agree 5 (some .boolean) 8 3 := by
  refine ⟨RX8, Or.inl ⟨by decide, TX8, 21, rfl⟩, ?_, rfl, by decide +kernel, by decide +kernel, by decide +kernel⟩
  exact zV5 (zGT_in 1854 (by decide +kernel) rfl) (zGT_in 1856 (by decide +kernel) rfl) (zGT_in 64 (by decide +kernel) rfl) (zGT_in 113 (by decide +kernel) rfl) (zGT_in 1857 (by decide +kernel) rfl)
theorem zc_X8_74 : zCV RX8 74 yX8_wasCounted cX8_wasCounted 2 (some .boolean) 8 1 := by
  refine ⟨RX8, Or.inl ⟨by decide, TX8, 21, rfl⟩, ?_, rfl, by decide +kernel, by decide +kernel, by decide +kernel⟩
  exact zV5 (zGT_in 1862 (by decide +kernel) rfl) (zGT_in 1864 (by decide +kernel) rfl) (zGT_in 65 (by decide +kernel) rfl) (zGT_in 113 (by decide +kernel) rfl) (zGT_in 1865 (by decide +kernel) rfl)
theorem zc_X8_77 : zCV RX8 77 yX8_confirmed cX8_confirmed 4 (some .int) 8 1 := by
  refine ⟨RX8, Or.inl ⟨by decide, TX8, 21, rfl⟩, ?_, rfl, by decide +kernel, by decide +kernel, by decide +kernel⟩
  exact zV5 (zGT_in 1850 (by decide +kernel) rfl) (zGT_in 1852 (by decide +kernel) rfl) (zGT_in 63 (by decide +kernel) rfl) (zGT_in 113 (by decide +kernel) rfl) (zGT_in 1853 (by decide +kernel) rfl)
theorem zc_X8_80 : zCV RX8 80 yX8_valid cX8_valid 4 (some .int) 8 2 := by
  refine ⟨RX8, Or.inl ⟨by decide, TX8, 21, rfl⟩, ?_, rfl, by decide +kernel, by decide +kernel, by decide +kernel⟩
  exact zV5 (zGT_in 1866 (by decide +kernel) rfl) (zGT_in 1868 (by decide +kernel) rfl) (zGT_in 66 (by decide +kernel) rfl) (zGT_in 113 (by decide +kernel) rfl) (zGT_in 1869 (by decide +kernel) rfl)
theorem zbi_56 : (Int8.ofInt (56)).toInt32 = (56 : Int32) := by decide +kernel
theorem zc_X8_83 : zCV RX8 83 yX8_more cX8_more 4 (some .int) 8 1 := by
  refine ⟨RX8, Or.inl ⟨by decide, TX8, 21, rfl⟩, ?_, rfl, by decide +kernel, by decide +kernel, by decide +kernel⟩
  exact zV5 (zGT_in 1874 (by decide +kernel) rfl) (zGT_in 1876 (by decide +kernel) rfl) (zGT_in 67 (by decide +kernel) rfl) (zGT_in 113 (by decide +kernel) rfl) (zGT_in 1877 (by decide +kernel) rfl)
theorem zm_X8_86 : zMW RX8 86 Lib.Math.abs.name Lib.Math.abs.code 1 := ⟨zGT_in 1886 (by decide +kernel) rfl, zGT_in 683 (by decide +kernel) rfl, zGT_in 114 (by decide +kernel) rfl, zGT_in 684 (by decide +kernel) rfl⟩
theorem zc_X8_91 : zCV RX8 91 yX8_votes cX8_votes 5 (some .int) 8 2 := by
  refine ⟨RX8, Or.inl ⟨by decide, TX8, 21, rfl⟩, ?_, rfl, by decide +kernel, by decide +kernel, by decide +kernel⟩
  exact zV5 (zGT_in 1891 (by decide +kernel) rfl) (zGT_in 1893 (by decide +kernel) rfl) (zGT_in 69 (by decide +kernel) rfl) (zGT_in 113 (by decide +kernel) rfl) (zGT_in 1894 (by decide +kernel) rfl)
theorem zm_X8_94 : zMW RX8 94 Lib.Math.max.name Lib.Math.max.code 2 := ⟨zGT_in 1903 (by decide +kernel) rfl, zGT_in 699 (by decide +kernel) rfl, zGT_in 114 (by decide +kernel) rfl, zGT_in 700 (by decide +kernel) rfl⟩
theorem zc_X8_97 : zCV RX8 97 yX8_first cX8_first 6 (some .int) 8 1 := by
  refine ⟨RX8, Or.inl ⟨by decide, TX8, 21, rfl⟩, ?_, rfl, by decide +kernel, by decide +kernel, by decide +kernel⟩
  exact zV5 (zGT_in 1899 (by decide +kernel) rfl) (zGT_in 1901 (by decide +kernel) rfl) (zGT_in 70 (by decide +kernel) rfl) (zGT_in 113 (by decide +kernel) rfl) (zGT_in 1902 (by decide +kernel) rfl)
theorem zc_X8_100 : zCV RX8 100 yX8_allVotes cX8_allVotes 4 (some .int) 8 1 := by
  refine ⟨RX8, Or.inl ⟨by decide, TX8, 21, rfl⟩, ?_, rfl, by decide +kernel, by decide +kernel, by decide +kernel⟩
  exact zV5 (zGT_in 1920 (by decide +kernel) rfl) (zGT_in 1922 (by decide +kernel) rfl) (zGT_in 73 (by decide +kernel) rfl) (zGT_in 113 (by decide +kernel) rfl) (zGT_in 1923 (by decide +kernel) rfl)
theorem zc_X8_103 : zCV RX8 103 yX8_marginOf cX8_marginOf 5 (some .int) 8 1 := by
  refine ⟨RX8, Or.inl ⟨by decide, TX8, 21, rfl⟩, ?_, rfl, by decide +kernel, by decide +kernel, by decide +kernel⟩
  exact zV5 (zGT_in 1908 (by decide +kernel) rfl) (zGT_in 1910 (by decide +kernel) rfl) (zGT_in 71 (by decide +kernel) rfl) (zGT_in 113 (by decide +kernel) rfl) (zGT_in 1911 (by decide +kernel) rfl)
theorem zc_X8_106 : zCV RX8 106 yX8_differs cX8_differs 2 (some .boolean) 8 1 := by
  refine ⟨RX8, Or.inl ⟨by decide, TX8, 21, rfl⟩, ?_, rfl, by decide +kernel, by decide +kernel, by decide +kernel⟩
  exact zV5 (zGT_in 1882 (by decide +kernel) rfl) (zGT_in 1884 (by decide +kernel) rfl) (zGT_in 68 (by decide +kernel) rfl) (zGT_in 113 (by decide +kernel) rfl) (zGT_in 1885 (by decide +kernel) rfl)
theorem zc_X8_109 : zCV RX8 109 yX8_isDeclared cX8_isDeclared 3 (some .boolean) 8 1 := by
  refine ⟨RX8, Or.inl ⟨by decide, TX8, 21, rfl⟩, ?_, rfl, by decide +kernel, by decide +kernel, by decide +kernel⟩
  exact zV5 (zGT_in 1932 (by decide +kernel) rfl) (zGT_in 1934 (by decide +kernel) rfl) (zGT_in 75 (by decide +kernel) rfl) (zGT_in 113 (by decide +kernel) rfl) (zGT_in 1935 (by decide +kernel) rfl)
theorem zc_X8_112 : zCV RX8 112 yX8_isWithoutBox cX8_isWithoutBox 3 (some .boolean) 8 1 := by
  refine ⟨RX8, Or.inl ⟨by decide, TX8, 21, rfl⟩, ?_, rfl, by decide +kernel, by decide +kernel, by decide +kernel⟩
  exact zV5 (zGT_in 1936 (by decide +kernel) rfl) (zGT_in 1938 (by decide +kernel) rfl) (zGT_in 76 (by decide +kernel) rfl) (zGT_in 113 (by decide +kernel) rfl) (zGT_in 1939 (by decide +kernel) rfl)
theorem zc_X8_115 : zCV RX8 115 yX8_hasBox cX8_hasBox 6 (some .boolean) 8 2 := by
  refine ⟨RX8, Or.inl ⟨by decide, TX8, 21, rfl⟩, ?_, rfl, by decide +kernel, by decide +kernel, by decide +kernel⟩
  exact zV5 (zGT_in 1940 (by decide +kernel) rfl) (zGT_in 1942 (by decide +kernel) rfl) (zGT_in 77 (by decide +kernel) rfl) (zGT_in 113 (by decide +kernel) rfl) (zGT_in 1943 (by decide +kernel) rfl)
theorem zc_X8_119 : zCV RX8 119 yX8_isNear cX8_isNear 3 (some .boolean) 8 1 := by
  refine ⟨RX8, Or.inl ⟨by decide, TX8, 21, rfl⟩, ?_, rfl, by decide +kernel, by decide +kernel, by decide +kernel⟩
  exact zV5 (zGT_in 1916 (by decide +kernel) rfl) (zGT_in 1918 (by decide +kernel) rfl) (zGT_in 72 (by decide +kernel) rfl) (zGT_in 113 (by decide +kernel) rfl) (zGT_in 1919 (by decide +kernel) rfl)
theorem zk_X8_122 : Cond.constant RX8 122 (100000 : Int32) ∈ zGT := zGT_in 1624 (by decide +kernel) rfl
theorem zc_X8_123 : zCV RX8 123 yX8_against cX8_against 2 (some .int) 8 1 := by
  refine ⟨RX8, Or.inl ⟨by decide, TX8, 21, rfl⟩, ?_, rfl, by decide +kernel, by decide +kernel, by decide +kernel⟩
  exact zV5 (zGT_in 1928 (by decide +kernel) rfl) (zGT_in 1930 (by decide +kernel) rfl) (zGT_in 74 (by decide +kernel) rfl) (zGT_in 113 (by decide +kernel) rfl) (zGT_in 1931 (by decide +kernel) rfl)
theorem zc_X8_126 : zCV RX8 126 yX8_mustBeCounted cX8_mustBeCounted 3 (some .boolean) 8 1 := by
  refine ⟨RX8, Or.inl ⟨by decide, TX8, 21, rfl⟩, ?_, rfl, by decide +kernel, by decide +kernel, by decide +kernel⟩
  exact zV5 (zGT_in 1952 (by decide +kernel) rfl) (zGT_in 1954 (by decide +kernel) rfl) (zGT_in 79 (by decide +kernel) rfl) (zGT_in 113 (by decide +kernel) rfl) (zGT_in 1955 (by decide +kernel) rfl)
theorem zbi_33 : (Int8.ofInt (33)).toInt32 = (33 : Int32) := by decide +kernel
theorem zbi_38 : (Int8.ofInt (38)).toInt32 = (38 : Int32) := by decide +kernel
theorem zc_X8_129 : zCV RX8 129 yX8_isIn cX8_isIn 4 (some .boolean) 8 2 := by
  refine ⟨RX8, Or.inl ⟨by decide, TX8, 21, rfl⟩, ?_, rfl, by decide +kernel, by decide +kernel, by decide +kernel⟩
  exact zV5 (zGT_in 1754 (by decide +kernel) rfl) (zGT_in 1756 (by decide +kernel) rfl) (zGT_in 52 (by decide +kernel) rfl) (zGT_in 113 (by decide +kernel) rfl) (zGT_in 1757 (by decide +kernel) rfl)
theorem zc_X8_132 : zCV RX8 132 yX8_isWardIn cX8_isWardIn 3 (some .boolean) 8 2 := by
  refine ⟨RX8, Or.inl ⟨by decide, TX8, 21, rfl⟩, ?_, rfl, by decide +kernel, by decide +kernel, by decide +kernel⟩
  exact zV5 (zGT_in 1750 (by decide +kernel) rfl) (zGT_in 1752 (by decide +kernel) rfl) (zGT_in 51 (by decide +kernel) rfl) (zGT_in 113 (by decide +kernel) rfl) (zGT_in 1753 (by decide +kernel) rfl)
theorem zf_X8_135 : zFW RX8 135 8 10 := ⟨RX8, TX8, 21, by decide, rfl, by decide, zu_X8, zGT_in 1541 (by decide +kernel) rfl⟩
theorem zf_X8_138 : zFW RX8 138 8 9 := ⟨RX8, TX8, 21, by decide, rfl, by decide, zu_X8, zGT_in 1540 (by decide +kernel) rfl⟩
theorem zc_X8_141 : zCV RX8 141 yX8_here cX8_here 1 (some .int) 8 0 := by
  refine ⟨RX8, Or.inl ⟨by decide, TX8, 21, rfl⟩, ?_, rfl, by decide +kernel, by decide +kernel, by decide +kernel⟩
  exact zV5 (zGT_in 1614 (by decide +kernel) rfl) (zGT_in 1616 (by decide +kernel) rfl) (zGT_in 30 (by decide +kernel) rfl) (zGT_in 113 (by decide +kernel) rfl) (zGT_in 1617 (by decide +kernel) rfl)
theorem zp_X8_135 : zPW RX8 135 8 10 .int := ⟨RX8, TX8, 21, tyX8, ⟨by decide, rfl, by decide, zu_X8, zGT_in 1541 (by decide +kernel) rfl⟩, tyX8_ok, nmX8, rfl, by decide +kernel⟩
theorem zf_X8_144 : zFW RX8 144 8 11 := ⟨RX8, TX8, 21, by decide, rfl, by decide, zu_X8, zGT_in 1542 (by decide +kernel) rfl⟩
theorem zp_X8_144 : zPW RX8 144 8 11 .int := ⟨RX8, TX8, 21, tyX8, ⟨by decide, rfl, by decide, zu_X8, zGT_in 1542 (by decide +kernel) rfl⟩, tyX8_ok, nmX8, rfl, by decide +kernel⟩
theorem zs_X8_150 : zCS RX8 150 yX8_isSmall cX8_isSmall 1 (some .boolean) 1 := by
  refine ⟨?_, by decide +kernel, by decide +kernel, by decide +kernel⟩
  exact zS4 (zGT_in 1618 (by decide +kernel) rfl) (zGT_in 1619 (by decide +kernel) rfl) (zGT_in 113 (by decide +kernel) rfl) (zGT_in 1620 (by decide +kernel) rfl)
theorem zs_X8_153 : zCS RX8 153 yX8_isDigit cX8_isDigit 1 (some .boolean) 1 := by
  refine ⟨?_, by decide +kernel, by decide +kernel, by decide +kernel⟩
  exact zS4 (zGT_in 1621 (by decide +kernel) rfl) (zGT_in 1622 (by decide +kernel) rfl) (zGT_in 113 (by decide +kernel) rfl) (zGT_in 1623 (by decide +kernel) rfl)
theorem zf_X8_147 : zFW RX8 147 8 12 := ⟨RX8, TX8, 21, by decide, rfl, by decide, zu_X8, zGT_in 1543 (by decide +kernel) rfl⟩
theorem zp_X8_147 : zPW RX8 147 8 12 .int := ⟨RX8, TX8, 21, tyX8, ⟨by decide, rfl, by decide, zu_X8, zGT_in 1543 (by decide +kernel) rfl⟩, tyX8_ok, nmX8, rfl, by decide +kernel⟩
theorem zf_X8_156 : zFW RX8 156 8 13 := ⟨RX8, TX8, 21, by decide, rfl, by decide, zu_X8, zGT_in 1544 (by decide +kernel) rfl⟩
theorem zp_X8_156 : zPW RX8 156 8 13 .int := ⟨RX8, TX8, 21, tyX8, ⟨by decide, rfl, by decide, zu_X8, zGT_in 1544 (by decide +kernel) rfl⟩, tyX8_ok, nmX8, rfl, by decide +kernel⟩
theorem zc_X8_159 : zCV RX8 159 yJ0_length_8abf5 cJ0_length_8abf5 1 (some .int) 20 0 := by
  refine ⟨RJ0, Or.inr ⟨rfl, rfl⟩, ?_, rfl, by decide +kernel, by decide +kernel, by decide +kernel⟩
  exact zV5 (zGT_in 1634 (by decide +kernel) rfl) (zGT_in 459 (by decide +kernel) rfl) (zGT_in 460 (by decide +kernel) rfl) (zGT_in 111 (by decide +kernel) rfl) (zGT_in 461 (by decide +kernel) rfl)
theorem zc_X8_164 : zCV RX8 164 yJ0_charAt_5068e cJ0_charAt_5068e 2 (some .char) 20 1 := by
  refine ⟨RJ0, Or.inr ⟨rfl, rfl⟩, ?_, rfl, by decide +kernel, by decide +kernel, by decide +kernel⟩
  exact zV5 (zGT_in 1635 (by decide +kernel) rfl) (zGT_in 468 (by decide +kernel) rfl) (zGT_in 469 (by decide +kernel) rfl) (zGT_in 111 (by decide +kernel) rfl) (zGT_in 470 (by decide +kernel) rfl)
theorem zf_X8_168 : zFW RX8 168 8 14 := ⟨RX8, TX8, 21, by decide, rfl, by decide, zu_X8, zGT_in 1545 (by decide +kernel) rfl⟩
theorem zp_X8_168 : zPW RX8 168 8 14 .int := ⟨RX8, TX8, 21, tyX8, ⟨by decide, rfl, by decide, zu_X8, zGT_in 1545 (by decide +kernel) rfl⟩, tyX8_ok, nmX8, rfl, by decide +kernel⟩
theorem zf_X8_171 : zFW RX8 171 8 15 := ⟨RX8, TX8, 21, by decide, rfl, by decide, zu_X8, zGT_in 1546 (by decide +kernel) rfl⟩
theorem zp_X8_171 : zPW RX8 171 8 15 .int := ⟨RX8, TX8, 21, tyX8, ⟨by decide, rfl, by decide, zu_X8, zGT_in 1546 (by decide +kernel) rfl⟩, tyX8_ok, nmX8, rfl, by decide +kernel⟩
theorem zc_X8_174 : zCV RX8 174 yX8_next cX8_next 2 none 8 0 := by
  refine ⟨RX8, Or.inl ⟨by decide, TX8, 21, rfl⟩, ?_, rfl, by decide +kernel, by decide +kernel, by decide +kernel⟩
  exact zV5 (zGT_in 1610 (by decide +kernel) rfl) (zGT_in 1612 (by decide +kernel) rfl) (zGT_in 29 (by decide +kernel) rfl) (zGT_in 113 (by decide +kernel) rfl) (zGT_in 1613 (by decide +kernel) rfl)
theorem zc_X8_177 : zCV RX8 177 yX8_failsIf cX8_failsIf 3 none 8 2 := by
  refine ⟨RX8, Or.inl ⟨by decide, TX8, 21, rfl⟩, ?_, rfl, by decide +kernel, by decide +kernel, by decide +kernel⟩
  exact zV5 (zGT_in 1644 (by decide +kernel) rfl) (zGT_in 1646 (by decide +kernel) rfl) (zGT_in 35 (by decide +kernel) rfl) (zGT_in 113 (by decide +kernel) rfl) (zGT_in 1647 (by decide +kernel) rfl)
theorem zc_X8_181 : zCV RX8 181 yX8_goOn cX8_goOn 1 none 8 0 := by
  refine ⟨RX8, Or.inl ⟨by decide, TX8, 21, rfl⟩, ?_, rfl, by decide +kernel, by decide +kernel, by decide +kernel⟩
  exact zV5 (zGT_in 1648 (by decide +kernel) rfl) (zGT_in 1650 (by decide +kernel) rfl) (zGT_in 36 (by decide +kernel) rfl) (zGT_in 113 (by decide +kernel) rfl) (zGT_in 1651 (by decide +kernel) rfl)
theorem zc_X8_186 : zCV RX8 186 yX8_wordOf cX8_wordOf 5 (some .int) 8 1 := by
  refine ⟨RX8, Or.inl ⟨by decide, TX8, 21, rfl⟩, ?_, rfl, by decide +kernel, by decide +kernel, by decide +kernel⟩
  exact zV5 (zGT_in 1630 (by decide +kernel) rfl) (zGT_in 1632 (by decide +kernel) rfl) (zGT_in 32 (by decide +kernel) rfl) (zGT_in 113 (by decide +kernel) rfl) (zGT_in 1633 (by decide +kernel) rfl)
theorem zbi_21 : (Int8.ofInt (21)).toInt32 = (21 : Int32) := by decide +kernel
theorem zbi_15 : (Int8.ofInt (15)).toInt32 = (15 : Int32) := by decide +kernel
theorem zs_X8_190 : zCS RX8 190 yX8_nameAt cX8_nameAt 1 (some .int) 1 := by
  refine ⟨?_, by decide +kernel, by decide +kernel, by decide +kernel⟩
  exact zS4 (zGT_in 1664 (by decide +kernel) rfl) (zGT_in 1665 (by decide +kernel) rfl) (zGT_in 113 (by decide +kernel) rfl) (zGT_in 1666 (by decide +kernel) rfl)
theorem zc_X8_193 : zCV RX8 193 yX8_nameHere cX8_nameHere 3 (some .int) 8 0 := by
  refine ⟨RX8, Or.inl ⟨by decide, TX8, 21, rfl⟩, ?_, rfl, by decide +kernel, by decide +kernel, by decide +kernel⟩
  exact zV5 (zGT_in 1656 (by decide +kernel) rfl) (zGT_in 1658 (by decide +kernel) rfl) (zGT_in 38 (by decide +kernel) rfl) (zGT_in 113 (by decide +kernel) rfl) (zGT_in 1659 (by decide +kernel) rfl)
theorem zc_X8_196 : zCV RX8 196 yX8_nameFound cX8_nameFound 4 (some .int) 8 2 := by
  refine ⟨RX8, Or.inl ⟨by decide, TX8, 21, rfl⟩, ?_, rfl, by decide +kernel, by decide +kernel, by decide +kernel⟩
  exact zV5 (zGT_in 1660 (by decide +kernel) rfl) (zGT_in 1662 (by decide +kernel) rfl) (zGT_in 39 (by decide +kernel) rfl) (zGT_in 113 (by decide +kernel) rfl) (zGT_in 1663 (by decide +kernel) rfl)
theorem zc_X8_199 : zCV RX8 199 yX8_newName cX8_newName 3 none 8 1 := by
  refine ⟨RX8, Or.inl ⟨by decide, TX8, 21, rfl⟩, ?_, rfl, by decide +kernel, by decide +kernel, by decide +kernel⟩
  exact zV5 (zGT_in 1652 (by decide +kernel) rfl) (zGT_in 1654 (by decide +kernel) rfl) (zGT_in 37 (by decide +kernel) rfl) (zGT_in 113 (by decide +kernel) rfl) (zGT_in 1655 (by decide +kernel) rfl)
theorem zc_X8_203 : zCV RX8 203 yX8_thing cX8_thing 4 (some .int) 8 1 := by
  refine ⟨RX8, Or.inl ⟨by decide, TX8, 21, rfl⟩, ?_, rfl, by decide +kernel, by decide +kernel, by decide +kernel⟩
  exact zV5 (zGT_in 1671 (by decide +kernel) rfl) (zGT_in 1673 (by decide +kernel) rfl) (zGT_in 41 (by decide +kernel) rfl) (zGT_in 113 (by decide +kernel) rfl) (zGT_in 1674 (by decide +kernel) rfl)
theorem zc_X8_206 : zCV RX8 206 yX8_integer cX8_integer 4 (some .int) 8 2 := by
  refine ⟨RX8, Or.inl ⟨by decide, TX8, 21, rfl⟩, ?_, rfl, by decide +kernel, by decide +kernel, by decide +kernel⟩
  exact zV5 (zGT_in 1683 (by decide +kernel) rfl) (zGT_in 1685 (by decide +kernel) rfl) (zGT_in 44 (by decide +kernel) rfl) (zGT_in 113 (by decide +kernel) rfl) (zGT_in 1686 (by decide +kernel) rfl)
theorem zc_X8_209 : zCV RX8 209 yX8_sets cX8_sets 4 none 8 3 := by
  refine ⟨RX8, Or.inl ⟨by decide, TX8, 21, rfl⟩, ?_, rfl, by decide +kernel, by decide +kernel, by decide +kernel⟩
  exact zV5 (zGT_in 1691 (by decide +kernel) rfl) (zGT_in 1693 (by decide +kernel) rfl) (zGT_in 46 (by decide +kernel) rfl) (zGT_in 113 (by decide +kernel) rfl) (zGT_in 1694 (by decide +kernel) rfl)
theorem zf_X8_215 : zFW RX8 215 8 18 := ⟨RX8, TX8, 21, by decide, rfl, by decide, zu_X8, zGT_in 1549 (by decide +kernel) rfl⟩
theorem zp_X8_215 : zPW RX8 215 8 18 .int := ⟨RX8, TX8, 21, tyX8, ⟨by decide, rfl, by decide, zu_X8, zGT_in 1549 (by decide +kernel) rfl⟩, tyX8_ok, nmX8, rfl, by decide +kernel⟩
theorem zs_X8_218 : zCS RX8 218 yX8_top cX8_top 1 (some .int) 1 := by
  refine ⟨?_, by decide +kernel, by decide +kernel, by decide +kernel⟩
  exact zS4 (zGT_in 1704 (by decide +kernel) rfl) (zGT_in 1705 (by decide +kernel) rfl) (zGT_in 113 (by decide +kernel) rfl) (zGT_in 1706 (by decide +kernel) rfl)
theorem zc_X8_221 : zCV RX8 221 yX8_readParty cX8_readParty 1 none 8 0 := by
  refine ⟨RX8, Or.inl ⟨by decide, TX8, 21, rfl⟩, ?_, rfl, by decide +kernel, by decide +kernel, by decide +kernel⟩
  exact zV5 (zGT_in 1636 (by decide +kernel) rfl) (zGT_in 1638 (by decide +kernel) rfl) (zGT_in 33 (by decide +kernel) rfl) (zGT_in 113 (by decide +kernel) rfl) (zGT_in 1639 (by decide +kernel) rfl)
theorem zf_X8_239 : zFW RX8 239 8 17 := ⟨RX8, TX8, 21, by decide, rfl, by decide, zu_X8, zGT_in 1548 (by decide +kernel) rfl⟩
theorem zp_X8_239 : zPW RX8 239 8 17 .int := ⟨RX8, TX8, 21, tyX8, ⟨by decide, rfl, by decide, zu_X8, zGT_in 1548 (by decide +kernel) rfl⟩, tyX8_ok, nmX8, rfl, by decide +kernel⟩
theorem zc_X8_224 : zCV RX8 224 yX8_readRegion cX8_readRegion 2 none 8 0 := by
  refine ⟨RX8, Or.inl ⟨by decide, TX8, 21, rfl⟩, ?_, rfl, by decide +kernel, by decide +kernel, by decide +kernel⟩
  exact zV5 (zGT_in 1667 (by decide +kernel) rfl) (zGT_in 1669 (by decide +kernel) rfl) (zGT_in 40 (by decide +kernel) rfl) (zGT_in 113 (by decide +kernel) rfl) (zGT_in 1670 (by decide +kernel) rfl)
theorem zc_X8_227 : zCV RX8 227 yX8_readWard cX8_readWard 2 none 8 0 := by
  refine ⟨RX8, Or.inl ⟨by decide, TX8, 21, rfl⟩, ?_, rfl, by decide +kernel, by decide +kernel, by decide +kernel⟩
  exact zV5 (zGT_in 1675 (by decide +kernel) rfl) (zGT_in 1677 (by decide +kernel) rfl) (zGT_in 42 (by decide +kernel) rfl) (zGT_in 113 (by decide +kernel) rfl) (zGT_in 1678 (by decide +kernel) rfl)
theorem zc_X8_230 : zCV RX8 230 yX8_readBox cX8_readBox 6 none 8 0 := by
  refine ⟨RX8, Or.inl ⟨by decide, TX8, 21, rfl⟩, ?_, rfl, by decide +kernel, by decide +kernel, by decide +kernel⟩
  exact zV5 (zGT_in 1679 (by decide +kernel) rfl) (zGT_in 1681 (by decide +kernel) rfl) (zGT_in 43 (by decide +kernel) rfl) (zGT_in 113 (by decide +kernel) rfl) (zGT_in 1682 (by decide +kernel) rfl)
theorem zc_X8_233 : zCV RX8 233 yX8_readTable cX8_readTable 2 none 8 0 := by
  refine ⟨RX8, Or.inl ⟨by decide, TX8, 21, rfl⟩, ?_, rfl, by decide +kernel, by decide +kernel, by decide +kernel⟩
  exact zV5 (zGT_in 1695 (by decide +kernel) rfl) (zGT_in 1697 (by decide +kernel) rfl) (zGT_in 47 (by decide +kernel) rfl) (zGT_in 113 (by decide +kernel) rfl) (zGT_in 1698 (by decide +kernel) rfl)
theorem zc_X8_236 : zCV RX8 236 yX8_readSetting cX8_readSetting 3 none 8 0 := by
  refine ⟨RX8, Or.inl ⟨by decide, TX8, 21, rfl⟩, ?_, rfl, by decide +kernel, by decide +kernel, by decide +kernel⟩
  exact zV5 (zGT_in 1699 (by decide +kernel) rfl) (zGT_in 1701 (by decide +kernel) rfl) (zGT_in 48 (by decide +kernel) rfl) (zGT_in 113 (by decide +kernel) rfl) (zGT_in 1702 (by decide +kernel) rfl)
theorem zs_X8_242 : zCS RX8 242 yX8_copies cX8_copies 3 none 2 := by
  refine ⟨?_, by decide +kernel, by decide +kernel, by decide +kernel⟩
  exact zS4 (zGT_in 1607 (by decide +kernel) rfl) (zGT_in 1608 (by decide +kernel) rfl) (zGT_in 113 (by decide +kernel) rfl) (zGT_in 1609 (by decide +kernel) rfl)
theorem zp_X8_138 : zPW RX8 138 8 9 .int := ⟨RX8, TX8, 21, tyX8, ⟨by decide, rfl, by decide, zu_X8, zGT_in 1540 (by decide +kernel) rfl⟩, tyX8_ok, nmX8, rfl, by decide +kernel⟩
theorem zc_X8_246 : zCV RX8 246 yX8_readStatement cX8_readStatement 2 none 8 0 := by
  refine ⟨RX8, Or.inl ⟨by decide, TX8, 21, rfl⟩, ?_, rfl, by decide +kernel, by decide +kernel, by decide +kernel⟩
  exact zV5 (zGT_in 1625 (by decide +kernel) rfl) (zGT_in 1627 (by decide +kernel) rfl) (zGT_in 31 (by decide +kernel) rfl) (zGT_in 113 (by decide +kernel) rfl) (zGT_in 1628 (by decide +kernel) rfl)
theorem zf_X8_249 : zFW RX8 249 8 8 := ⟨RX8, TX8, 21, by decide, rfl, by decide, zu_X8, zGT_in 1539 (by decide +kernel) rfl⟩
theorem zp_X8_249 : zPW RX8 249 8 8 .int := ⟨RX8, TX8, 21, tyX8, ⟨by decide, rfl, by decide, zu_X8, zGT_in 1539 (by decide +kernel) rfl⟩, tyX8_ok, nmX8, rfl, by decide +kernel⟩
theorem zs_X8_252 : zCS RX8 252 yX8_isSetting cX8_isSetting 1 (some .boolean) 1 := by
  refine ⟨?_, by decide +kernel, by decide +kernel, by decide +kernel⟩
  exact zS4 (zGT_in 1727 (by decide +kernel) rfl) (zGT_in 1728 (by decide +kernel) rfl) (zGT_in 113 (by decide +kernel) rfl) (zGT_in 1729 (by decide +kernel) rfl)
theorem zc_X8_255 : zCV RX8 255 yX8_is cX8_is 3 (some .boolean) 8 2 := by
  refine ⟨RX8, Or.inl ⟨by decide, TX8, 21, rfl⟩, ?_, rfl, by decide +kernel, by decide +kernel, by decide +kernel⟩
  exact zV5 (zGT_in 1734 (by decide +kernel) rfl) (zGT_in 1736 (by decide +kernel) rfl) (zGT_in 49 (by decide +kernel) rfl) (zGT_in 113 (by decide +kernel) rfl) (zGT_in 1737 (by decide +kernel) rfl)
theorem zc_X8_258 : zCV RX8 258 yX8_checks cX8_checks 2 (some .boolean) 8 1 := by
  refine ⟨RX8, Or.inl ⟨by decide, TX8, 21, rfl⟩, ?_, rfl, by decide +kernel, by decide +kernel, by decide +kernel⟩
  exact zV5 (zGT_in 1738 (by decide +kernel) rfl) (zGT_in 1740 (by decide +kernel) rfl) (zGT_in 50 (by decide +kernel) rfl) (zGT_in 113 (by decide +kernel) rfl) (zGT_in 1741 (by decide +kernel) rfl)
theorem zc_X8_262 : zCV RX8 262 yX8_isPile cX8_isPile 2 (some .boolean) 8 1 := by
  refine ⟨RX8, Or.inl ⟨by decide, TX8, 21, rfl⟩, ?_, rfl, by decide +kernel, by decide +kernel, by decide +kernel⟩
  exact zV5 (zGT_in 1778 (by decide +kernel) rfl) (zGT_in 1780 (by decide +kernel) rfl) (zGT_in 54 (by decide +kernel) rfl) (zGT_in 113 (by decide +kernel) rfl) (zGT_in 1781 (by decide +kernel) rfl)
theorem zc_X8_265 : zCV RX8 265 yX8_isGood cX8_isGood 2 (some .boolean) 8 1 := by
  refine ⟨RX8, Or.inl ⟨by decide, TX8, 21, rfl⟩, ?_, rfl, by decide +kernel, by decide +kernel, by decide +kernel⟩
  exact zV5 (zGT_in 1790 (by decide +kernel) rfl) (zGT_in 1792 (by decide +kernel) rfl) (zGT_in 56 (by decide +kernel) rfl) (zGT_in 113 (by decide +kernel) rfl) (zGT_in 1793 (by decide +kernel) rfl)
theorem zc_X8_268 : zCV RX8 268 yX8_boxOn cX8_boxOn 3 (some .int) 8 1 := by
  refine ⟨RX8, Or.inl ⟨by decide, TX8, 21, rfl⟩, ?_, rfl, by decide +kernel, by decide +kernel, by decide +kernel⟩
  exact zV5 (zGT_in 1810 (by decide +kernel) rfl) (zGT_in 1812 (by decide +kernel) rfl) (zGT_in 58 (by decide +kernel) rfl) (zGT_in 113 (by decide +kernel) rfl) (zGT_in 1813 (by decide +kernel) rfl)
theorem zc_X8_271 : zCV RX8 271 yX8_isCount cX8_isCount 3 (some .boolean) 8 2 := by
  refine ⟨RX8, Or.inl ⟨by decide, TX8, 21, rfl⟩, ?_, rfl, by decide +kernel, by decide +kernel, by decide +kernel⟩
  exact zV5 (zGT_in 1822 (by decide +kernel) rfl) (zGT_in 1824 (by decide +kernel) rfl) (zGT_in 59 (by decide +kernel) rfl) (zGT_in 113 (by decide +kernel) rfl) (zGT_in 1825 (by decide +kernel) rfl)
theorem zc_X8_274 : zCV RX8 274 yX8_finds cX8_finds 6 (some .int) 8 3 := by
  refine ⟨RX8, Or.inl ⟨by decide, TX8, 21, rfl⟩, ?_, rfl, by decide +kernel, by decide +kernel, by decide +kernel⟩
  exact zV5 (zGT_in 1838 (by decide +kernel) rfl) (zGT_in 1840 (by decide +kernel) rfl) (zGT_in 61 (by decide +kernel) rfl) (zGT_in 113 (by decide +kernel) rfl) (zGT_in 1841 (by decide +kernel) rfl)
theorem zc_X8_277 : zCV RX8 277 yX8_due cX8_due 3 (some .int) 8 0 := by
  refine ⟨RX8, Or.inl ⟨by decide, TX8, 21, rfl⟩, ?_, rfl, by decide +kernel, by decide +kernel, by decide +kernel⟩
  exact zV5 (zGT_in 1948 (by decide +kernel) rfl) (zGT_in 1950 (by decide +kernel) rfl) (zGT_in 78 (by decide +kernel) rfl) (zGT_in 113 (by decide +kernel) rfl) (zGT_in 1951 (by decide +kernel) rfl)
theorem zc_X8_280 : zCV RX8 280 yX8_wouldAgree cX8_wouldAgree 5 (some .boolean) 8 3 := by
  refine ⟨RX8, Or.inl ⟨by decide, TX8, 21, rfl⟩, ?_, rfl, by decide +kernel, by decide +kernel, by decide +kernel⟩
  exact zV5 (zGT_in 1964 (by decide +kernel) rfl) (zGT_in 1966 (by decide +kernel) rfl) (zGT_in 81 (by decide +kernel) rfl) (zGT_in 113 (by decide +kernel) rfl) (zGT_in 1967 (by decide +kernel) rfl)
theorem zc_X8_283 : zCV RX8 283 yX8_findAlike cX8_findAlike 5 (some .boolean) 8 3 := by
  refine ⟨RX8, Or.inl ⟨by decide, TX8, 21, rfl⟩, ?_, rfl, by decide +kernel, by decide +kernel, by decide +kernel⟩
  exact zV5 (zGT_in 1972 (by decide +kernel) rfl) (zGT_in 1974 (by decide +kernel) rfl) (zGT_in 83 (by decide +kernel) rfl) (zGT_in 113 (by decide +kernel) rfl) (zGT_in 1975 (by decide +kernel) rfl)
theorem zc_X8_289 : zCV RX8 289 yX8_areTwoEnough cX8_areTwoEnough 4 (some .boolean) 8 1 := by
  refine ⟨RX8, Or.inl ⟨by decide, TX8, 21, rfl⟩, ?_, rfl, by decide +kernel, by decide +kernel, by decide +kernel⟩
  exact zV5 (zGT_in 1968 (by decide +kernel) rfl) (zGT_in 1970 (by decide +kernel) rfl) (zGT_in 82 (by decide +kernel) rfl) (zGT_in 113 (by decide +kernel) rfl) (zGT_in 1971 (by decide +kernel) rfl)
theorem zc_X8_286 : zCV RX8 286 yX8_isOneEnough cX8_isOneEnough 4 (some .boolean) 8 1 := by
  refine ⟨RX8, Or.inl ⟨by decide, TX8, 21, rfl⟩, ?_, rfl, by decide +kernel, by decide +kernel, by decide +kernel⟩
  exact zV5 (zGT_in 1960 (by decide +kernel) rfl) (zGT_in 1962 (by decide +kernel) rfl) (zGT_in 80 (by decide +kernel) rfl) (zGT_in 113 (by decide +kernel) rfl) (zGT_in 1963 (by decide +kernel) rfl)
theorem zc_X8_292 : zCV RX8 292 yX8_comes cX8_comes 5 (some .int) 8 0 := by
  refine ⟨RX8, Or.inl ⟨by decide, TX8, 21, rfl⟩, ?_, rfl, by decide +kernel, by decide +kernel, by decide +kernel⟩
  exact zV5 (zGT_in 1984 (by decide +kernel) rfl) (zGT_in 1986 (by decide +kernel) rfl) (zGT_in 84 (by decide +kernel) rfl) (zGT_in 113 (by decide +kernel) rfl) (zGT_in 1987 (by decide +kernel) rfl)
theorem zc_X8_295 : zCV RX8 295 yX8_undeclared cX8_undeclared 4 (some .int) 8 1 := by
  refine ⟨RX8, Or.inl ⟨by decide, TX8, 21, rfl⟩, ?_, rfl, by decide +kernel, by decide +kernel, by decide +kernel⟩
  exact zV5 (zGT_in 2000 (by decide +kernel) rfl) (zGT_in 2002 (by decide +kernel) rfl) (zGT_in 85 (by decide +kernel) rfl) (zGT_in 113 (by decide +kernel) rfl) (zGT_in 2003 (by decide +kernel) rfl)
theorem zc_X8_298 : zCV RX8 298 yX8_seats cX8_seats 5 (some .int) 8 2 := by
  refine ⟨RX8, Or.inl ⟨by decide, TX8, 21, rfl⟩, ?_, rfl, by decide +kernel, by decide +kernel, by decide +kernel⟩
  exact zV5 (zGT_in 2012 (by decide +kernel) rfl) (zGT_in 2014 (by decide +kernel) rfl) (zGT_in 86 (by decide +kernel) rfl) (zGT_in 113 (by decide +kernel) rfl) (zGT_in 2015 (by decide +kernel) rfl)
theorem zc_X8_301 : zCV RX8 301 yX8_isBeyond cX8_isBeyond 4 (some .boolean) 8 2 := by
  refine ⟨RX8, Or.inl ⟨by decide, TX8, 21, rfl⟩, ?_, rfl, by decide +kernel, by decide +kernel, by decide +kernel⟩
  exact zV5 (zGT_in 2020 (by decide +kernel) rfl) (zGT_in 2022 (by decide +kernel) rfl) (zGT_in 87 (by decide +kernel) rfl) (zGT_in 113 (by decide +kernel) rfl) (zGT_in 2023 (by decide +kernel) rfl)
theorem zc_X8_304 : zCV RX8 304 yX8_isWrong cX8_isWrong 4 (some .boolean) 8 2 := by
  refine ⟨RX8, Or.inl ⟨by decide, TX8, 21, rfl⟩, ?_, rfl, by decide +kernel, by decide +kernel, by decide +kernel⟩
  exact zV5 (zGT_in 2032 (by decide +kernel) rfl) (zGT_in 2034 (by decide +kernel) rfl) (zGT_in 88 (by decide +kernel) rfl) (zGT_in 113 (by decide +kernel) rfl) (zGT_in 2035 (by decide +kernel) rfl)
theorem zc_X8_307 : zCV RX8 307 yX8_keeps cX8_keeps 2 none 8 0 := by
  refine ⟨RX8, Or.inl ⟨by decide, TX8, 21, rfl⟩, ?_, rfl, by decide +kernel, by decide +kernel, by decide +kernel⟩
  exact zV5 (zGT_in 2044 (by decide +kernel) rfl) (zGT_in 2046 (by decide +kernel) rfl) (zGT_in 89 (by decide +kernel) rfl) (zGT_in 113 (by decide +kernel) rfl) (zGT_in 2047 (by decide +kernel) rfl)
theorem zc_X8_310 : zCV RX8 310 yX8_inHall cX8_inHall 3 (some .int) 8 0 := by
  refine ⟨RX8, Or.inl ⟨by decide, TX8, 21, rfl⟩, ?_, rfl, by decide +kernel, by decide +kernel, by decide +kernel⟩
  exact zV5 (zGT_in 2048 (by decide +kernel) rfl) (zGT_in 2050 (by decide +kernel) rfl) (zGT_in 90 (by decide +kernel) rfl) (zGT_in 113 (by decide +kernel) rfl) (zGT_in 2051 (by decide +kernel) rfl)
theorem zc_X8_313 : zCV RX8 313 yX8_opens cX8_opens 3 none 8 2 := by
  refine ⟨RX8, Or.inl ⟨by decide, TX8, 21, rfl⟩, ?_, rfl, by decide +kernel, by decide +kernel, by decide +kernel⟩
  exact zV5 (zGT_in 2056 (by decide +kernel) rfl) (zGT_in 2058 (by decide +kernel) rfl) (zGT_in 91 (by decide +kernel) rfl) (zGT_in 113 (by decide +kernel) rfl) (zGT_in 2059 (by decide +kernel) rfl)
theorem zc_X8_317 : zCV RX8 317 yX8_counts cX8_counts 5 none 8 2 := by
  refine ⟨RX8, Or.inl ⟨by decide, TX8, 21, rfl⟩, ?_, rfl, by decide +kernel, by decide +kernel, by decide +kernel⟩
  exact zV5 (zGT_in 2064 (by decide +kernel) rfl) (zGT_in 2066 (by decide +kernel) rfl) (zGT_in 92 (by decide +kernel) rfl) (zGT_in 113 (by decide +kernel) rfl) (zGT_in 2067 (by decide +kernel) rfl)
theorem zc_X8_320 : zCV RX8 320 yX8_enters cX8_enters 3 none 8 2 := by
  refine ⟨RX8, Or.inl ⟨by decide, TX8, 21, rfl⟩, ?_, rfl, by decide +kernel, by decide +kernel, by decide +kernel⟩
  exact zV5 (zGT_in 2076 (by decide +kernel) rfl) (zGT_in 2078 (by decide +kernel) rfl) (zGT_in 94 (by decide +kernel) rfl) (zGT_in 113 (by decide +kernel) rfl) (zGT_in 2079 (by decide +kernel) rfl)
theorem zc_X8_323 : zCV RX8 323 yX8_seals cX8_seals 2 none 8 1 := by
  refine ⟨RX8, Or.inl ⟨by decide, TX8, 21, rfl⟩, ?_, rfl, by decide +kernel, by decide +kernel, by decide +kernel⟩
  exact zV5 (zGT_in 2072 (by decide +kernel) rfl) (zGT_in 2074 (by decide +kernel) rfl) (zGT_in 93 (by decide +kernel) rfl) (zGT_in 113 (by decide +kernel) rfl) (zGT_in 2075 (by decide +kernel) rfl)
theorem zc_X8_326 : zCV RX8 326 yX8_wasCountedAt cX8_wasCountedAt 4 (some .boolean) 8 2 := by
  refine ⟨RX8, Or.inl ⟨by decide, TX8, 21, rfl⟩, ?_, rfl, by decide +kernel, by decide +kernel, by decide +kernel⟩
  exact zV5 (zGT_in 2100 (by decide +kernel) rfl) (zGT_in 2102 (by decide +kernel) rfl) (zGT_in 96 (by decide +kernel) rfl) (zGT_in 113 (by decide +kernel) rfl) (zGT_in 2103 (by decide +kernel) rfl)
theorem zc_X8_329 : zCV RX8 329 yX8_toOpen cX8_toOpen 4 (some .int) 8 2 := by
  refine ⟨RX8, Or.inl ⟨by decide, TX8, 21, rfl⟩, ?_, rfl, by decide +kernel, by decide +kernel, by decide +kernel⟩
  exact zV5 (zGT_in 2096 (by decide +kernel) rfl) (zGT_in 2098 (by decide +kernel) rfl) (zGT_in 95 (by decide +kernel) rfl) (zGT_in 113 (by decide +kernel) rfl) (zGT_in 2099 (by decide +kernel) rfl)
theorem zf_X8_332 : zFW RX8 332 8 20 := ⟨RX8, TX8, 21, by decide, rfl, by decide, zu_X8, zGT_in 1551 (by decide +kernel) rfl⟩
theorem zp_X8_332 : zPW RX8 332 8 20 .int := ⟨RX8, TX8, 21, tyX8, ⟨by decide, rfl, by decide, zu_X8, zGT_in 1551 (by decide +kernel) rfl⟩, tyX8_ok, nmX8, rfl, by decide +kernel⟩
theorem zbi_96 : (Int8.ofInt (96)).toInt32 = (96 : Int32) := by decide +kernel
theorem zc_X8_335 : zCV RX8 335 yX8_writes cX8_writes 2 none 8 1 := by
  refine ⟨RX8, Or.inl ⟨by decide, TX8, 21, rfl⟩, ?_, rfl, by decide +kernel, by decide +kernel, by decide +kernel⟩
  exact zV5 (zGT_in 2116 (by decide +kernel) rfl) (zGT_in 2118 (by decide +kernel) rfl) (zGT_in 98 (by decide +kernel) rfl) (zGT_in 113 (by decide +kernel) rfl) (zGT_in 2119 (by decide +kernel) rfl)
theorem zc_X8_338 : zCV RX8 338 yX8_writesName cX8_writesName 4 none 8 1 := by
  refine ⟨RX8, Or.inl ⟨by decide, TX8, 21, rfl⟩, ?_, rfl, by decide +kernel, by decide +kernel, by decide +kernel⟩
  exact zV5 (zGT_in 2112 (by decide +kernel) rfl) (zGT_in 2114 (by decide +kernel) rfl) (zGT_in 97 (by decide +kernel) rfl) (zGT_in 113 (by decide +kernel) rfl) (zGT_in 2115 (by decide +kernel) rfl)
theorem zc_X8_341 : zCV RX8 341 yX8_writesNumber cX8_writesNumber 3 none 8 1 := by
  refine ⟨RX8, Or.inl ⟨by decide, TX8, 21, rfl⟩, ?_, rfl, by decide +kernel, by decide +kernel, by decide +kernel⟩
  exact zV5 (zGT_in 2120 (by decide +kernel) rfl) (zGT_in 2122 (by decide +kernel) rfl) (zGT_in 99 (by decide +kernel) rfl) (zGT_in 113 (by decide +kernel) rfl) (zGT_in 2123 (by decide +kernel) rfl)
