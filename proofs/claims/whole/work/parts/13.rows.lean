theorem dJ6_bitCount_0f7a4_0 : decode cJ6_bitCount_0f7a4 0 = .ok (.iload_n 0, 1) := by decide +kernel
theorem dJ6_bitCount_0f7a4_1 : decode cJ6_bitCount_0f7a4 1 = .ok (.iload_n 0, 1) := by decide +kernel
theorem dJ6_bitCount_0f7a4_2 : decode cJ6_bitCount_0f7a4 2 = .ok (.iconst 1, 1) := by decide +kernel
theorem dJ6_bitCount_0f7a4_3 : decode cJ6_bitCount_0f7a4 3 = .ok (.iushr, 1) := by decide +kernel
theorem dJ6_bitCount_0f7a4_4 : decode cJ6_bitCount_0f7a4 4 = .ok (.ldc_w 265, 3) := by decide +kernel
theorem dJ6_bitCount_0f7a4_7 : decode cJ6_bitCount_0f7a4 7 = .ok (.iand, 1) := by decide +kernel
theorem dJ6_bitCount_0f7a4_8 : decode cJ6_bitCount_0f7a4 8 = .ok (.isub, 1) := by decide +kernel
theorem dJ6_bitCount_0f7a4_9 : decode cJ6_bitCount_0f7a4 9 = .ok (.istore_n 0, 1) := by decide +kernel
theorem dJ6_bitCount_0f7a4_10 : decode cJ6_bitCount_0f7a4 10 = .ok (.iload_n 0, 1) := by decide +kernel
theorem dJ6_bitCount_0f7a4_11 : decode cJ6_bitCount_0f7a4 11 = .ok (.ldc_w 266, 3) := by decide +kernel
theorem dJ6_bitCount_0f7a4_14 : decode cJ6_bitCount_0f7a4 14 = .ok (.iand, 1) := by decide +kernel
theorem dJ6_bitCount_0f7a4_15 : decode cJ6_bitCount_0f7a4 15 = .ok (.iload_n 0, 1) := by decide +kernel
theorem dJ6_bitCount_0f7a4_16 : decode cJ6_bitCount_0f7a4 16 = .ok (.iconst 2, 1) := by decide +kernel
theorem dJ6_bitCount_0f7a4_17 : decode cJ6_bitCount_0f7a4 17 = .ok (.iushr, 1) := by decide +kernel
theorem dJ6_bitCount_0f7a4_18 : decode cJ6_bitCount_0f7a4 18 = .ok (.ldc_w 266, 3) := by decide +kernel
theorem dJ6_bitCount_0f7a4_21 : decode cJ6_bitCount_0f7a4 21 = .ok (.iand, 1) := by decide +kernel
theorem dJ6_bitCount_0f7a4_22 : decode cJ6_bitCount_0f7a4 22 = .ok (.iadd, 1) := by decide +kernel
theorem dJ6_bitCount_0f7a4_23 : decode cJ6_bitCount_0f7a4 23 = .ok (.istore_n 0, 1) := by decide +kernel
theorem dJ6_bitCount_0f7a4_24 : decode cJ6_bitCount_0f7a4 24 = .ok (.iload_n 0, 1) := by decide +kernel
theorem dJ6_bitCount_0f7a4_25 : decode cJ6_bitCount_0f7a4 25 = .ok (.iload_n 0, 1) := by decide +kernel
theorem dJ6_bitCount_0f7a4_26 : decode cJ6_bitCount_0f7a4 26 = .ok (.iconst 4, 1) := by decide +kernel
theorem dJ6_bitCount_0f7a4_27 : decode cJ6_bitCount_0f7a4 27 = .ok (.iushr, 1) := by decide +kernel
theorem dJ6_bitCount_0f7a4_28 : decode cJ6_bitCount_0f7a4 28 = .ok (.iadd, 1) := by decide +kernel
theorem dJ6_bitCount_0f7a4_29 : decode cJ6_bitCount_0f7a4 29 = .ok (.ldc_w 267, 3) := by decide +kernel
theorem dJ6_bitCount_0f7a4_32 : decode cJ6_bitCount_0f7a4 32 = .ok (.iand, 1) := by decide +kernel
theorem dJ6_bitCount_0f7a4_33 : decode cJ6_bitCount_0f7a4 33 = .ok (.istore_n 0, 1) := by decide +kernel
theorem dJ6_bitCount_0f7a4_34 : decode cJ6_bitCount_0f7a4 34 = .ok (.iload_n 0, 1) := by decide +kernel
theorem dJ6_bitCount_0f7a4_35 : decode cJ6_bitCount_0f7a4 35 = .ok (.iload_n 0, 1) := by decide +kernel
theorem dJ6_bitCount_0f7a4_36 : decode cJ6_bitCount_0f7a4 36 = .ok (.bipush 8, 2) := by decide +kernel
theorem dJ6_bitCount_0f7a4_38 : decode cJ6_bitCount_0f7a4 38 = .ok (.iushr, 1) := by decide +kernel
theorem dJ6_bitCount_0f7a4_39 : decode cJ6_bitCount_0f7a4 39 = .ok (.iadd, 1) := by decide +kernel
theorem dJ6_bitCount_0f7a4_40 : decode cJ6_bitCount_0f7a4 40 = .ok (.istore_n 0, 1) := by decide +kernel
theorem dJ6_bitCount_0f7a4_41 : decode cJ6_bitCount_0f7a4 41 = .ok (.iload_n 0, 1) := by decide +kernel
theorem dJ6_bitCount_0f7a4_42 : decode cJ6_bitCount_0f7a4 42 = .ok (.iload_n 0, 1) := by decide +kernel
theorem dJ6_bitCount_0f7a4_43 : decode cJ6_bitCount_0f7a4 43 = .ok (.bipush 16, 2) := by decide +kernel
theorem dJ6_bitCount_0f7a4_45 : decode cJ6_bitCount_0f7a4 45 = .ok (.iushr, 1) := by decide +kernel
theorem dJ6_bitCount_0f7a4_46 : decode cJ6_bitCount_0f7a4 46 = .ok (.iadd, 1) := by decide +kernel
theorem dJ6_bitCount_0f7a4_47 : decode cJ6_bitCount_0f7a4 47 = .ok (.istore_n 0, 1) := by decide +kernel
theorem dJ6_bitCount_0f7a4_48 : decode cJ6_bitCount_0f7a4 48 = .ok (.iload_n 0, 1) := by decide +kernel
theorem dJ6_bitCount_0f7a4_49 : decode cJ6_bitCount_0f7a4 49 = .ok (.bipush 63, 2) := by decide +kernel
theorem dJ6_bitCount_0f7a4_51 : decode cJ6_bitCount_0f7a4 51 = .ok (.iand, 1) := by decide +kernel
theorem dJ6_bitCount_0f7a4_52 : decode cJ6_bitCount_0f7a4 52 = .ok (.ireturn, 1) := by decide +kernel
def x_J6_bitCount_0f7a4 (p0 : Int32) : Option Int32 := some ((((((((p0 - (((Int32.toUInt32 p0 >>> (Int32.toUInt32 1 &&& Int32.toUInt32 31)).toInt32) &&& 1431655765)) &&& 858993459) + (((Int32.toUInt32 (p0 - (((Int32.toUInt32 p0 >>> (Int32.toUInt32 1 &&& Int32.toUInt32 31)).toInt32) &&& 1431655765)) >>> (Int32.toUInt32 2 &&& Int32.toUInt32 31)).toInt32) &&& 858993459)) + ((Int32.toUInt32 (((p0 - (((Int32.toUInt32 p0 >>> (Int32.toUInt32 1 &&& Int32.toUInt32 31)).toInt32) &&& 1431655765)) &&& 858993459) + (((Int32.toUInt32 (p0 - (((Int32.toUInt32 p0 >>> (Int32.toUInt32 1 &&& Int32.toUInt32 31)).toInt32) &&& 1431655765)) >>> (Int32.toUInt32 2 &&& Int32.toUInt32 31)).toInt32) &&& 858993459)) >>> (Int32.toUInt32 4 &&& Int32.toUInt32 31)).toInt32)) &&& 252645135) + ((Int32.toUInt32 (((((p0 - (((Int32.toUInt32 p0 >>> (Int32.toUInt32 1 &&& Int32.toUInt32 31)).toInt32) &&& 1431655765)) &&& 858993459) + (((Int32.toUInt32 (p0 - (((Int32.toUInt32 p0 >>> (Int32.toUInt32 1 &&& Int32.toUInt32 31)).toInt32) &&& 1431655765)) >>> (Int32.toUInt32 2 &&& Int32.toUInt32 31)).toInt32) &&& 858993459)) + ((Int32.toUInt32 (((p0 - (((Int32.toUInt32 p0 >>> (Int32.toUInt32 1 &&& Int32.toUInt32 31)).toInt32) &&& 1431655765)) &&& 858993459) + (((Int32.toUInt32 (p0 - (((Int32.toUInt32 p0 >>> (Int32.toUInt32 1 &&& Int32.toUInt32 31)).toInt32) &&& 1431655765)) >>> (Int32.toUInt32 2 &&& Int32.toUInt32 31)).toInt32) &&& 858993459)) >>> (Int32.toUInt32 4 &&& Int32.toUInt32 31)).toInt32)) &&& 252645135) >>> (Int32.toUInt32 8 &&& Int32.toUInt32 31)).toInt32)) + ((Int32.toUInt32 ((((((p0 - (((Int32.toUInt32 p0 >>> (Int32.toUInt32 1 &&& Int32.toUInt32 31)).toInt32) &&& 1431655765)) &&& 858993459) + (((Int32.toUInt32 (p0 - (((Int32.toUInt32 p0 >>> (Int32.toUInt32 1 &&& Int32.toUInt32 31)).toInt32) &&& 1431655765)) >>> (Int32.toUInt32 2 &&& Int32.toUInt32 31)).toInt32) &&& 858993459)) + ((Int32.toUInt32 (((p0 - (((Int32.toUInt32 p0 >>> (Int32.toUInt32 1 &&& Int32.toUInt32 31)).toInt32) &&& 1431655765)) &&& 858993459) + (((Int32.toUInt32 (p0 - (((Int32.toUInt32 p0 >>> (Int32.toUInt32 1 &&& Int32.toUInt32 31)).toInt32) &&& 1431655765)) >>> (Int32.toUInt32 2 &&& Int32.toUInt32 31)).toInt32) &&& 858993459)) >>> (Int32.toUInt32 4 &&& Int32.toUInt32 31)).toInt32)) &&& 252645135) + ((Int32.toUInt32 (((((p0 - (((Int32.toUInt32 p0 >>> (Int32.toUInt32 1 &&& Int32.toUInt32 31)).toInt32) &&& 1431655765)) &&& 858993459) + (((Int32.toUInt32 (p0 - (((Int32.toUInt32 p0 >>> (Int32.toUInt32 1 &&& Int32.toUInt32 31)).toInt32) &&& 1431655765)) >>> (Int32.toUInt32 2 &&& Int32.toUInt32 31)).toInt32) &&& 858993459)) + ((Int32.toUInt32 (((p0 - (((Int32.toUInt32 p0 >>> (Int32.toUInt32 1 &&& Int32.toUInt32 31)).toInt32) &&& 1431655765)) &&& 858993459) + (((Int32.toUInt32 (p0 - (((Int32.toUInt32 p0 >>> (Int32.toUInt32 1 &&& Int32.toUInt32 31)).toInt32) &&& 1431655765)) >>> (Int32.toUInt32 2 &&& Int32.toUInt32 31)).toInt32) &&& 858993459)) >>> (Int32.toUInt32 4 &&& Int32.toUInt32 31)).toInt32)) &&& 252645135) >>> (Int32.toUInt32 8 &&& Int32.toUInt32 31)).toInt32)) >>> (Int32.toUInt32 16 &&& Int32.toUInt32 31)).toInt32)) &&& 63)
set_option maxRecDepth 100000 in
set_option maxHeartbeats 4000000 in
theorem c_J6_bitCount_0f7a4 {l : Launch} {Y : gY} {M : gMem} {p0 : Int32} {r : Int32} (hx : x_J6_bitCount_0f7a4 p0 = some r) : Met l yJ6_bitCount_0f7a4 (gws yJ6_bitCount_0f7a4 cJ6_bitCount_0f7a4 1 (some .int)) { frames := 0, cells := 0, slots := 0, locals := 0 } (va_Pc [.int p0] (gS0 Y M)) (gQi Y (r, M)) 0 0 (gA Y) := by
  refine gmet (lv := [(0, .int p0)]) "java/lang/Integer" (by decide) rfl (Nat.le_of_ble_eq_true rfl) rfl (fun X hC hF => ?_)
  unfold x_J6_bitCount_0f7a4 at hx
  refine q_iload_n hC 0 dJ6_bitCount_0f7a4_0 rfl rfl ?_
  refine q_iload_n hC 0 dJ6_bitCount_0f7a4_1 rfl rfl ?_
  refine q_iconst hC 1 dJ6_bitCount_0f7a4_2 rfl ?_
  refine q_iushr hC dJ6_bitCount_0f7a4_3 ?_
  refine q_ldcw hC 1431655765 dJ6_bitCount_0f7a4_4 wC_J6_265 ?_
  refine q_iand hC dJ6_bitCount_0f7a4_7 ?_
  refine q_isub hC dJ6_bitCount_0f7a4_8 ?_
  refine q_istore_n hC [(0, .int (p0 - (((Int32.toUInt32 p0 >>> (Int32.toUInt32 1 &&& Int32.toUInt32 31)).toInt32) &&& 1431655765)))] dJ6_bitCount_0f7a4_9 rfl (by decide) rfl ?_
  refine q_iload_n hC 0 dJ6_bitCount_0f7a4_10 rfl rfl ?_
  refine q_ldcw hC 858993459 dJ6_bitCount_0f7a4_11 wC_J6_266 ?_
  refine q_iand hC dJ6_bitCount_0f7a4_14 ?_
  refine q_iload_n hC 0 dJ6_bitCount_0f7a4_15 rfl rfl ?_
  refine q_iconst hC 2 dJ6_bitCount_0f7a4_16 rfl ?_
  refine q_iushr hC dJ6_bitCount_0f7a4_17 ?_
  refine q_ldcw hC 858993459 dJ6_bitCount_0f7a4_18 wC_J6_266 ?_
  refine q_iand hC dJ6_bitCount_0f7a4_21 ?_
  refine q_iadd hC dJ6_bitCount_0f7a4_22 ?_
  refine q_istore_n hC [(0, .int (((p0 - (((Int32.toUInt32 p0 >>> (Int32.toUInt32 1 &&& Int32.toUInt32 31)).toInt32) &&& 1431655765)) &&& 858993459) + (((Int32.toUInt32 (p0 - (((Int32.toUInt32 p0 >>> (Int32.toUInt32 1 &&& Int32.toUInt32 31)).toInt32) &&& 1431655765)) >>> (Int32.toUInt32 2 &&& Int32.toUInt32 31)).toInt32) &&& 858993459)))] dJ6_bitCount_0f7a4_23 rfl (by decide) rfl ?_
  refine q_iload_n hC 0 dJ6_bitCount_0f7a4_24 rfl rfl ?_
  refine q_iload_n hC 0 dJ6_bitCount_0f7a4_25 rfl rfl ?_
  refine q_iconst hC 4 dJ6_bitCount_0f7a4_26 rfl ?_
  refine q_iushr hC dJ6_bitCount_0f7a4_27 ?_
  refine q_iadd hC dJ6_bitCount_0f7a4_28 ?_
  refine q_ldcw hC 252645135 dJ6_bitCount_0f7a4_29 wC_J6_267 ?_
  refine q_iand hC dJ6_bitCount_0f7a4_32 ?_
  refine q_istore_n hC [(0, .int (((((p0 - (((Int32.toUInt32 p0 >>> (Int32.toUInt32 1 &&& Int32.toUInt32 31)).toInt32) &&& 1431655765)) &&& 858993459) + (((Int32.toUInt32 (p0 - (((Int32.toUInt32 p0 >>> (Int32.toUInt32 1 &&& Int32.toUInt32 31)).toInt32) &&& 1431655765)) >>> (Int32.toUInt32 2 &&& Int32.toUInt32 31)).toInt32) &&& 858993459)) + ((Int32.toUInt32 (((p0 - (((Int32.toUInt32 p0 >>> (Int32.toUInt32 1 &&& Int32.toUInt32 31)).toInt32) &&& 1431655765)) &&& 858993459) + (((Int32.toUInt32 (p0 - (((Int32.toUInt32 p0 >>> (Int32.toUInt32 1 &&& Int32.toUInt32 31)).toInt32) &&& 1431655765)) >>> (Int32.toUInt32 2 &&& Int32.toUInt32 31)).toInt32) &&& 858993459)) >>> (Int32.toUInt32 4 &&& Int32.toUInt32 31)).toInt32)) &&& 252645135))] dJ6_bitCount_0f7a4_33 rfl (by decide) rfl ?_
  refine q_iload_n hC 0 dJ6_bitCount_0f7a4_34 rfl rfl ?_
  refine q_iload_n hC 0 dJ6_bitCount_0f7a4_35 rfl rfl ?_
  refine q_bipush hC 8 dJ6_bitCount_0f7a4_36 rfl ?_
  refine q_iushr hC dJ6_bitCount_0f7a4_38 ?_
  refine q_iadd hC dJ6_bitCount_0f7a4_39 ?_
  refine q_istore_n hC [(0, .int ((((((p0 - (((Int32.toUInt32 p0 >>> (Int32.toUInt32 1 &&& Int32.toUInt32 31)).toInt32) &&& 1431655765)) &&& 858993459) + (((Int32.toUInt32 (p0 - (((Int32.toUInt32 p0 >>> (Int32.toUInt32 1 &&& Int32.toUInt32 31)).toInt32) &&& 1431655765)) >>> (Int32.toUInt32 2 &&& Int32.toUInt32 31)).toInt32) &&& 858993459)) + ((Int32.toUInt32 (((p0 - (((Int32.toUInt32 p0 >>> (Int32.toUInt32 1 &&& Int32.toUInt32 31)).toInt32) &&& 1431655765)) &&& 858993459) + (((Int32.toUInt32 (p0 - (((Int32.toUInt32 p0 >>> (Int32.toUInt32 1 &&& Int32.toUInt32 31)).toInt32) &&& 1431655765)) >>> (Int32.toUInt32 2 &&& Int32.toUInt32 31)).toInt32) &&& 858993459)) >>> (Int32.toUInt32 4 &&& Int32.toUInt32 31)).toInt32)) &&& 252645135) + ((Int32.toUInt32 (((((p0 - (((Int32.toUInt32 p0 >>> (Int32.toUInt32 1 &&& Int32.toUInt32 31)).toInt32) &&& 1431655765)) &&& 858993459) + (((Int32.toUInt32 (p0 - (((Int32.toUInt32 p0 >>> (Int32.toUInt32 1 &&& Int32.toUInt32 31)).toInt32) &&& 1431655765)) >>> (Int32.toUInt32 2 &&& Int32.toUInt32 31)).toInt32) &&& 858993459)) + ((Int32.toUInt32 (((p0 - (((Int32.toUInt32 p0 >>> (Int32.toUInt32 1 &&& Int32.toUInt32 31)).toInt32) &&& 1431655765)) &&& 858993459) + (((Int32.toUInt32 (p0 - (((Int32.toUInt32 p0 >>> (Int32.toUInt32 1 &&& Int32.toUInt32 31)).toInt32) &&& 1431655765)) >>> (Int32.toUInt32 2 &&& Int32.toUInt32 31)).toInt32) &&& 858993459)) >>> (Int32.toUInt32 4 &&& Int32.toUInt32 31)).toInt32)) &&& 252645135) >>> (Int32.toUInt32 8 &&& Int32.toUInt32 31)).toInt32)))] dJ6_bitCount_0f7a4_40 rfl (by decide) rfl ?_
  refine q_iload_n hC 0 dJ6_bitCount_0f7a4_41 rfl rfl ?_
  refine q_iload_n hC 0 dJ6_bitCount_0f7a4_42 rfl rfl ?_
  refine q_bipush hC 16 dJ6_bitCount_0f7a4_43 rfl ?_
  refine q_iushr hC dJ6_bitCount_0f7a4_45 ?_
  refine q_iadd hC dJ6_bitCount_0f7a4_46 ?_
  refine q_istore_n hC [(0, .int (((((((p0 - (((Int32.toUInt32 p0 >>> (Int32.toUInt32 1 &&& Int32.toUInt32 31)).toInt32) &&& 1431655765)) &&& 858993459) + (((Int32.toUInt32 (p0 - (((Int32.toUInt32 p0 >>> (Int32.toUInt32 1 &&& Int32.toUInt32 31)).toInt32) &&& 1431655765)) >>> (Int32.toUInt32 2 &&& Int32.toUInt32 31)).toInt32) &&& 858993459)) + ((Int32.toUInt32 (((p0 - (((Int32.toUInt32 p0 >>> (Int32.toUInt32 1 &&& Int32.toUInt32 31)).toInt32) &&& 1431655765)) &&& 858993459) + (((Int32.toUInt32 (p0 - (((Int32.toUInt32 p0 >>> (Int32.toUInt32 1 &&& Int32.toUInt32 31)).toInt32) &&& 1431655765)) >>> (Int32.toUInt32 2 &&& Int32.toUInt32 31)).toInt32) &&& 858993459)) >>> (Int32.toUInt32 4 &&& Int32.toUInt32 31)).toInt32)) &&& 252645135) + ((Int32.toUInt32 (((((p0 - (((Int32.toUInt32 p0 >>> (Int32.toUInt32 1 &&& Int32.toUInt32 31)).toInt32) &&& 1431655765)) &&& 858993459) + (((Int32.toUInt32 (p0 - (((Int32.toUInt32 p0 >>> (Int32.toUInt32 1 &&& Int32.toUInt32 31)).toInt32) &&& 1431655765)) >>> (Int32.toUInt32 2 &&& Int32.toUInt32 31)).toInt32) &&& 858993459)) + ((Int32.toUInt32 (((p0 - (((Int32.toUInt32 p0 >>> (Int32.toUInt32 1 &&& Int32.toUInt32 31)).toInt32) &&& 1431655765)) &&& 858993459) + (((Int32.toUInt32 (p0 - (((Int32.toUInt32 p0 >>> (Int32.toUInt32 1 &&& Int32.toUInt32 31)).toInt32) &&& 1431655765)) >>> (Int32.toUInt32 2 &&& Int32.toUInt32 31)).toInt32) &&& 858993459)) >>> (Int32.toUInt32 4 &&& Int32.toUInt32 31)).toInt32)) &&& 252645135) >>> (Int32.toUInt32 8 &&& Int32.toUInt32 31)).toInt32)) + ((Int32.toUInt32 ((((((p0 - (((Int32.toUInt32 p0 >>> (Int32.toUInt32 1 &&& Int32.toUInt32 31)).toInt32) &&& 1431655765)) &&& 858993459) + (((Int32.toUInt32 (p0 - (((Int32.toUInt32 p0 >>> (Int32.toUInt32 1 &&& Int32.toUInt32 31)).toInt32) &&& 1431655765)) >>> (Int32.toUInt32 2 &&& Int32.toUInt32 31)).toInt32) &&& 858993459)) + ((Int32.toUInt32 (((p0 - (((Int32.toUInt32 p0 >>> (Int32.toUInt32 1 &&& Int32.toUInt32 31)).toInt32) &&& 1431655765)) &&& 858993459) + (((Int32.toUInt32 (p0 - (((Int32.toUInt32 p0 >>> (Int32.toUInt32 1 &&& Int32.toUInt32 31)).toInt32) &&& 1431655765)) >>> (Int32.toUInt32 2 &&& Int32.toUInt32 31)).toInt32) &&& 858993459)) >>> (Int32.toUInt32 4 &&& Int32.toUInt32 31)).toInt32)) &&& 252645135) + ((Int32.toUInt32 (((((p0 - (((Int32.toUInt32 p0 >>> (Int32.toUInt32 1 &&& Int32.toUInt32 31)).toInt32) &&& 1431655765)) &&& 858993459) + (((Int32.toUInt32 (p0 - (((Int32.toUInt32 p0 >>> (Int32.toUInt32 1 &&& Int32.toUInt32 31)).toInt32) &&& 1431655765)) >>> (Int32.toUInt32 2 &&& Int32.toUInt32 31)).toInt32) &&& 858993459)) + ((Int32.toUInt32 (((p0 - (((Int32.toUInt32 p0 >>> (Int32.toUInt32 1 &&& Int32.toUInt32 31)).toInt32) &&& 1431655765)) &&& 858993459) + (((Int32.toUInt32 (p0 - (((Int32.toUInt32 p0 >>> (Int32.toUInt32 1 &&& Int32.toUInt32 31)).toInt32) &&& 1431655765)) >>> (Int32.toUInt32 2 &&& Int32.toUInt32 31)).toInt32) &&& 858993459)) >>> (Int32.toUInt32 4 &&& Int32.toUInt32 31)).toInt32)) &&& 252645135) >>> (Int32.toUInt32 8 &&& Int32.toUInt32 31)).toInt32)) >>> (Int32.toUInt32 16 &&& Int32.toUInt32 31)).toInt32)))] dJ6_bitCount_0f7a4_47 rfl (by decide) rfl ?_
  refine q_iload_n hC 0 dJ6_bitCount_0f7a4_48 rfl rfl ?_
  refine q_bipush hC 63 dJ6_bitCount_0f7a4_49 rfl ?_
  refine q_iand hC dJ6_bitCount_0f7a4_51 ?_
  exact q_iret hC hF dJ6_bitCount_0f7a4_52 (congrArg (fun z => (z, M)) (Option.some.inj hx))

theorem dX7_costOf_0 : decode cX7_costOf 0 = .ok (.iload_n 3, 1) := by decide +kernel
theorem dX7_costOf_1 : decode cX7_costOf 1 = .ok (.lookupswitch 47 #[(1, 27), (2, 39)], 27) := by decide +kernel
theorem dX7_costOf_28 : decode cX7_costOf 28 = .ok (.aload_n 0, 1) := by decide +kernel
theorem dX7_costOf_29 : decode cX7_costOf 29 = .ok (.iload_n 1, 1) := by decide +kernel
theorem dX7_costOf_30 : decode cX7_costOf 30 = .ok (.aload_n 0, 1) := by decide +kernel
theorem dX7_costOf_31 : decode cX7_costOf 31 = .ok (.getfield 43, 3) := by decide +kernel
theorem dX7_costOf_34 : decode cX7_costOf 34 = .ok (.iload_n 2, 1) := by decide +kernel
theorem dX7_costOf_35 : decode cX7_costOf 35 = .ok (.iaload, 1) := by decide +kernel
theorem dX7_costOf_36 : decode cX7_costOf 36 = .ok (.invokevirtual 46, 3) := by decide +kernel
theorem dX7_costOf_39 : decode cX7_costOf 39 = .ok (.ireturn, 1) := by decide +kernel
theorem dX7_costOf_40 : decode cX7_costOf 40 = .ok (.aload_n 0, 1) := by decide +kernel
theorem dX7_costOf_41 : decode cX7_costOf 41 = .ok (.iload_n 2, 1) := by decide +kernel
theorem dX7_costOf_42 : decode cX7_costOf 42 = .ok (.iload_n 1, 1) := by decide +kernel
theorem dX7_costOf_43 : decode cX7_costOf 43 = .ok (.invokevirtual 50, 3) := by decide +kernel
theorem dX7_costOf_46 : decode cX7_costOf 46 = .ok (.ineg, 1) := by decide +kernel
theorem dX7_costOf_47 : decode cX7_costOf 47 = .ok (.ireturn, 1) := by decide +kernel
theorem dX7_costOf_48 : decode cX7_costOf 48 = .ok (.iconst 0, 1) := by decide +kernel
theorem dX7_costOf_49 : decode cX7_costOf 49 = .ok (.ireturn, 1) := by decide +kernel
def x_X7_costOf (M : gMem) (d : Nat) (p1 : Int32) (p2 : Int32) (p3 : Int32) : Option Int32 := (if p3 = 1 then gd (gin p2 7) (Option.bind (x_X1_workFor M d p1 (M.1 d 2 (p2).toNatClampNeg)) (fun v3 => some v3)) else (if p3 = 2 then Option.bind (x_X1_contentBy M d p2 p1) (fun v6 => some (-v6)) else some 0))
set_option maxRecDepth 100000 in
set_option maxHeartbeats 4000000 in
theorem c_X7_costOf {l : Launch} {Y : gY} {M : gMem} {d : Nat} {p1 : Int32} {p2 : Int32} {p3 : Int32} {r : Int32} (hd : d < 4) (hx : x_X7_costOf M d p1 p2 p3 = some r) : Met l yX7_costOf (gws yX7_costOf cX7_costOf 4 (some .int)) { frames := 5, cells := 0, slots := 0, locals := 110 } (va_Pc [.ref (gad Y d 0), .int p1, .int p2, .int p3] (gS0 Y M)) (gQi Y (r, M)) 0 0 (gA Y) := by
  refine gmet (lv := [(0, .ref (gad Y d 0)), (1, .int p1), (2, .int p2), (3, .int p3)]) "GuestStaff$Rows" (by decide) rfl (Nat.le_of_ble_eq_true rfl) rfl (fun X hC hF => ?_)
  unfold x_X7_costOf at hx
  refine q_iload_n hC 3 dX7_costOf_0 rfl rfl ?_
  by_cases h1 : p3 = 1
  · have hx := gi_p h1 hx
    refine q_lsw hC 28 dX7_costOf_1 (by decide) (by rw [h1] <;> rfl) rfl ?_
    refine q_aload_n hC 0 dX7_costOf_28 rfl rfl ?_
    refine q_iload_n hC 1 dX7_costOf_29 rfl rfl ?_
    refine q_aload_n hC 0 dX7_costOf_30 rfl rfl ?_
    refine gf_X7_43 hC hd dX7_costOf_31 ?_
    refine q_iload_n hC 2 dX7_costOf_34 rfl rfl ?_
    have g2 := (gd_e hx).1
    have hx := (gd_e hx).2
    refine q_iald hC 6 (gV_h hd (by decide)) rfl g2 dX7_costOf_35 ?_
    obtain ⟨v3, q4, hx⟩ := gb_e hx
    refine q_kip (q_rV (As := [.int p1, .int (M.1 d 2 (p2).toNatClampNeg)]) (rest := []) hC mm_X1_workFor wM_X7_46 (c_X1_workFor hd q4) ⟨rfl, rfl, Nat.le_of_ble_eq_true rfl, Nat.le_of_ble_eq_true rfl⟩ (gV_h hd (by decide)) rfl rfl rfl rfl (Nat.le_of_ble_eq_true rfl) dX7_costOf_36) ?_
    exact q_iret hC hF dX7_costOf_39 (congrArg (fun z => (z, M)) (Option.some.inj hx))
  have hx := gi_n h1 hx
  by_cases h5 : p3 = 2
  · have hx := gi_p h5 hx
    refine q_lsw hC 40 dX7_costOf_1 (by decide) (by rw [h5] <;> rfl) rfl ?_
    refine q_aload_n hC 0 dX7_costOf_40 rfl rfl ?_
    refine q_iload_n hC 2 dX7_costOf_41 rfl rfl ?_
    refine q_iload_n hC 1 dX7_costOf_42 rfl rfl ?_
    obtain ⟨v6, q7, hx⟩ := gb_e hx
    refine q_kip (q_rV (As := [.int p2, .int p1]) (rest := []) hC mm_X1_contentBy wM_X7_50 (c_X1_contentBy hd q7) ⟨rfl, rfl, Nat.le_of_ble_eq_true rfl, Nat.le_of_ble_eq_true rfl⟩ (gV_h hd (by decide)) rfl rfl rfl rfl (Nat.le_of_ble_eq_true rfl) dX7_costOf_43) ?_
    refine q_ineg hC dX7_costOf_46 ?_
    exact q_iret hC hF dX7_costOf_47 (congrArg (fun z => (z, M)) (Option.some.inj hx))
  have hx := gi_n h5 hx
  have th1 := lv_neT (a := 1) h1 (by decide)
  have th5 := lv_neT (a := 2) h5 (by decide)
  refine q_lsw hC 48 dX7_costOf_1 (by decide) (by simp [Op.lookupswitch.offset, th1, Ne.symm th1, th5, Ne.symm th5]; try rfl) rfl ?_
  refine q_iconst hC 0 dX7_costOf_48 rfl ?_
  exact q_iret hC hF dX7_costOf_49 (congrArg (fun z => (z, M)) (Option.some.inj hx))

theorem dX7_gather_0 : decode cX7_gather 0 = .ok (.aload_n 0, 1) := by decide +kernel
theorem dX7_gather_1 : decode cX7_gather 1 = .ok (.iconst 0, 1) := by decide +kernel
theorem dX7_gather_2 : decode cX7_gather 2 = .ok (.putfield 26, 3) := by decide +kernel
theorem dX7_gather_5 : decode cX7_gather 5 = .ok (.iconst 0, 1) := by decide +kernel
theorem dX7_gather_6 : decode cX7_gather 6 = .ok (.istore 4, 2) := by decide +kernel
theorem dX7_gather_8 : decode cX7_gather 8 = .ok (.iload 4, 2) := by decide +kernel
theorem dX7_gather_10 : decode cX7_gather 10 = .ok (.aload_n 1, 1) := by decide +kernel
theorem dX7_gather_11 : decode cX7_gather 11 = .ok (.getfield 30, 3) := by decide +kernel
theorem dX7_gather_14 : decode cX7_gather 14 = .ok (.if_icmp .ge 39, 3) := by decide +kernel
theorem dX7_gather_17 : decode cX7_gather 17 = .ok (.iload_n 2, 1) := by decide +kernel
theorem dX7_gather_18 : decode cX7_gather 18 = .ok (.iload 4, 2) := by decide +kernel
theorem dX7_gather_20 : decode cX7_gather 20 = .ok (.ishr, 1) := by decide +kernel
theorem dX7_gather_21 : decode cX7_gather 21 = .ok (.iconst 1, 1) := by decide +kernel
theorem dX7_gather_22 : decode cX7_gather 22 = .ok (.iand, 1) := by decide +kernel
theorem dX7_gather_23 : decode cX7_gather 23 = .ok (.ifCond .eq 24, 3) := by decide +kernel
theorem dX7_gather_26 : decode cX7_gather 26 = .ok (.aload_n 0, 1) := by decide +kernel
theorem dX7_gather_27 : decode cX7_gather 27 = .ok (.getfield 9, 3) := by decide +kernel
theorem dX7_gather_30 : decode cX7_gather 30 = .ok (.aload_n 0, 1) := by decide +kernel
theorem dX7_gather_31 : decode cX7_gather 31 = .ok (.getfield 26, 3) := by decide +kernel
theorem dX7_gather_34 : decode cX7_gather 34 = .ok (.iload 4, 2) := by decide +kernel
theorem dX7_gather_36 : decode cX7_gather 36 = .ok (.iastore, 1) := by decide +kernel
theorem dX7_gather_37 : decode cX7_gather 37 = .ok (.aload_n 0, 1) := by decide +kernel
theorem dX7_gather_38 : decode cX7_gather 38 = .ok (.dup, 1) := by decide +kernel
theorem dX7_gather_39 : decode cX7_gather 39 = .ok (.getfield 26, 3) := by decide +kernel
theorem dX7_gather_42 : decode cX7_gather 42 = .ok (.iconst 1, 1) := by decide +kernel
theorem dX7_gather_43 : decode cX7_gather 43 = .ok (.iadd, 1) := by decide +kernel
theorem dX7_gather_44 : decode cX7_gather 44 = .ok (.putfield 26, 3) := by decide +kernel
theorem dX7_gather_47 : decode cX7_gather 47 = .ok (.iinc 4 1, 3) := by decide +kernel
theorem dX7_gather_50 : decode cX7_gather 50 = .ok (.goto (-42), 3) := by decide +kernel
theorem dX7_gather_53 : decode cX7_gather 53 = .ok (.iconst 0, 1) := by decide +kernel
theorem dX7_gather_54 : decode cX7_gather 54 = .ok (.istore 4, 2) := by decide +kernel
theorem dX7_gather_56 : decode cX7_gather 56 = .ok (.iload 4, 2) := by decide +kernel
theorem dX7_gather_58 : decode cX7_gather 58 = .ok (.aload_n 0, 1) := by decide +kernel
theorem dX7_gather_59 : decode cX7_gather 59 = .ok (.getfield 26, 3) := by decide +kernel
theorem dX7_gather_62 : decode cX7_gather 62 = .ok (.if_icmp .ge 106, 3) := by decide +kernel
theorem dX7_gather_65 : decode cX7_gather 65 = .ok (.aload_n 0, 1) := by decide +kernel
theorem dX7_gather_66 : decode cX7_gather 66 = .ok (.getfield 15, 3) := by decide +kernel
theorem dX7_gather_69 : decode cX7_gather 69 = .ok (.iload 4, 2) := by decide +kernel
theorem dX7_gather_71 : decode cX7_gather 71 = .ok (.iconst 0, 1) := by decide +kernel
theorem dX7_gather_72 : decode cX7_gather 72 = .ok (.iastore, 1) := by decide +kernel
theorem dX7_gather_73 : decode cX7_gather 73 = .ok (.iconst 0, 1) := by decide +kernel
theorem dX7_gather_74 : decode cX7_gather 74 = .ok (.istore 5, 2) := by decide +kernel
theorem dX7_gather_76 : decode cX7_gather 76 = .ok (.iload 5, 2) := by decide +kernel
theorem dX7_gather_78 : decode cX7_gather 78 = .ok (.aload_n 0, 1) := by decide +kernel
theorem dX7_gather_79 : decode cX7_gather 79 = .ok (.getfield 26, 3) := by decide +kernel
theorem dX7_gather_82 : decode cX7_gather 82 = .ok (.if_icmp .ge 80, 3) := by decide +kernel
theorem dX7_gather_85 : decode cX7_gather 85 = .ok (.iload 4, 2) := by decide +kernel
theorem dX7_gather_87 : decode cX7_gather 87 = .ok (.iload 5, 2) := by decide +kernel
theorem dX7_gather_89 : decode cX7_gather 89 = .ok (.if_icmp .eq 67, 3) := by decide +kernel
theorem dX7_gather_92 : decode cX7_gather 92 = .ok (.aload_n 1, 1) := by decide +kernel
theorem dX7_gather_93 : decode cX7_gather 93 = .ok (.aload_n 0, 1) := by decide +kernel
theorem dX7_gather_94 : decode cX7_gather 94 = .ok (.getfield 9, 3) := by decide +kernel
theorem dX7_gather_97 : decode cX7_gather 97 = .ok (.iload 4, 2) := by decide +kernel
theorem dX7_gather_99 : decode cX7_gather 99 = .ok (.iaload, 1) := by decide +kernel
theorem dX7_gather_100 : decode cX7_gather 100 = .ok (.aload_n 0, 1) := by decide +kernel
theorem dX7_gather_101 : decode cX7_gather 101 = .ok (.getfield 9, 3) := by decide +kernel
theorem dX7_gather_104 : decode cX7_gather 104 = .ok (.iload 5, 2) := by decide +kernel
theorem dX7_gather_106 : decode cX7_gather 106 = .ok (.iaload, 1) := by decide +kernel
theorem dX7_gather_107 : decode cX7_gather 107 = .ok (.invokevirtual 35, 3) := by decide +kernel
theorem dX7_gather_110 : decode cX7_gather 110 = .ok (.ifCond .eq 46, 3) := by decide +kernel
theorem dX7_gather_113 : decode cX7_gather 113 = .ok (.aload_n 0, 1) := by decide +kernel
theorem dX7_gather_114 : decode cX7_gather 114 = .ok (.getfield 15, 3) := by decide +kernel
theorem dX7_gather_117 : decode cX7_gather 117 = .ok (.iload 4, 2) := by decide +kernel
theorem dX7_gather_119 : decode cX7_gather 119 = .ok (.dup2, 1) := by decide +kernel
theorem dX7_gather_120 : decode cX7_gather 120 = .ok (.iaload, 1) := by decide +kernel
theorem dX7_gather_121 : decode cX7_gather 121 = .ok (.iconst 1, 1) := by decide +kernel
theorem dX7_gather_122 : decode cX7_gather 122 = .ok (.iload 5, 2) := by decide +kernel
theorem dX7_gather_124 : decode cX7_gather 124 = .ok (.ishl, 1) := by decide +kernel
theorem dX7_gather_125 : decode cX7_gather 125 = .ok (.ior, 1) := by decide +kernel
theorem dX7_gather_126 : decode cX7_gather 126 = .ok (.iastore, 1) := by decide +kernel
theorem dX7_gather_127 : decode cX7_gather 127 = .ok (.aload_n 0, 1) := by decide +kernel
theorem dX7_gather_128 : decode cX7_gather 128 = .ok (.getfield 20, 3) := by decide +kernel
theorem dX7_gather_131 : decode cX7_gather 131 = .ok (.iload 4, 2) := by decide +kernel
theorem dX7_gather_133 : decode cX7_gather 133 = .ok (.aaload, 1) := by decide +kernel
theorem dX7_gather_134 : decode cX7_gather 134 = .ok (.iload 5, 2) := by decide +kernel
theorem dX7_gather_136 : decode cX7_gather 136 = .ok (.aload_n 1, 1) := by decide +kernel
theorem dX7_gather_137 : decode cX7_gather 137 = .ok (.aload_n 0, 1) := by decide +kernel
theorem dX7_gather_138 : decode cX7_gather 138 = .ok (.getfield 9, 3) := by decide +kernel
theorem dX7_gather_141 : decode cX7_gather 141 = .ok (.iload 4, 2) := by decide +kernel
theorem dX7_gather_143 : decode cX7_gather 143 = .ok (.iaload, 1) := by decide +kernel
theorem dX7_gather_144 : decode cX7_gather 144 = .ok (.aload_n 0, 1) := by decide +kernel
theorem dX7_gather_145 : decode cX7_gather 145 = .ok (.getfield 9, 3) := by decide +kernel
theorem dX7_gather_148 : decode cX7_gather 148 = .ok (.iload 5, 2) := by decide +kernel
theorem dX7_gather_150 : decode cX7_gather 150 = .ok (.iaload, 1) := by decide +kernel
theorem dX7_gather_151 : decode cX7_gather 151 = .ok (.iload_n 3, 1) := by decide +kernel
theorem dX7_gather_152 : decode cX7_gather 152 = .ok (.invokestatic 39, 3) := by decide +kernel
theorem dX7_gather_155 : decode cX7_gather 155 = .ok (.iastore, 1) := by decide +kernel
theorem dX7_gather_156 : decode cX7_gather 156 = .ok (.iinc 5 1, 3) := by decide +kernel
theorem dX7_gather_159 : decode cX7_gather 159 = .ok (.goto (-83), 3) := by decide +kernel
theorem dX7_gather_162 : decode cX7_gather 162 = .ok (.iinc 4 1, 3) := by decide +kernel
theorem dX7_gather_165 : decode cX7_gather 165 = .ok (.goto (-109), 3) := by decide +kernel
theorem dX7_gather_168 : decode cX7_gather 168 = .ok (.return_, 1) := by decide +kernel
def j_X7_gather_8_47 (d : Nat) (a2 : Int32) (a3 : Int32) (N : gMem) (b4 : Int32) : Option ((Int32 × gMem) ⊕ (Int32 × gMem)) := some (.inl (b4 + 1, N))
def s_X7_gather_8 (d : Nat) (a2 : Int32) (a3 : Int32) (b4 : Int32) (N : gMem) : Option ((Int32 × gMem) ⊕ (Int32 × gMem)) := (if (N.1 d 0 13) ≤ b4 then some (.inr (b4, N)) else (if ((a2 >>> (b4 &&& 31)) &&& 1) = 0 then j_X7_gather_8_47 d a2 a3 N b4 else gd (gin (N.1 0 38 4) 7) (j_X7_gather_8_47 d a2 a3 (gwr (gwr N 0 39 (N.1 0 38 4).toNatClampNeg b4) 0 38 4 (((gwr N 0 39 (N.1 0 38 4).toNatClampNeg b4).1 0 38 4) + 1)) b4)))
def j_X7_gather_76_156 (d : Nat) (a3 : Int32) (a4 : Int32) (N : gMem) (b5 : Int32) : Option ((Int32 × gMem) ⊕ (Int32 × gMem)) := some (.inl (b5 + 1, N))
def s_X7_gather_76 (d : Nat) (a3 : Int32) (a4 : Int32) (b5 : Int32) (N : gMem) : Option ((Int32 × gMem) ⊕ (Int32 × gMem)) := (if (N.1 0 38 4) ≤ b5 then some (.inr (b5, N)) else (if a4 = b5 then j_X7_gather_76_156 d a3 a4 N b5 else gd (gin a4 7) (gd (gin b5 7) (Option.bind (x_X1_canServe N d (N.1 0 39 (a4).toNatClampNeg) (N.1 0 39 (b5).toNatClampNeg)) (fun v11 => (if v11 = 0 then j_X7_gather_76_156 d a3 a4 N b5 else gd (gin a4 7) (gd (gin a4 7) (gd (gin a4 7) (gd (gin a4 7) (gd (gin b5 7) (Option.bind (x_X7_costOf (gwr N 0 40 (a4).toNatClampNeg ((N.1 0 40 (a4).toNatClampNeg) ||| (1 <<< (b5 &&& 31)))) d ((gwr N 0 40 (a4).toNatClampNeg ((N.1 0 40 (a4).toNatClampNeg) ||| (1 <<< (b5 &&& 31)))).1 0 39 (a4).toNatClampNeg) ((gwr N 0 40 (a4).toNatClampNeg ((N.1 0 40 (a4).toNatClampNeg) ||| (1 <<< (b5 &&& 31)))).1 0 39 (b5).toNatClampNeg) a3) (fun v20 => gd (gin b5 7) (j_X7_gather_76_156 d a3 a4 (gwr (gwr N 0 40 (a4).toNatClampNeg ((N.1 0 40 (a4).toNatClampNeg) ||| (1 <<< (b5 &&& 31)))) 0 (42 + (a4).toNatClampNeg) (b5).toNatClampNeg v20) b5)))))))))))))
def s_X7_gather_56 (d : Nat) (a3 : Int32) (b4 : Int32) (N : gMem) : Option ((Int32 × gMem) ⊕ (Int32 × gMem)) := (if (N.1 0 38 4) ≤ b4 then some (.inr (b4, N)) else gd (gin b4 7) (Option.bind (itr FU (fun s => s_X7_gather_76 d a3 b4 s.1 s.2) (0, gwr N 0 40 (b4).toNatClampNeg 0)) (fun e23 => some (.inl (b4 + 1, e23.2)))))
def x_X7_gather (M : gMem) (d : Nat) (p2 : Int32) (p3 : Int32) : Option gMem := Option.bind (itr FU (fun s => s_X7_gather_8 d p2 p3 s.1 s.2) (0, gwr M 0 38 4 0)) (fun e4 => Option.bind (itr FU (fun s => s_X7_gather_56 d p3 s.1 s.2) (0, e4.2)) (fun e24 => some e24.2))
set_option maxRecDepth 100000 in
set_option maxHeartbeats 4000000 in
theorem w_X7_gather_8 {X : gX} {Y : gY} {d : Nat} {a2 : Int32} {a3 : Int32} {r : gMem} (hC : gC X Y cX7_gather "GuestStaff$Rows" 6 6 133) (hF : gF X Y none (gQv Y r)) (hd : d < 4) {e : (Int32 × gMem)} (kE : ∀ s : (Int32 × gMem), e = s → gWW X Y 6 53 [(0, .ref (gad Y 0 38)), (1, .ref (gad Y d 0)), (3, .int a3)] [] s.2) : ∀ (F : Nat) (s : (Int32 × gMem)), itr F (fun s => s_X7_gather_8 d a2 a3 s.1 s.2) s = some e → gWW X Y 6 8 [(0, .ref (gad Y 0 38)), (1, .ref (gad Y d 0)), (2, .int a2), (3, .int a3), (4, .int s.1)] [] s.2 := by
  intro F s
  refine itr_w (P := fun s => gWW X Y 6 8 [(0, .ref (gad Y 0 38)), (1, .ref (gad Y d 0)), (2, .int a2), (3, .int a3), (4, .int s.1)] [] s.2) (fun s o hx kI kx => ?_) F s
  obtain ⟨b4, N⟩ := s
  have hx : s_X7_gather_8 d a2 a3 b4 N = some o := hx
  have kE : ∀ s : (Int32 × gMem), o = .inr s → gWW X Y 6 53 [(0, .ref (gad Y 0 38)), (1, .ref (gad Y d 0)), (3, .int a3)] [] s.2 := fun s q => kE s (kx _ q).symm
  have J47 : ∀ (N : gMem) (b4 : Int32) , j_X7_gather_8_47 d a2 a3 N b4 = some o → gWW X Y 6 47 [(0, .ref (gad Y 0 38)), (1, .ref (gad Y d 0)), (2, .int a2), (3, .int a3), (4, .int b4)] [] N := by
    intro N b4 hx
    unfold j_X7_gather_8_47 at hx
    refine q_iinc hC 4 1 [(4, .int (b4 + 1)), (0, .ref (gad Y 0 38)), (1, .ref (gad Y d 0)), (2, .int a2), (3, .int a3)] dX7_gather_47 rfl rfl (by decide) rfl ?_
    refine q_goto hC 8 dX7_gather_50 rfl ?_
    exact q_sub [1, 2, 3, 4, 0] rfl (kI (b4 + 1, N) (Option.some.inj hx).symm)
  unfold s_X7_gather_8 at hx
  refine q_iload hC 4 dX7_gather_8 rfl ?_
  refine q_aload_n hC 1 dX7_gather_10 rfl rfl ?_
  refine gf_X7_30 hC hd dX7_gather_11 ?_
  refine q_ic_ge hC 53 dX7_gather_14 rfl (fun h1 => ?_) (fun h1 => ?_)
  · have hx := gi_p h1 hx
    exact q_sub [0, 1, 3] rfl (kE (b4, N) (Option.some.inj hx).symm)
  · have hx := gi_n h1 hx
    refine q_iload_n hC 2 dX7_gather_17 rfl rfl ?_
    refine q_iload hC 4 dX7_gather_18 rfl ?_
    refine q_ishr hC dX7_gather_20 ?_
    refine q_iconst hC 1 dX7_gather_21 rfl ?_
    refine q_iand hC dX7_gather_22 ?_
    refine q_if_eq hC 47 dX7_gather_23 rfl (fun h2 => ?_) (fun h2 => ?_)
    · have hx := gi_p h2 hx
      exact q_sub [0, 1, 2, 3, 4] rfl (J47 N b4 hx)
    · have hx := gi_n h2 hx
      refine q_aload_n hC 0 dX7_gather_26 rfl rfl ?_
      refine gf_X7_9 hC dX7_gather_27 ?_
      refine q_aload_n hC 0 dX7_gather_30 rfl rfl ?_
      refine gf_X7_26 hC dX7_gather_31 ?_
      refine q_iload hC 4 dX7_gather_34 rfl ?_
      have g3 := (gd_e hx).1
      have hx := (gd_e hx).2
      refine q_iast hC 6 (gV_t (by decide) (by decide)) rfl g3 dX7_gather_36 ?_
      refine q_aload_n hC 0 dX7_gather_37 rfl rfl ?_
      refine q_dup hC dX7_gather_38 rfl ?_
      refine gf_X7_26 hC dX7_gather_39 ?_
      refine q_iconst hC 1 dX7_gather_42 rfl ?_
      refine q_iadd hC dX7_gather_43 ?_
      refine pf_X7_26 hC dX7_gather_44 ?_
      exact q_sub [0, 1, 2, 3, 4] rfl (J47 (gwr (gwr N 0 39 (N.1 0 38 4).toNatClampNeg b4) 0 38 4 (((gwr N 0 39 (N.1 0 38 4).toNatClampNeg b4).1 0 38 4) + 1)) b4 hx)
set_option maxRecDepth 100000 in
set_option maxHeartbeats 4000000 in
theorem w_X7_gather_76 {X : gX} {Y : gY} {d : Nat} {a3 : Int32} {a4 : Int32} {r : gMem} (hC : gC X Y cX7_gather "GuestStaff$Rows" 6 6 133) (hF : gF X Y none (gQv Y r)) (hd : d < 4) {e : (Int32 × gMem)} (kE : ∀ s : (Int32 × gMem), e = s → gWW X Y 6 162 [(0, .ref (gad Y 0 38)), (1, .ref (gad Y d 0)), (3, .int a3), (4, .int a4)] [] s.2) : ∀ (F : Nat) (s : (Int32 × gMem)), itr F (fun s => s_X7_gather_76 d a3 a4 s.1 s.2) s = some e → gWW X Y 6 76 [(0, .ref (gad Y 0 38)), (1, .ref (gad Y d 0)), (3, .int a3), (4, .int a4), (5, .int s.1)] [] s.2 := by
  intro F s
  refine itr_w (P := fun s => gWW X Y 6 76 [(0, .ref (gad Y 0 38)), (1, .ref (gad Y d 0)), (3, .int a3), (4, .int a4), (5, .int s.1)] [] s.2) (fun s o hx kI kx => ?_) F s
  obtain ⟨b5, N⟩ := s
  have hx : s_X7_gather_76 d a3 a4 b5 N = some o := hx
  have kE : ∀ s : (Int32 × gMem), o = .inr s → gWW X Y 6 162 [(0, .ref (gad Y 0 38)), (1, .ref (gad Y d 0)), (3, .int a3), (4, .int a4)] [] s.2 := fun s q => kE s (kx _ q).symm
  have J156 : ∀ (N : gMem) (b5 : Int32) , j_X7_gather_76_156 d a3 a4 N b5 = some o → gWW X Y 6 156 [(0, .ref (gad Y 0 38)), (1, .ref (gad Y d 0)), (3, .int a3), (4, .int a4), (5, .int b5)] [] N := by
    intro N b5 hx
    unfold j_X7_gather_76_156 at hx
    refine q_iinc hC 4 1 [(5, .int (b5 + 1)), (0, .ref (gad Y 0 38)), (1, .ref (gad Y d 0)), (3, .int a3), (4, .int a4)] dX7_gather_156 rfl rfl (by decide) rfl ?_
    refine q_goto hC 76 dX7_gather_159 rfl ?_
    exact q_sub [1, 2, 3, 4, 0] rfl (kI (b5 + 1, N) (Option.some.inj hx).symm)
  unfold s_X7_gather_76 at hx
  refine q_iload hC 4 dX7_gather_76 rfl ?_
  refine q_aload_n hC 0 dX7_gather_78 rfl rfl ?_
  refine gf_X7_26 hC dX7_gather_79 ?_
  refine q_ic_ge hC 162 dX7_gather_82 rfl (fun h7 => ?_) (fun h7 => ?_)
  · have hx := gi_p h7 hx
    exact q_sub [0, 1, 2, 3] rfl (kE (b5, N) (Option.some.inj hx).symm)
  · have hx := gi_n h7 hx
    refine q_iload hC 3 dX7_gather_85 rfl ?_
    refine q_iload hC 4 dX7_gather_87 rfl ?_
    refine q_ic_eq hC 156 dX7_gather_89 rfl (fun h8 => ?_) (fun h8 => ?_)
    · have hx := gi_p h8 hx
      exact q_sub [0, 1, 2, 3, 4] rfl (J156 N b5 hx)
    · have hx := gi_n h8 hx
      refine q_aload_n hC 1 dX7_gather_92 rfl rfl ?_
      refine q_aload_n hC 0 dX7_gather_93 rfl rfl ?_
      refine gf_X7_9 hC dX7_gather_94 ?_
      refine q_iload hC 3 dX7_gather_97 rfl ?_
      have g9 := (gd_e hx).1
      have hx := (gd_e hx).2
      refine q_iald hC 6 (gV_t (by decide) (by decide)) rfl g9 dX7_gather_99 ?_
      refine q_aload_n hC 0 dX7_gather_100 rfl rfl ?_
      refine gf_X7_9 hC dX7_gather_101 ?_
      refine q_iload hC 4 dX7_gather_104 rfl ?_
      have g10 := (gd_e hx).1
      have hx := (gd_e hx).2
      refine q_iald hC 6 (gV_t (by decide) (by decide)) rfl g10 dX7_gather_106 ?_
      obtain ⟨v11, q12, hx⟩ := gb_e hx
      refine q_kzp (q_rV (As := [.int (N.1 0 39 (a4).toNatClampNeg), .int (N.1 0 39 (b5).toNatClampNeg)]) (rest := []) hC mm_X1_canServe wM_X7_35 (c_X1_canServe hd q12) ⟨rfl, rfl, Nat.le_of_ble_eq_true rfl, Nat.le_of_ble_eq_true rfl⟩ (gV_h hd (by decide)) rfl rfl rfl rfl (Nat.le_of_ble_eq_true rfl) dX7_gather_107) (fun z13 => ?_)
      refine q_if_eq hC 156 dX7_gather_110 rfl (fun h14 => ?_) (fun h14 => ?_)
      · have hx := gi_p h14 hx
        exact q_sub [0, 1, 2, 3, 4] rfl (J156 N b5 hx)
      · have hx := gi_n h14 hx
        refine q_aload_n hC 0 dX7_gather_113 rfl rfl ?_
        refine gf_X7_15 hC dX7_gather_114 ?_
        refine q_iload hC 3 dX7_gather_117 rfl ?_
        refine q_dup2 hC dX7_gather_119 rfl rfl ?_
        have g15 := (gd_e hx).1
        have hx := (gd_e hx).2
        refine q_iald hC 6 (gV_t (by decide) (by decide)) rfl g15 dX7_gather_120 ?_
        refine q_iconst hC 1 dX7_gather_121 rfl ?_
        refine q_iload hC 4 dX7_gather_122 rfl ?_
        refine q_ishl hC dX7_gather_124 ?_
        refine q_ior hC dX7_gather_125 ?_
        have g16 := (gd_e hx).1
        have hx := (gd_e hx).2
        refine q_iast hC 6 (gV_t (by decide) (by decide)) rfl g16 dX7_gather_126 ?_
        refine q_aload_n hC 0 dX7_gather_127 rfl rfl ?_
        refine gf_X7_20 hC dX7_gather_128 ?_
        refine q_iload hC 3 dX7_gather_131 rfl ?_
        have g17 := (gd_e hx).1
        have hx := (gd_e hx).2
        refine q_aald (t0 := 4) hC (gV_t (by decide) (by decide)) rfl rfl rfl g17 (grow_i g17) dX7_gather_133 ?_
        refine q_iload hC 4 dX7_gather_134 rfl ?_
        refine q_aload_n hC 1 dX7_gather_136 rfl rfl ?_
        refine q_aload_n hC 0 dX7_gather_137 rfl rfl ?_
        refine gf_X7_9 hC dX7_gather_138 ?_
        refine q_iload hC 3 dX7_gather_141 rfl ?_
        have g18 := (gd_e hx).1
        have hx := (gd_e hx).2
        refine q_iald hC 6 (gV_t (by decide) (by decide)) rfl g18 dX7_gather_143 ?_
        refine q_aload_n hC 0 dX7_gather_144 rfl rfl ?_
        refine gf_X7_9 hC dX7_gather_145 ?_
        refine q_iload hC 4 dX7_gather_148 rfl ?_
        have g19 := (gd_e hx).1
        have hx := (gd_e hx).2
        refine q_iald hC 6 (gV_t (by decide) (by decide)) rfl g19 dX7_gather_150 ?_
        refine q_iload_n hC 2 dX7_gather_151 rfl rfl ?_
        obtain ⟨v20, q21, hx⟩ := gb_e hx
        refine q_kip (q_rS (As := [.ref (gad Y d 0), .int ((gwr N 0 40 (a4).toNatClampNeg ((N.1 0 40 (a4).toNatClampNeg) ||| (1 <<< (b5 &&& 31)))).1 0 39 (a4).toNatClampNeg), .int ((gwr N 0 40 (a4).toNatClampNeg ((N.1 0 40 (a4).toNatClampNeg) ||| (1 <<< (b5 &&& 31)))).1 0 39 (b5).toNatClampNeg), .int a3]) (rest := [.int b5, .ref (gad Y 0 (42 + (a4).toNatClampNeg))]) hC mm_X7_costOf wM_X7_39 (c_X7_costOf hd q21) ⟨rfl, rfl, Nat.le_of_ble_eq_true rfl, Nat.le_of_ble_eq_true rfl⟩ rfl rfl (Nat.le_of_ble_eq_true rfl) dX7_gather_152) ?_
        have g22 := (gd_e hx).1
        have hx := (gd_e hx).2
        refine q_iast hC 6 (gV_tr 7 g17 (by decide) (by decide)) (gl_of (by decide) g17) g22 dX7_gather_155 ?_
        exact q_sub [0, 1, 2, 3, 4] rfl (J156 (gwr (gwr N 0 40 (a4).toNatClampNeg ((N.1 0 40 (a4).toNatClampNeg) ||| (1 <<< (b5 &&& 31)))) 0 (42 + (a4).toNatClampNeg) (b5).toNatClampNeg v20) b5 hx)
set_option maxRecDepth 100000 in
set_option maxHeartbeats 4000000 in
theorem w_X7_gather_56 {X : gX} {Y : gY} {d : Nat} {a3 : Int32} {r : gMem} (hC : gC X Y cX7_gather "GuestStaff$Rows" 6 6 133) (hF : gF X Y none (gQv Y r)) (hd : d < 4) {e : (Int32 × gMem)} (kE : ∀ s : (Int32 × gMem), e = s → gWW X Y 6 168 [] [] s.2) : ∀ (F : Nat) (s : (Int32 × gMem)), itr F (fun s => s_X7_gather_56 d a3 s.1 s.2) s = some e → gWW X Y 6 56 [(0, .ref (gad Y 0 38)), (1, .ref (gad Y d 0)), (3, .int a3), (4, .int s.1)] [] s.2 := by
  intro F s
  refine itr_w (P := fun s => gWW X Y 6 56 [(0, .ref (gad Y 0 38)), (1, .ref (gad Y d 0)), (3, .int a3), (4, .int s.1)] [] s.2) (fun s o hx kI kx => ?_) F s
  obtain ⟨b4, N⟩ := s
  have hx : s_X7_gather_56 d a3 b4 N = some o := hx
  have kE : ∀ s : (Int32 × gMem), o = .inr s → gWW X Y 6 168 [] [] s.2 := fun s q => kE s (kx _ q).symm
  unfold s_X7_gather_56 at hx
  refine q_iload hC 3 dX7_gather_56 rfl ?_
  refine q_aload_n hC 0 dX7_gather_58 rfl rfl ?_
  refine gf_X7_26 hC dX7_gather_59 ?_
  refine q_ic_ge hC 168 dX7_gather_62 rfl (fun h5 => ?_) (fun h5 => ?_)
  · have hx := gi_p h5 hx
    exact q_sub [] rfl (kE (b4, N) (Option.some.inj hx).symm)
  · have hx := gi_n h5 hx
    refine q_aload_n hC 0 dX7_gather_65 rfl rfl ?_
    refine gf_X7_15 hC dX7_gather_66 ?_
    refine q_iload hC 3 dX7_gather_69 rfl ?_
    refine q_iconst hC 0 dX7_gather_71 rfl ?_
    have g6 := (gd_e hx).1
    have hx := (gd_e hx).2
    refine q_iast hC 6 (gV_t (by decide) (by decide)) rfl g6 dX7_gather_72 ?_
    refine q_iconst hC 0 dX7_gather_73 rfl ?_
    refine q_istore hC [(5, .int 0), (0, .ref (gad Y 0 38)), (1, .ref (gad Y d 0)), (3, .int a3), (4, .int b4)] dX7_gather_74 (by decide) rfl ?_
    obtain ⟨e23, qe23, hx⟩ := gb_e hx
    refine q_sub [1, 2, 3, 4, 0] rfl (w_X7_gather_76 hC hF hd (e := e23) (fun s q => ?_) _ _ qe23)
    · subst q
      refine q_iinc hC 3 1 [(4, .int (b4 + 1)), (0, .ref (gad Y 0 38)), (1, .ref (gad Y d 0)), (3, .int a3)] dX7_gather_162 rfl rfl (by decide) rfl ?_
      refine q_goto hC 56 dX7_gather_165 rfl ?_
      exact q_sub [1, 2, 3, 0] rfl (kI (b4 + 1, e23.2) (Option.some.inj hx).symm)
set_option maxRecDepth 100000 in
set_option maxHeartbeats 4000000 in
theorem c_X7_gather {l : Launch} {Y : gY} {M : gMem} {d : Nat} {p2 : Int32} {p3 : Int32} {r : gMem} (hd : d < 4) (hx : x_X7_gather M d p2 p3 = some r) : Met l yX7_gather (gws yX7_gather cX7_gather 6 none) { frames := 6, cells := 0, slots := 0, locals := 133 } (va_Pc [.ref (gad Y 0 38), .ref (gad Y d 0), .int p2, .int p3] (gS0 Y M)) (gQv Y r) 0 0 (gA Y) := by
  refine gmet (lv := [(0, .ref (gad Y 0 38)), (1, .ref (gad Y d 0)), (2, .int p2), (3, .int p3)]) "GuestStaff$Rows" (by decide) rfl (Nat.le_of_ble_eq_true rfl) rfl (fun X hC hF => ?_)
  unfold x_X7_gather at hx
  refine q_aload_n hC 0 dX7_gather_0 rfl rfl ?_
  refine q_iconst hC 0 dX7_gather_1 rfl ?_
  refine pf_X7_26 hC dX7_gather_2 ?_
  refine q_iconst hC 0 dX7_gather_5 rfl ?_
  refine q_istore hC [(4, .int 0), (0, .ref (gad Y 0 38)), (1, .ref (gad Y d 0)), (2, .int p2), (3, .int p3)] dX7_gather_6 (by decide) rfl ?_
  obtain ⟨e4, qe4, hx⟩ := gb_e hx
  refine q_sub [1, 2, 3, 4, 0] rfl (w_X7_gather_8 hC hF hd (e := e4) (fun s q => ?_) _ _ qe4)
  · subst q
    refine q_iconst hC 0 dX7_gather_53 rfl ?_
    refine q_istore hC [(4, .int 0), (0, .ref (gad Y 0 38)), (1, .ref (gad Y d 0)), (3, .int p3)] dX7_gather_54 (by decide) rfl ?_
    obtain ⟨e24, qe24, hx⟩ := gb_e hx
    refine q_sub [1, 2, 3, 0] rfl (w_X7_gather_56 hC hF hd (e := e24) (fun s q => ?_) _ _ qe24)
    · subst q
      exact q_vret hC hF dX7_gather_168 (Option.some.inj hx)

theorem dX7_isOpen_0 : decode cX7_isOpen 0 = .ok (.iload_n 1, 1) := by decide +kernel
theorem dX7_isOpen_1 : decode cX7_isOpen 1 = .ok (.invokestatic 53, 3) := by decide +kernel
theorem dX7_isOpen_4 : decode cX7_isOpen 4 = .ok (.istore_n 3, 1) := by decide +kernel
theorem dX7_isOpen_5 : decode cX7_isOpen 5 = .ok (.iload_n 3, 1) := by decide +kernel
theorem dX7_isOpen_6 : decode cX7_isOpen 6 = .ok (.aload_n 0, 1) := by decide +kernel
theorem dX7_isOpen_7 : decode cX7_isOpen 7 = .ok (.getfield 26, 3) := by decide +kernel
theorem dX7_isOpen_10 : decode cX7_isOpen 10 = .ok (.if_icmp .ge 24, 3) := by decide +kernel
theorem dX7_isOpen_13 : decode cX7_isOpen 13 = .ok (.aload_n 0, 1) := by decide +kernel
theorem dX7_isOpen_14 : decode cX7_isOpen 14 = .ok (.getfield 15, 3) := by decide +kernel
theorem dX7_isOpen_17 : decode cX7_isOpen 17 = .ok (.iload_n 3, 1) := by decide +kernel
theorem dX7_isOpen_18 : decode cX7_isOpen 18 = .ok (.iaload, 1) := by decide +kernel
theorem dX7_isOpen_19 : decode cX7_isOpen 19 = .ok (.iload_n 1, 1) := by decide +kernel
theorem dX7_isOpen_20 : decode cX7_isOpen 20 = .ok (.iconst (-1), 1) := by decide +kernel
theorem dX7_isOpen_21 : decode cX7_isOpen 21 = .ok (.ixor, 1) := by decide +kernel
theorem dX7_isOpen_22 : decode cX7_isOpen 22 = .ok (.iand, 1) := by decide +kernel
theorem dX7_isOpen_23 : decode cX7_isOpen 23 = .ok (.iload_n 2, 1) := by decide +kernel
theorem dX7_isOpen_24 : decode cX7_isOpen 24 = .ok (.ishr, 1) := by decide +kernel
theorem dX7_isOpen_25 : decode cX7_isOpen 25 = .ok (.iconst 1, 1) := by decide +kernel
theorem dX7_isOpen_26 : decode cX7_isOpen 26 = .ok (.iand, 1) := by decide +kernel
theorem dX7_isOpen_27 : decode cX7_isOpen 27 = .ok (.ifCond .eq 7, 3) := by decide +kernel
theorem dX7_isOpen_30 : decode cX7_isOpen 30 = .ok (.iconst 1, 1) := by decide +kernel
theorem dX7_isOpen_31 : decode cX7_isOpen 31 = .ok (.goto 4, 3) := by decide +kernel
theorem dX7_isOpen_34 : decode cX7_isOpen 34 = .ok (.iconst 0, 1) := by decide +kernel
theorem dX7_isOpen_35 : decode cX7_isOpen 35 = .ok (.ireturn, 1) := by decide +kernel
def x_X7_isOpen (M : gMem) (p1 : Int32) (p2 : Int32) : Option Int32 := Option.bind (x_J6_bitCount_0f7a4 p1) (fun v1 => (if (M.1 0 38 4) ≤ v1 then some 0 else gd (gin v1 7) ((if ((((M.1 0 40 (v1).toNatClampNeg) &&& (p1 ^^^ (-1))) >>> (p2 &&& 31)) &&& 1) = 0 then some 0 else some 1))))
set_option maxRecDepth 100000 in
set_option maxHeartbeats 4000000 in
theorem c_X7_isOpen {l : Launch} {Y : gY} {M : gMem} {p1 : Int32} {p2 : Int32} {r : Int32} (hx : x_X7_isOpen M p1 p2 = some r) : Met l yX7_isOpen (gws yX7_isOpen cX7_isOpen 4 (some .boolean)) { frames := 1, cells := 0, slots := 0, locals := 20 } (va_Pc [.ref (gad Y 0 38), .int p1, .int p2] (gS0 Y M)) (gQz Y (r, M)) 0 0 (gA Y) := by
  refine gmet (lv := [(0, .ref (gad Y 0 38)), (1, .int p1), (2, .int p2)]) "GuestStaff$Rows" (by decide) rfl (Nat.le_of_ble_eq_true rfl) rfl (fun X hC hF => ?_)
  unfold x_X7_isOpen at hx
  refine q_iload_n hC 1 dX7_isOpen_0 rfl rfl ?_
  obtain ⟨v1, q2, hx⟩ := gb_e hx
  refine q_kip (q_rS (As := [.int p1]) (rest := []) hC mm_J6_bitCount_0f7a4 wM_X7_53 (c_J6_bitCount_0f7a4 q2) ⟨rfl, rfl, Nat.le_of_ble_eq_true rfl, Nat.le_of_ble_eq_true rfl⟩ rfl rfl (Nat.le_of_ble_eq_true rfl) dX7_isOpen_1) ?_
  refine q_istore_n hC [(3, .int v1), (0, .ref (gad Y 0 38)), (1, .int p1), (2, .int p2)] dX7_isOpen_4 rfl (by decide) rfl ?_
  refine q_iload_n hC 0 dX7_isOpen_5 rfl rfl ?_
  refine q_aload_n hC 1 dX7_isOpen_6 rfl rfl ?_
  refine gf_X7_26 hC dX7_isOpen_7 ?_
  refine q_ic_ge hC 34 dX7_isOpen_10 rfl (fun h3 => ?_) (fun h3 => ?_)
  · have hx := gi_p h3 hx
    refine q_iconst hC 0 dX7_isOpen_34 rfl ?_
    exact q_zret hC hF dX7_isOpen_35 (Or.inl rfl) (congrArg (fun z => (z, M)) (Option.some.inj hx))
  · have hx := gi_n h3 hx
    refine q_aload_n hC 1 dX7_isOpen_13 rfl rfl ?_
    refine gf_X7_15 hC dX7_isOpen_14 ?_
    refine q_iload_n hC 0 dX7_isOpen_17 rfl rfl ?_
    have g4 := (gd_e hx).1
    have hx := (gd_e hx).2
    refine q_iald hC 6 (gV_t (by decide) (by decide)) rfl g4 dX7_isOpen_18 ?_
    refine q_iload_n hC 2 dX7_isOpen_19 rfl rfl ?_
    refine q_iconst hC (-1) dX7_isOpen_20 rfl ?_
    refine q_ixor hC dX7_isOpen_21 ?_
    refine q_iand hC dX7_isOpen_22 ?_
    refine q_iload_n hC 3 dX7_isOpen_23 rfl rfl ?_
    refine q_ishr hC dX7_isOpen_24 ?_
    refine q_iconst hC 1 dX7_isOpen_25 rfl ?_
    refine q_iand hC dX7_isOpen_26 ?_
    refine q_if_eq hC 34 dX7_isOpen_27 rfl (fun h5 => ?_) (fun h5 => ?_)
    · have hx := gi_p h5 hx
      refine q_iconst hC 0 dX7_isOpen_34 rfl ?_
      exact q_zret hC hF dX7_isOpen_35 (Or.inl rfl) (congrArg (fun z => (z, M)) (Option.some.inj hx))
    · have hx := gi_n h5 hx
      refine q_iconst hC 1 dX7_isOpen_30 rfl ?_
      refine q_goto hC 35 dX7_isOpen_31 rfl ?_
      exact q_zret hC hF dX7_isOpen_35 (Or.inr rfl) (congrArg (fun z => (z, M)) (Option.some.inj hx))

theorem dX7_ways_0 : decode cX7_ways 0 = .ok (.iconst 1, 1) := by decide +kernel
theorem dX7_ways_1 : decode cX7_ways 1 = .ok (.aload_n 0, 1) := by decide +kernel
theorem dX7_ways_2 : decode cX7_ways 2 = .ok (.getfield 26, 3) := by decide +kernel
theorem dX7_ways_5 : decode cX7_ways 5 = .ok (.ishl, 1) := by decide +kernel
theorem dX7_ways_6 : decode cX7_ways 6 = .ok (.iconst 1, 1) := by decide +kernel
theorem dX7_ways_7 : decode cX7_ways 7 = .ok (.isub, 1) := by decide +kernel
theorem dX7_ways_8 : decode cX7_ways 8 = .ok (.istore_n 1, 1) := by decide +kernel
theorem dX7_ways_9 : decode cX7_ways 9 = .ok (.aload_n 0, 1) := by decide +kernel
theorem dX7_ways_10 : decode cX7_ways 10 = .ok (.getfield 23, 3) := by decide +kernel
theorem dX7_ways_13 : decode cX7_ways 13 = .ok (.iload_n 1, 1) := by decide +kernel
theorem dX7_ways_14 : decode cX7_ways 14 = .ok (.iconst 1, 1) := by decide +kernel
theorem dX7_ways_15 : decode cX7_ways 15 = .ok (.iastore, 1) := by decide +kernel
theorem dX7_ways_16 : decode cX7_ways 16 = .ok (.iload_n 1, 1) := by decide +kernel
theorem dX7_ways_17 : decode cX7_ways 17 = .ok (.iconst 1, 1) := by decide +kernel
theorem dX7_ways_18 : decode cX7_ways 18 = .ok (.isub, 1) := by decide +kernel
theorem dX7_ways_19 : decode cX7_ways 19 = .ok (.istore_n 2, 1) := by decide +kernel
theorem dX7_ways_20 : decode cX7_ways 20 = .ok (.iload_n 2, 1) := by decide +kernel
theorem dX7_ways_21 : decode cX7_ways 21 = .ok (.ifCond .lt 60, 3) := by decide +kernel
theorem dX7_ways_24 : decode cX7_ways 24 = .ok (.iconst 0, 1) := by decide +kernel
theorem dX7_ways_25 : decode cX7_ways 25 = .ok (.istore_n 3, 1) := by decide +kernel
theorem dX7_ways_26 : decode cX7_ways 26 = .ok (.iconst 0, 1) := by decide +kernel
theorem dX7_ways_27 : decode cX7_ways 27 = .ok (.istore 4, 2) := by decide +kernel
theorem dX7_ways_29 : decode cX7_ways 29 = .ok (.iload 4, 2) := by decide +kernel
theorem dX7_ways_31 : decode cX7_ways 31 = .ok (.aload_n 0, 1) := by decide +kernel
theorem dX7_ways_32 : decode cX7_ways 32 = .ok (.getfield 26, 3) := by decide +kernel
theorem dX7_ways_35 : decode cX7_ways 35 = .ok (.if_icmp .ge 33, 3) := by decide +kernel
theorem dX7_ways_38 : decode cX7_ways 38 = .ok (.aload_n 0, 1) := by decide +kernel
theorem dX7_ways_39 : decode cX7_ways 39 = .ok (.iload_n 2, 1) := by decide +kernel
theorem dX7_ways_40 : decode cX7_ways 40 = .ok (.iload 4, 2) := by decide +kernel
theorem dX7_ways_42 : decode cX7_ways 42 = .ok (.invokevirtual 59, 3) := by decide +kernel
theorem dX7_ways_45 : decode cX7_ways 45 = .ok (.ifCond .eq 17, 3) := by decide +kernel
theorem dX7_ways_48 : decode cX7_ways 48 = .ok (.iload_n 3, 1) := by decide +kernel
theorem dX7_ways_49 : decode cX7_ways 49 = .ok (.aload_n 0, 1) := by decide +kernel
theorem dX7_ways_50 : decode cX7_ways 50 = .ok (.getfield 23, 3) := by decide +kernel
theorem dX7_ways_53 : decode cX7_ways 53 = .ok (.iload_n 2, 1) := by decide +kernel
theorem dX7_ways_54 : decode cX7_ways 54 = .ok (.iconst 1, 1) := by decide +kernel
theorem dX7_ways_55 : decode cX7_ways 55 = .ok (.iload 4, 2) := by decide +kernel
theorem dX7_ways_57 : decode cX7_ways 57 = .ok (.ishl, 1) := by decide +kernel
theorem dX7_ways_58 : decode cX7_ways 58 = .ok (.ior, 1) := by decide +kernel
theorem dX7_ways_59 : decode cX7_ways 59 = .ok (.iaload, 1) := by decide +kernel
theorem dX7_ways_60 : decode cX7_ways 60 = .ok (.iadd, 1) := by decide +kernel
theorem dX7_ways_61 : decode cX7_ways 61 = .ok (.istore_n 3, 1) := by decide +kernel
theorem dX7_ways_62 : decode cX7_ways 62 = .ok (.iinc 4 1, 3) := by decide +kernel
theorem dX7_ways_65 : decode cX7_ways 65 = .ok (.goto (-36), 3) := by decide +kernel
theorem dX7_ways_68 : decode cX7_ways 68 = .ok (.aload_n 0, 1) := by decide +kernel
theorem dX7_ways_69 : decode cX7_ways 69 = .ok (.getfield 23, 3) := by decide +kernel
theorem dX7_ways_72 : decode cX7_ways 72 = .ok (.iload_n 2, 1) := by decide +kernel
theorem dX7_ways_73 : decode cX7_ways 73 = .ok (.iload_n 3, 1) := by decide +kernel
theorem dX7_ways_74 : decode cX7_ways 74 = .ok (.iastore, 1) := by decide +kernel
theorem dX7_ways_75 : decode cX7_ways 75 = .ok (.iinc 2 (-1), 3) := by decide +kernel
theorem dX7_ways_78 : decode cX7_ways 78 = .ok (.goto (-58), 3) := by decide +kernel
theorem dX7_ways_81 : decode cX7_ways 81 = .ok (.aload_n 0, 1) := by decide +kernel
theorem dX7_ways_82 : decode cX7_ways 82 = .ok (.getfield 23, 3) := by decide +kernel
theorem dX7_ways_85 : decode cX7_ways 85 = .ok (.iconst 0, 1) := by decide +kernel
theorem dX7_ways_86 : decode cX7_ways 86 = .ok (.iaload, 1) := by decide +kernel
theorem dX7_ways_87 : decode cX7_ways 87 = .ok (.ireturn, 1) := by decide +kernel
def j_X7_ways_29_62 (M : gMem) (a2 : Int32) (b3 : Int32) (b4 : Int32) : Option ((Int32 × Int32) ⊕ (Int32 × Int32)) := some (.inl (b3, b4 + 1))
def s_X7_ways_29 (M : gMem) (a2 : Int32) (b3 : Int32) (b4 : Int32) : Option ((Int32 × Int32) ⊕ (Int32 × Int32)) := (if (M.1 0 38 4) ≤ b4 then some (.inr (b3, b4)) else Option.bind (x_X7_isOpen M a2 b4) (fun v4 => (if v4 = 0 then j_X7_ways_29_62 M a2 b3 b4 else gd (gin (a2 ||| (1 <<< (b4 &&& 31))) 128) (j_X7_ways_29_62 M a2 (b3 + (M.1 0 49 (a2 ||| (1 <<< (b4 &&& 31))).toNatClampNeg)) b4))))
def s_X7_ways_20 (b2 : Int32) (N : gMem) : Option ((Int32 × gMem) ⊕ (Int32 × gMem)) := (if b2 < 0 then some (.inr (b2, N)) else Option.bind (itr FU (fun s => s_X7_ways_29 N b2 s.1 s.2) (0, 0)) (fun e9 => gd (gin b2 128) (some (.inl (b2 + (-1), gwr N 0 49 (b2).toNatClampNeg e9.1)))))
def x_X7_ways (M : gMem) : Option (Int32 × gMem) := gd (gin ((1 <<< ((M.1 0 38 4) &&& 31)) - 1) 128) (Option.bind (itr FU (fun s => s_X7_ways_20 s.1 s.2) (((1 <<< ((M.1 0 38 4) &&& 31)) - 1) - 1, gwr M 0 49 ((1 <<< ((M.1 0 38 4) &&& 31)) - 1).toNatClampNeg 1)) (fun e11 => some (e11.2.1 0 49 0, e11.2)))
set_option maxRecDepth 100000 in
set_option maxHeartbeats 4000000 in
theorem w_X7_ways_29 {X : gX} {Y : gY} {M : gMem} {a2 : Int32} {r : (Int32 × gMem)} (hC : gC X Y cX7_ways "GuestStaff$Rows" 5 2 43) (hF : gF X Y (some .int) (gQi Y r)) {e : (Int32 × Int32)} (kE : ∀ s : (Int32 × Int32), e = s → gWW X Y 5 68 [(0, .ref (gad Y 0 38)), (2, .int a2), (3, .int s.1)] [] M) : ∀ (F : Nat) (s : (Int32 × Int32)), itr F (fun s => s_X7_ways_29 M a2 s.1 s.2) s = some e → gWW X Y 5 29 [(0, .ref (gad Y 0 38)), (2, .int a2), (3, .int s.1), (4, .int s.2)] [] M := by
  intro F s
  refine itr_w (P := fun s => gWW X Y 5 29 [(0, .ref (gad Y 0 38)), (2, .int a2), (3, .int s.1), (4, .int s.2)] [] M) (fun s o hx kI kx => ?_) F s
  obtain ⟨b3, b4⟩ := s
  have hx : s_X7_ways_29 M a2 b3 b4 = some o := hx
  have kE : ∀ s : (Int32 × Int32), o = .inr s → gWW X Y 5 68 [(0, .ref (gad Y 0 38)), (2, .int a2), (3, .int s.1)] [] M := fun s q => kE s (kx _ q).symm
  have J62 : ∀ (b3 : Int32) (b4 : Int32) , j_X7_ways_29_62 M a2 b3 b4 = some o → gWW X Y 5 62 [(0, .ref (gad Y 0 38)), (2, .int a2), (3, .int b3), (4, .int b4)] [] M := by
    intro b3 b4 hx
    unfold j_X7_ways_29_62 at hx
    refine q_iinc hC 3 1 [(4, .int (b4 + 1)), (0, .ref (gad Y 0 38)), (2, .int a2), (3, .int b3)] dX7_ways_62 rfl rfl (by decide) rfl ?_
    refine q_goto hC 29 dX7_ways_65 rfl ?_
    exact q_sub [1, 2, 3, 0] rfl (kI (b3, b4 + 1) (Option.some.inj hx).symm)
  unfold s_X7_ways_29 at hx
  refine q_iload hC 3 dX7_ways_29 rfl ?_
  refine q_aload_n hC 0 dX7_ways_31 rfl rfl ?_
  refine gf_X7_26 hC dX7_ways_32 ?_
  refine q_ic_ge hC 68 dX7_ways_35 rfl (fun h3 => ?_) (fun h3 => ?_)
  · have hx := gi_p h3 hx
    exact q_sub [0, 1, 2] rfl (kE (b3, b4) (Option.some.inj hx).symm)
  · have hx := gi_n h3 hx
    refine q_aload_n hC 0 dX7_ways_38 rfl rfl ?_
    refine q_iload_n hC 1 dX7_ways_39 rfl rfl ?_
    refine q_iload hC 3 dX7_ways_40 rfl ?_
    obtain ⟨v4, q5, hx⟩ := gb_e hx
    refine q_kzp (q_rV (As := [.int a2, .int b4]) (rest := []) hC mm_X7_isOpen wM_X7_59 (c_X7_isOpen q5) ⟨rfl, rfl, Nat.le_of_ble_eq_true rfl, Nat.le_of_ble_eq_true rfl⟩ (gV_t (by decide) (by decide)) rfl rfl rfl rfl (Nat.le_of_ble_eq_true rfl) dX7_ways_42) (fun z6 => ?_)
    refine q_if_eq hC 62 dX7_ways_45 rfl (fun h7 => ?_) (fun h7 => ?_)
    · have hx := gi_p h7 hx
      exact q_sub [0, 1, 2, 3] rfl (J62 b3 b4 hx)
    · have hx := gi_n h7 hx
      refine q_iload_n hC 2 dX7_ways_48 rfl rfl ?_
      refine q_aload_n hC 0 dX7_ways_49 rfl rfl ?_
      refine gf_X7_23 hC dX7_ways_50 ?_
      refine q_iload_n hC 1 dX7_ways_53 rfl rfl ?_
      refine q_iconst hC 1 dX7_ways_54 rfl ?_
      refine q_iload hC 3 dX7_ways_55 rfl ?_
      refine q_ishl hC dX7_ways_57 ?_
      refine q_ior hC dX7_ways_58 ?_
      have g8 := (gd_e hx).1
      have hx := (gd_e hx).2
      refine q_iald hC 127 (gV_t (by decide) (by decide)) rfl g8 dX7_ways_59 ?_
      refine q_iadd hC dX7_ways_60 ?_
      refine q_istore_n hC [(3, .int (b3 + (M.1 0 49 (a2 ||| (1 <<< (b4 &&& 31))).toNatClampNeg))), (0, .ref (gad Y 0 38)), (2, .int a2), (4, .int b4)] dX7_ways_61 rfl (by decide) rfl ?_
      exact q_sub [1, 2, 0, 3] rfl (J62 (b3 + (M.1 0 49 (a2 ||| (1 <<< (b4 &&& 31))).toNatClampNeg)) b4 hx)
set_option maxRecDepth 100000 in
set_option maxHeartbeats 4000000 in
theorem w_X7_ways_20 {X : gX} {Y : gY} {r : (Int32 × gMem)} (hC : gC X Y cX7_ways "GuestStaff$Rows" 5 2 43) (hF : gF X Y (some .int) (gQi Y r)) {e : (Int32 × gMem)} (kE : ∀ s : (Int32 × gMem), e = s → gWW X Y 5 81 [(0, .ref (gad Y 0 38))] [] s.2) : ∀ (F : Nat) (s : (Int32 × gMem)), itr F (fun s => s_X7_ways_20 s.1 s.2) s = some e → gWW X Y 5 20 [(0, .ref (gad Y 0 38)), (2, .int s.1)] [] s.2 := by
  intro F s
  refine itr_w (P := fun s => gWW X Y 5 20 [(0, .ref (gad Y 0 38)), (2, .int s.1)] [] s.2) (fun s o hx kI kx => ?_) F s
  obtain ⟨b2, N⟩ := s
  have hx : s_X7_ways_20 b2 N = some o := hx
  have kE : ∀ s : (Int32 × gMem), o = .inr s → gWW X Y 5 81 [(0, .ref (gad Y 0 38))] [] s.2 := fun s q => kE s (kx _ q).symm
  unfold s_X7_ways_20 at hx
  refine q_iload_n hC 1 dX7_ways_20 rfl rfl ?_
  refine q_if_lt hC 81 dX7_ways_21 rfl (fun h2 => ?_) (fun h2 => ?_)
  · have hx := gi_p h2 hx
    exact q_sub [0] rfl (kE (b2, N) (Option.some.inj hx).symm)
  · have hx := gi_n h2 hx
    refine q_iconst hC 0 dX7_ways_24 rfl ?_
    refine q_istore_n hC [(3, .int 0), (0, .ref (gad Y 0 38)), (2, .int b2)] dX7_ways_25 rfl (by decide) rfl ?_
    refine q_iconst hC 0 dX7_ways_26 rfl ?_
    refine q_istore hC [(4, .int 0), (3, .int 0), (0, .ref (gad Y 0 38)), (2, .int b2)] dX7_ways_27 (by decide) rfl ?_
    obtain ⟨e9, qe9, hx⟩ := gb_e hx
    refine q_sub [2, 3, 1, 0] rfl (w_X7_ways_29 hC hF (e := e9) (fun s q => ?_) _ _ qe9)
    · subst q
      refine q_aload_n hC 0 dX7_ways_68 rfl rfl ?_
      refine gf_X7_23 hC dX7_ways_69 ?_
      refine q_iload_n hC 1 dX7_ways_72 rfl rfl ?_
      refine q_iload_n hC 2 dX7_ways_73 rfl rfl ?_
      have g10 := (gd_e hx).1
      have hx := (gd_e hx).2
      refine q_iast hC 127 (gV_t (by decide) (by decide)) rfl g10 dX7_ways_74 ?_
      refine q_iinc hC 1 (-1) [(2, .int (b2 + (-1))), (0, .ref (gad Y 0 38)), (3, .int e9.1)] dX7_ways_75 rfl rfl (by decide) rfl ?_
      refine q_goto hC 20 dX7_ways_78 rfl ?_
      exact q_sub [1, 0] rfl (kI (b2 + (-1), gwr N 0 49 (b2).toNatClampNeg e9.1) (Option.some.inj hx).symm)
set_option maxRecDepth 100000 in
set_option maxHeartbeats 4000000 in
theorem c_X7_ways {l : Launch} {Y : gY} {M : gMem} {r : (Int32 × gMem)} (hx : x_X7_ways M = some r) : Met l yX7_ways (gws yX7_ways cX7_ways 5 (some .int)) { frames := 2, cells := 0, slots := 0, locals := 43 } (va_Pc [.ref (gad Y 0 38)] (gS0 Y M)) (gQi Y r) 0 0 (gA Y) := by
  refine gmet (lv := [(0, .ref (gad Y 0 38))]) "GuestStaff$Rows" (by decide) rfl (Nat.le_of_ble_eq_true rfl) rfl (fun X hC hF => ?_)
  unfold x_X7_ways at hx
  refine q_iconst hC 1 dX7_ways_0 rfl ?_
  refine q_aload_n hC 0 dX7_ways_1 rfl rfl ?_
  refine gf_X7_26 hC dX7_ways_2 ?_
  refine q_ishl hC dX7_ways_5 ?_
  refine q_iconst hC 1 dX7_ways_6 rfl ?_
  refine q_isub hC dX7_ways_7 ?_
  refine q_istore_n hC [(1, .int ((1 <<< ((M.1 0 38 4) &&& 31)) - 1)), (0, .ref (gad Y 0 38))] dX7_ways_8 rfl (by decide) rfl ?_
  refine q_aload_n hC 1 dX7_ways_9 rfl rfl ?_
  refine gf_X7_23 hC dX7_ways_10 ?_
  refine q_iload_n hC 0 dX7_ways_13 rfl rfl ?_
  refine q_iconst hC 1 dX7_ways_14 rfl ?_
  have g1 := (gd_e hx).1
  have hx := (gd_e hx).2
  refine q_iast hC 127 (gV_t (by decide) (by decide)) rfl g1 dX7_ways_15 ?_
  refine q_iload_n hC 0 dX7_ways_16 rfl rfl ?_
  refine q_iconst hC 1 dX7_ways_17 rfl ?_
  refine q_isub hC dX7_ways_18 ?_
  refine q_istore_n hC [(2, .int (((1 <<< ((M.1 0 38 4) &&& 31)) - 1) - 1)), (1, .int ((1 <<< ((M.1 0 38 4) &&& 31)) - 1)), (0, .ref (gad Y 0 38))] dX7_ways_19 rfl (by decide) rfl ?_
  obtain ⟨e11, qe11, hx⟩ := gb_e hx
  refine q_sub [2, 0] rfl (w_X7_ways_20 hC hF (e := e11) (fun s q => ?_) _ _ qe11)
  · subst q
    refine q_aload_n hC 0 dX7_ways_81 rfl rfl ?_
    refine gf_X7_23 hC dX7_ways_82 ?_
    refine q_iconst hC 0 dX7_ways_85 rfl ?_
    refine q_ialdk hC 0 127 (gV_t (by decide) (by decide)) rfl (by decide) rfl dX7_ways_86 ?_
    exact q_iret hC hF dX7_ways_87 (Option.some.inj hx)

theorem dX7_costThrough_0 : decode cX7_costThrough 0 = .ok (.aload_n 0, 1) := by decide +kernel
theorem dX7_costThrough_1 : decode cX7_costThrough 1 = .ok (.getfield 23, 3) := by decide +kernel
theorem dX7_costThrough_4 : decode cX7_costThrough 4 = .ok (.iload_n 1, 1) := by decide +kernel
theorem dX7_costThrough_5 : decode cX7_costThrough 5 = .ok (.iconst 1, 1) := by decide +kernel
theorem dX7_costThrough_6 : decode cX7_costThrough 6 = .ok (.iload_n 2, 1) := by decide +kernel
theorem dX7_costThrough_7 : decode cX7_costThrough 7 = .ok (.ishl, 1) := by decide +kernel
theorem dX7_costThrough_8 : decode cX7_costThrough 8 = .ok (.ior, 1) := by decide +kernel
theorem dX7_costThrough_9 : decode cX7_costThrough 9 = .ok (.iaload, 1) := by decide +kernel
theorem dX7_costThrough_10 : decode cX7_costThrough 10 = .ok (.istore_n 3, 1) := by decide +kernel
theorem dX7_costThrough_11 : decode cX7_costThrough 11 = .ok (.iload_n 3, 1) := by decide +kernel
theorem dX7_costThrough_12 : decode cX7_costThrough 12 = .ok (.ldc 62, 2) := by decide +kernel
theorem dX7_costThrough_14 : decode cX7_costThrough 14 = .ok (.if_icmp .ne 8, 3) := by decide +kernel
theorem dX7_costThrough_17 : decode cX7_costThrough 17 = .ok (.ldc 62, 2) := by decide +kernel
theorem dX7_costThrough_19 : decode cX7_costThrough 19 = .ok (.goto 16, 3) := by decide +kernel
theorem dX7_costThrough_22 : decode cX7_costThrough 22 = .ok (.iload_n 3, 1) := by decide +kernel
theorem dX7_costThrough_23 : decode cX7_costThrough 23 = .ok (.aload_n 0, 1) := by decide +kernel
theorem dX7_costThrough_24 : decode cX7_costThrough 24 = .ok (.getfield 20, 3) := by decide +kernel
theorem dX7_costThrough_27 : decode cX7_costThrough 27 = .ok (.iload_n 1, 1) := by decide +kernel
theorem dX7_costThrough_28 : decode cX7_costThrough 28 = .ok (.invokestatic 53, 3) := by decide +kernel
theorem dX7_costThrough_31 : decode cX7_costThrough 31 = .ok (.aaload, 1) := by decide +kernel
theorem dX7_costThrough_32 : decode cX7_costThrough 32 = .ok (.iload_n 2, 1) := by decide +kernel
theorem dX7_costThrough_33 : decode cX7_costThrough 33 = .ok (.iaload, 1) := by decide +kernel
theorem dX7_costThrough_34 : decode cX7_costThrough 34 = .ok (.iadd, 1) := by decide +kernel
theorem dX7_costThrough_35 : decode cX7_costThrough 35 = .ok (.ireturn, 1) := by decide +kernel
def x_X7_costThrough (M : gMem) (p1 : Int32) (p2 : Int32) : Option Int32 := gd (gin (p1 ||| (1 <<< (p2 &&& 31))) 128) ((if (M.1 0 49 (p1 ||| (1 <<< (p2 &&& 31))).toNatClampNeg) = 1000000 then some 1000000 else Option.bind (x_J6_bitCount_0f7a4 p1) (fun v3 => gd (gin v3 7) (gd (gin p2 7) (some ((M.1 0 49 (p1 ||| (1 <<< (p2 &&& 31))).toNatClampNeg) + (M.1 0 (42 + (v3).toNatClampNeg) (p2).toNatClampNeg)))))))
set_option maxRecDepth 100000 in
set_option maxHeartbeats 4000000 in
theorem c_X7_costThrough {l : Launch} {Y : gY} {M : gMem} {p1 : Int32} {p2 : Int32} {r : Int32} (hx : x_X7_costThrough M p1 p2 = some r) : Met l yX7_costThrough (gws yX7_costThrough cX7_costThrough 4 (some .int)) { frames := 1, cells := 0, slots := 0, locals := 20 } (va_Pc [.ref (gad Y 0 38), .int p1, .int p2] (gS0 Y M)) (gQi Y (r, M)) 0 0 (gA Y) := by
  refine gmet (lv := [(0, .ref (gad Y 0 38)), (1, .int p1), (2, .int p2)]) "GuestStaff$Rows" (by decide) rfl (Nat.le_of_ble_eq_true rfl) rfl (fun X hC hF => ?_)
  unfold x_X7_costThrough at hx
  refine q_aload_n hC 0 dX7_costThrough_0 rfl rfl ?_
  refine gf_X7_23 hC dX7_costThrough_1 ?_
  refine q_iload_n hC 1 dX7_costThrough_4 rfl rfl ?_
  refine q_iconst hC 1 dX7_costThrough_5 rfl ?_
  refine q_iload_n hC 2 dX7_costThrough_6 rfl rfl ?_
  refine q_ishl hC dX7_costThrough_7 ?_
  refine q_ior hC dX7_costThrough_8 ?_
  have g1 := (gd_e hx).1
  have hx := (gd_e hx).2
  refine q_iald hC 127 (gV_t (by decide) (by decide)) rfl g1 dX7_costThrough_9 ?_
  refine q_istore_n hC [(3, .int (M.1 0 49 (p1 ||| (1 <<< (p2 &&& 31))).toNatClampNeg)), (0, .ref (gad Y 0 38)), (1, .int p1), (2, .int p2)] dX7_costThrough_10 rfl (by decide) rfl ?_
  refine q_iload_n hC 0 dX7_costThrough_11 rfl rfl ?_
  refine q_ldc hC 1000000 dX7_costThrough_12 wC_X7_62 ?_
  refine q_ic_ne hC 22 dX7_costThrough_14 rfl (fun h2 => ?_) (fun h2 => ?_)
  · have hx := gi_n h2 hx
    refine q_iload_n hC 0 dX7_costThrough_22 rfl rfl ?_
    refine q_aload_n hC 1 dX7_costThrough_23 rfl rfl ?_
    refine gf_X7_20 hC dX7_costThrough_24 ?_
    refine q_iload_n hC 2 dX7_costThrough_27 rfl rfl ?_
    obtain ⟨v3, q4, hx⟩ := gb_e hx
    refine q_kip (q_rS (As := [.int p1]) (rest := [.ref (gad Y 0 41), .int (M.1 0 49 (p1 ||| (1 <<< (p2 &&& 31))).toNatClampNeg)]) hC mm_J6_bitCount_0f7a4 wM_X7_53 (c_J6_bitCount_0f7a4 q4) ⟨rfl, rfl, Nat.le_of_ble_eq_true rfl, Nat.le_of_ble_eq_true rfl⟩ rfl rfl (Nat.le_of_ble_eq_true rfl) dX7_costThrough_28) ?_
    have g5 := (gd_e hx).1
    have hx := (gd_e hx).2
    refine q_aald (t0 := 4) hC (gV_t (by decide) (by decide)) rfl rfl rfl g5 (grow_i g5) dX7_costThrough_31 ?_
    refine q_iload_n hC 3 dX7_costThrough_32 rfl rfl ?_
    have g6 := (gd_e hx).1
    have hx := (gd_e hx).2
    refine q_iald hC 6 (gV_tr 7 g5 (by decide) (by decide)) (gl_of (by decide) g5) g6 dX7_costThrough_33 ?_
    refine q_iadd hC dX7_costThrough_34 ?_
    exact q_iret hC hF dX7_costThrough_35 (congrArg (fun z => (z, M)) (Option.some.inj hx))
  · have hx := gi_p h2 hx
    refine q_ldc hC 1000000 dX7_costThrough_17 wC_X7_62 ?_
    refine q_goto hC 35 dX7_costThrough_19 rfl ?_
    exact q_iret hC hF dX7_costThrough_35 (congrArg (fun z => (z, M)) (Option.some.inj hx))

theorem dX7_leastCost_0 : decode cX7_leastCost 0 = .ok (.iconst 1, 1) := by decide +kernel
theorem dX7_leastCost_1 : decode cX7_leastCost 1 = .ok (.aload_n 0, 1) := by decide +kernel
theorem dX7_leastCost_2 : decode cX7_leastCost 2 = .ok (.getfield 26, 3) := by decide +kernel
theorem dX7_leastCost_5 : decode cX7_leastCost 5 = .ok (.ishl, 1) := by decide +kernel
theorem dX7_leastCost_6 : decode cX7_leastCost 6 = .ok (.iconst 1, 1) := by decide +kernel
theorem dX7_leastCost_7 : decode cX7_leastCost 7 = .ok (.isub, 1) := by decide +kernel
theorem dX7_leastCost_8 : decode cX7_leastCost 8 = .ok (.istore_n 1, 1) := by decide +kernel
theorem dX7_leastCost_9 : decode cX7_leastCost 9 = .ok (.aload_n 0, 1) := by decide +kernel
theorem dX7_leastCost_10 : decode cX7_leastCost 10 = .ok (.getfield 23, 3) := by decide +kernel
theorem dX7_leastCost_13 : decode cX7_leastCost 13 = .ok (.iload_n 1, 1) := by decide +kernel
theorem dX7_leastCost_14 : decode cX7_leastCost 14 = .ok (.iconst 0, 1) := by decide +kernel
theorem dX7_leastCost_15 : decode cX7_leastCost 15 = .ok (.iastore, 1) := by decide +kernel
theorem dX7_leastCost_16 : decode cX7_leastCost 16 = .ok (.iload_n 1, 1) := by decide +kernel
theorem dX7_leastCost_17 : decode cX7_leastCost 17 = .ok (.iconst 1, 1) := by decide +kernel
theorem dX7_leastCost_18 : decode cX7_leastCost 18 = .ok (.isub, 1) := by decide +kernel
theorem dX7_leastCost_19 : decode cX7_leastCost 19 = .ok (.istore_n 2, 1) := by decide +kernel
theorem dX7_leastCost_20 : decode cX7_leastCost 20 = .ok (.iload_n 2, 1) := by decide +kernel
theorem dX7_leastCost_21 : decode cX7_leastCost 21 = .ok (.ifCond .lt 59, 3) := by decide +kernel
theorem dX7_leastCost_24 : decode cX7_leastCost 24 = .ok (.ldc 62, 2) := by decide +kernel
theorem dX7_leastCost_26 : decode cX7_leastCost 26 = .ok (.istore_n 3, 1) := by decide +kernel
theorem dX7_leastCost_27 : decode cX7_leastCost 27 = .ok (.iconst 0, 1) := by decide +kernel
theorem dX7_leastCost_28 : decode cX7_leastCost 28 = .ok (.istore 4, 2) := by decide +kernel
theorem dX7_leastCost_30 : decode cX7_leastCost 30 = .ok (.iload 4, 2) := by decide +kernel
theorem dX7_leastCost_32 : decode cX7_leastCost 32 = .ok (.aload_n 0, 1) := by decide +kernel
theorem dX7_leastCost_33 : decode cX7_leastCost 33 = .ok (.getfield 26, 3) := by decide +kernel
theorem dX7_leastCost_36 : decode cX7_leastCost 36 = .ok (.if_icmp .ge 31, 3) := by decide +kernel
theorem dX7_leastCost_39 : decode cX7_leastCost 39 = .ok (.aload_n 0, 1) := by decide +kernel
theorem dX7_leastCost_40 : decode cX7_leastCost 40 = .ok (.iload_n 2, 1) := by decide +kernel
theorem dX7_leastCost_41 : decode cX7_leastCost 41 = .ok (.iload 4, 2) := by decide +kernel
theorem dX7_leastCost_43 : decode cX7_leastCost 43 = .ok (.invokevirtual 59, 3) := by decide +kernel
theorem dX7_leastCost_46 : decode cX7_leastCost 46 = .ok (.ifCond .eq 15, 3) := by decide +kernel
theorem dX7_leastCost_49 : decode cX7_leastCost 49 = .ok (.iload_n 3, 1) := by decide +kernel
theorem dX7_leastCost_50 : decode cX7_leastCost 50 = .ok (.aload_n 0, 1) := by decide +kernel
theorem dX7_leastCost_51 : decode cX7_leastCost 51 = .ok (.iload_n 2, 1) := by decide +kernel
theorem dX7_leastCost_52 : decode cX7_leastCost 52 = .ok (.iload 4, 2) := by decide +kernel
theorem dX7_leastCost_54 : decode cX7_leastCost 54 = .ok (.invokevirtual 63, 3) := by decide +kernel
theorem dX7_leastCost_57 : decode cX7_leastCost 57 = .ok (.invokestatic 66, 3) := by decide +kernel
theorem dX7_leastCost_60 : decode cX7_leastCost 60 = .ok (.istore_n 3, 1) := by decide +kernel
theorem dX7_leastCost_61 : decode cX7_leastCost 61 = .ok (.iinc 4 1, 3) := by decide +kernel
theorem dX7_leastCost_64 : decode cX7_leastCost 64 = .ok (.goto (-34), 3) := by decide +kernel
theorem dX7_leastCost_67 : decode cX7_leastCost 67 = .ok (.aload_n 0, 1) := by decide +kernel
theorem dX7_leastCost_68 : decode cX7_leastCost 68 = .ok (.getfield 23, 3) := by decide +kernel
theorem dX7_leastCost_71 : decode cX7_leastCost 71 = .ok (.iload_n 2, 1) := by decide +kernel
theorem dX7_leastCost_72 : decode cX7_leastCost 72 = .ok (.iload_n 3, 1) := by decide +kernel
theorem dX7_leastCost_73 : decode cX7_leastCost 73 = .ok (.iastore, 1) := by decide +kernel
theorem dX7_leastCost_74 : decode cX7_leastCost 74 = .ok (.iinc 2 (-1), 3) := by decide +kernel
theorem dX7_leastCost_77 : decode cX7_leastCost 77 = .ok (.goto (-57), 3) := by decide +kernel
theorem dX7_leastCost_80 : decode cX7_leastCost 80 = .ok (.aload_n 0, 1) := by decide +kernel
theorem dX7_leastCost_81 : decode cX7_leastCost 81 = .ok (.getfield 23, 3) := by decide +kernel
theorem dX7_leastCost_84 : decode cX7_leastCost 84 = .ok (.iconst 0, 1) := by decide +kernel
theorem dX7_leastCost_85 : decode cX7_leastCost 85 = .ok (.iaload, 1) := by decide +kernel
theorem dX7_leastCost_86 : decode cX7_leastCost 86 = .ok (.ireturn, 1) := by decide +kernel
def j_X7_leastCost_30_61 (M : gMem) (a2 : Int32) (b3 : Int32) (b4 : Int32) : Option ((Int32 × Int32) ⊕ (Int32 × Int32)) := some (.inl (b3, b4 + 1))
def s_X7_leastCost_30 (M : gMem) (a2 : Int32) (b3 : Int32) (b4 : Int32) : Option ((Int32 × Int32) ⊕ (Int32 × Int32)) := (if (M.1 0 38 4) ≤ b4 then some (.inr (b3, b4)) else Option.bind (x_X7_isOpen M a2 b4) (fun v4 => (if v4 = 0 then j_X7_leastCost_30_61 M a2 b3 b4 else Option.bind (x_X7_costThrough M a2 b4) (fun v8 => j_X7_leastCost_30_61 M a2 (if v8 < b3 then v8 else b3) b4))))
def s_X7_leastCost_20 (b2 : Int32) (N : gMem) : Option ((Int32 × gMem) ⊕ (Int32 × gMem)) := (if b2 < 0 then some (.inr (b2, N)) else Option.bind (itr FU (fun s => s_X7_leastCost_30 N b2 s.1 s.2) (1000000, 0)) (fun e10 => gd (gin b2 128) (some (.inl (b2 + (-1), gwr N 0 49 (b2).toNatClampNeg e10.1)))))
def x_X7_leastCost (M : gMem) : Option (Int32 × gMem) := gd (gin ((1 <<< ((M.1 0 38 4) &&& 31)) - 1) 128) (Option.bind (itr FU (fun s => s_X7_leastCost_20 s.1 s.2) (((1 <<< ((M.1 0 38 4) &&& 31)) - 1) - 1, gwr M 0 49 ((1 <<< ((M.1 0 38 4) &&& 31)) - 1).toNatClampNeg 0)) (fun e12 => some (e12.2.1 0 49 0, e12.2)))
set_option maxRecDepth 100000 in
set_option maxHeartbeats 4000000 in
theorem w_X7_leastCost_30 {X : gX} {Y : gY} {M : gMem} {a2 : Int32} {r : (Int32 × gMem)} (hC : gC X Y cX7_leastCost "GuestStaff$Rows" 5 2 43) (hF : gF X Y (some .int) (gQi Y r)) {e : (Int32 × Int32)} (kE : ∀ s : (Int32 × Int32), e = s → gWW X Y 5 67 [(0, .ref (gad Y 0 38)), (2, .int a2), (3, .int s.1)] [] M) : ∀ (F : Nat) (s : (Int32 × Int32)), itr F (fun s => s_X7_leastCost_30 M a2 s.1 s.2) s = some e → gWW X Y 5 30 [(0, .ref (gad Y 0 38)), (2, .int a2), (3, .int s.1), (4, .int s.2)] [] M := by
  intro F s
  refine itr_w (P := fun s => gWW X Y 5 30 [(0, .ref (gad Y 0 38)), (2, .int a2), (3, .int s.1), (4, .int s.2)] [] M) (fun s o hx kI kx => ?_) F s
  obtain ⟨b3, b4⟩ := s
  have hx : s_X7_leastCost_30 M a2 b3 b4 = some o := hx
  have kE : ∀ s : (Int32 × Int32), o = .inr s → gWW X Y 5 67 [(0, .ref (gad Y 0 38)), (2, .int a2), (3, .int s.1)] [] M := fun s q => kE s (kx _ q).symm
  have J61 : ∀ (b3 : Int32) (b4 : Int32) , j_X7_leastCost_30_61 M a2 b3 b4 = some o → gWW X Y 5 61 [(0, .ref (gad Y 0 38)), (2, .int a2), (3, .int b3), (4, .int b4)] [] M := by
    intro b3 b4 hx
    unfold j_X7_leastCost_30_61 at hx
    refine q_iinc hC 3 1 [(4, .int (b4 + 1)), (0, .ref (gad Y 0 38)), (2, .int a2), (3, .int b3)] dX7_leastCost_61 rfl rfl (by decide) rfl ?_
    refine q_goto hC 30 dX7_leastCost_64 rfl ?_
    exact q_sub [1, 2, 3, 0] rfl (kI (b3, b4 + 1) (Option.some.inj hx).symm)
  unfold s_X7_leastCost_30 at hx
  refine q_iload hC 3 dX7_leastCost_30 rfl ?_
  refine q_aload_n hC 0 dX7_leastCost_32 rfl rfl ?_
  refine gf_X7_26 hC dX7_leastCost_33 ?_
  refine q_ic_ge hC 67 dX7_leastCost_36 rfl (fun h3 => ?_) (fun h3 => ?_)
  · have hx := gi_p h3 hx
    exact q_sub [0, 1, 2] rfl (kE (b3, b4) (Option.some.inj hx).symm)
  · have hx := gi_n h3 hx
    refine q_aload_n hC 0 dX7_leastCost_39 rfl rfl ?_
    refine q_iload_n hC 1 dX7_leastCost_40 rfl rfl ?_
    refine q_iload hC 3 dX7_leastCost_41 rfl ?_
    obtain ⟨v4, q5, hx⟩ := gb_e hx
    refine q_kzp (q_rV (As := [.int a2, .int b4]) (rest := []) hC mm_X7_isOpen wM_X7_59 (c_X7_isOpen q5) ⟨rfl, rfl, Nat.le_of_ble_eq_true rfl, Nat.le_of_ble_eq_true rfl⟩ (gV_t (by decide) (by decide)) rfl rfl rfl rfl (Nat.le_of_ble_eq_true rfl) dX7_leastCost_43) (fun z6 => ?_)
    refine q_if_eq hC 61 dX7_leastCost_46 rfl (fun h7 => ?_) (fun h7 => ?_)
    · have hx := gi_p h7 hx
      exact q_sub [0, 1, 2, 3] rfl (J61 b3 b4 hx)
    · have hx := gi_n h7 hx
      refine q_iload_n hC 2 dX7_leastCost_49 rfl rfl ?_
      refine q_aload_n hC 0 dX7_leastCost_50 rfl rfl ?_
      refine q_iload_n hC 1 dX7_leastCost_51 rfl rfl ?_
      refine q_iload hC 3 dX7_leastCost_52 rfl ?_
      obtain ⟨v8, q9, hx⟩ := gb_e hx
      refine q_kip (q_rV (As := [.int a2, .int b4]) (rest := [.int b3]) hC mm_X7_costThrough wM_X7_63 (c_X7_costThrough q9) ⟨rfl, rfl, Nat.le_of_ble_eq_true rfl, Nat.le_of_ble_eq_true rfl⟩ (gV_t (by decide) (by decide)) rfl rfl rfl rfl (Nat.le_of_ble_eq_true rfl) dX7_leastCost_54) ?_
      refine q_min hC wM_X7_66 (by decide) (Nat.le_of_ble_eq_true rfl) dX7_leastCost_57 ?_
      refine q_istore_n hC [(3, .int (if v8 < b3 then v8 else b3)), (0, .ref (gad Y 0 38)), (2, .int a2), (4, .int b4)] dX7_leastCost_60 rfl (by decide) rfl ?_
      exact q_sub [1, 2, 0, 3] rfl (J61 (if v8 < b3 then v8 else b3) b4 hx)
set_option maxRecDepth 100000 in
set_option maxHeartbeats 4000000 in
theorem w_X7_leastCost_20 {X : gX} {Y : gY} {r : (Int32 × gMem)} (hC : gC X Y cX7_leastCost "GuestStaff$Rows" 5 2 43) (hF : gF X Y (some .int) (gQi Y r)) {e : (Int32 × gMem)} (kE : ∀ s : (Int32 × gMem), e = s → gWW X Y 5 80 [(0, .ref (gad Y 0 38))] [] s.2) : ∀ (F : Nat) (s : (Int32 × gMem)), itr F (fun s => s_X7_leastCost_20 s.1 s.2) s = some e → gWW X Y 5 20 [(0, .ref (gad Y 0 38)), (2, .int s.1)] [] s.2 := by
  intro F s
  refine itr_w (P := fun s => gWW X Y 5 20 [(0, .ref (gad Y 0 38)), (2, .int s.1)] [] s.2) (fun s o hx kI kx => ?_) F s
  obtain ⟨b2, N⟩ := s
  have hx : s_X7_leastCost_20 b2 N = some o := hx
  have kE : ∀ s : (Int32 × gMem), o = .inr s → gWW X Y 5 80 [(0, .ref (gad Y 0 38))] [] s.2 := fun s q => kE s (kx _ q).symm
  unfold s_X7_leastCost_20 at hx
  refine q_iload_n hC 1 dX7_leastCost_20 rfl rfl ?_
  refine q_if_lt hC 80 dX7_leastCost_21 rfl (fun h2 => ?_) (fun h2 => ?_)
  · have hx := gi_p h2 hx
    exact q_sub [0] rfl (kE (b2, N) (Option.some.inj hx).symm)
  · have hx := gi_n h2 hx
    refine q_ldc hC 1000000 dX7_leastCost_24 wC_X7_62 ?_
    refine q_istore_n hC [(3, .int 1000000), (0, .ref (gad Y 0 38)), (2, .int b2)] dX7_leastCost_26 rfl (by decide) rfl ?_
    refine q_iconst hC 0 dX7_leastCost_27 rfl ?_
    refine q_istore hC [(4, .int 0), (3, .int 1000000), (0, .ref (gad Y 0 38)), (2, .int b2)] dX7_leastCost_28 (by decide) rfl ?_
    obtain ⟨e10, qe10, hx⟩ := gb_e hx
    refine q_sub [2, 3, 1, 0] rfl (w_X7_leastCost_30 hC hF (e := e10) (fun s q => ?_) _ _ qe10)
    · subst q
      refine q_aload_n hC 0 dX7_leastCost_67 rfl rfl ?_
      refine gf_X7_23 hC dX7_leastCost_68 ?_
      refine q_iload_n hC 1 dX7_leastCost_71 rfl rfl ?_
      refine q_iload_n hC 2 dX7_leastCost_72 rfl rfl ?_
      have g11 := (gd_e hx).1
      have hx := (gd_e hx).2
      refine q_iast hC 127 (gV_t (by decide) (by decide)) rfl g11 dX7_leastCost_73 ?_
      refine q_iinc hC 1 (-1) [(2, .int (b2 + (-1))), (0, .ref (gad Y 0 38)), (3, .int e10.1)] dX7_leastCost_74 rfl rfl (by decide) rfl ?_
      refine q_goto hC 20 dX7_leastCost_77 rfl ?_
      exact q_sub [1, 0] rfl (kI (b2 + (-1), gwr N 0 49 (b2).toNatClampNeg e10.1) (Option.some.inj hx).symm)
set_option maxRecDepth 100000 in
set_option maxHeartbeats 4000000 in
theorem c_X7_leastCost {l : Launch} {Y : gY} {M : gMem} {r : (Int32 × gMem)} (hx : x_X7_leastCost M = some r) : Met l yX7_leastCost (gws yX7_leastCost cX7_leastCost 5 (some .int)) { frames := 2, cells := 0, slots := 0, locals := 43 } (va_Pc [.ref (gad Y 0 38)] (gS0 Y M)) (gQi Y r) 0 0 (gA Y) := by
  refine gmet (lv := [(0, .ref (gad Y 0 38))]) "GuestStaff$Rows" (by decide) rfl (Nat.le_of_ble_eq_true rfl) rfl (fun X hC hF => ?_)
  unfold x_X7_leastCost at hx
  refine q_iconst hC 1 dX7_leastCost_0 rfl ?_
  refine q_aload_n hC 0 dX7_leastCost_1 rfl rfl ?_
  refine gf_X7_26 hC dX7_leastCost_2 ?_
  refine q_ishl hC dX7_leastCost_5 ?_
  refine q_iconst hC 1 dX7_leastCost_6 rfl ?_
  refine q_isub hC dX7_leastCost_7 ?_
  refine q_istore_n hC [(1, .int ((1 <<< ((M.1 0 38 4) &&& 31)) - 1)), (0, .ref (gad Y 0 38))] dX7_leastCost_8 rfl (by decide) rfl ?_
  refine q_aload_n hC 1 dX7_leastCost_9 rfl rfl ?_
  refine gf_X7_23 hC dX7_leastCost_10 ?_
  refine q_iload_n hC 0 dX7_leastCost_13 rfl rfl ?_
  refine q_iconst hC 0 dX7_leastCost_14 rfl ?_
  have g1 := (gd_e hx).1
  have hx := (gd_e hx).2
  refine q_iast hC 127 (gV_t (by decide) (by decide)) rfl g1 dX7_leastCost_15 ?_
  refine q_iload_n hC 0 dX7_leastCost_16 rfl rfl ?_
  refine q_iconst hC 1 dX7_leastCost_17 rfl ?_
  refine q_isub hC dX7_leastCost_18 ?_
  refine q_istore_n hC [(2, .int (((1 <<< ((M.1 0 38 4) &&& 31)) - 1) - 1)), (1, .int ((1 <<< ((M.1 0 38 4) &&& 31)) - 1)), (0, .ref (gad Y 0 38))] dX7_leastCost_19 rfl (by decide) rfl ?_
  obtain ⟨e12, qe12, hx⟩ := gb_e hx
  refine q_sub [2, 0] rfl (w_X7_leastCost_20 hC hF (e := e12) (fun s q => ?_) _ _ qe12)
  · subst q
    refine q_aload_n hC 0 dX7_leastCost_80 rfl rfl ?_
    refine gf_X7_23 hC dX7_leastCost_81 ?_
    refine q_iconst hC 0 dX7_leastCost_84 rfl ?_
    refine q_ialdk hC 0 127 (gV_t (by decide) (by decide)) rfl (by decide) rfl dX7_leastCost_85 ?_
    exact q_iret hC hF dX7_leastCost_86 (Option.some.inj hx)

theorem dX7_firstBest_0 : decode cX7_firstBest 0 = .ok (.iconst 0, 1) := by decide +kernel
theorem dX7_firstBest_1 : decode cX7_firstBest 1 = .ok (.istore_n 2, 1) := by decide +kernel
theorem dX7_firstBest_2 : decode cX7_firstBest 2 = .ok (.iload_n 2, 1) := by decide +kernel
theorem dX7_firstBest_3 : decode cX7_firstBest 3 = .ok (.aload_n 0, 1) := by decide +kernel
theorem dX7_firstBest_4 : decode cX7_firstBest 4 = .ok (.getfield 26, 3) := by decide +kernel
theorem dX7_firstBest_7 : decode cX7_firstBest 7 = .ok (.if_icmp .ge 35, 3) := by decide +kernel
theorem dX7_firstBest_10 : decode cX7_firstBest 10 = .ok (.aload_n 0, 1) := by decide +kernel
theorem dX7_firstBest_11 : decode cX7_firstBest 11 = .ok (.iload_n 1, 1) := by decide +kernel
theorem dX7_firstBest_12 : decode cX7_firstBest 12 = .ok (.iload_n 2, 1) := by decide +kernel
theorem dX7_firstBest_13 : decode cX7_firstBest 13 = .ok (.invokevirtual 59, 3) := by decide +kernel
theorem dX7_firstBest_16 : decode cX7_firstBest 16 = .ok (.ifCond .eq 20, 3) := by decide +kernel
theorem dX7_firstBest_19 : decode cX7_firstBest 19 = .ok (.aload_n 0, 1) := by decide +kernel
theorem dX7_firstBest_20 : decode cX7_firstBest 20 = .ok (.iload_n 1, 1) := by decide +kernel
theorem dX7_firstBest_21 : decode cX7_firstBest 21 = .ok (.iload_n 2, 1) := by decide +kernel
theorem dX7_firstBest_22 : decode cX7_firstBest 22 = .ok (.invokevirtual 63, 3) := by decide +kernel
theorem dX7_firstBest_25 : decode cX7_firstBest 25 = .ok (.aload_n 0, 1) := by decide +kernel
theorem dX7_firstBest_26 : decode cX7_firstBest 26 = .ok (.getfield 23, 3) := by decide +kernel
theorem dX7_firstBest_29 : decode cX7_firstBest 29 = .ok (.iload_n 1, 1) := by decide +kernel
theorem dX7_firstBest_30 : decode cX7_firstBest 30 = .ok (.iaload, 1) := by decide +kernel
theorem dX7_firstBest_31 : decode cX7_firstBest 31 = .ok (.if_icmp .ne 5, 3) := by decide +kernel
theorem dX7_firstBest_34 : decode cX7_firstBest 34 = .ok (.iload_n 2, 1) := by decide +kernel
theorem dX7_firstBest_35 : decode cX7_firstBest 35 = .ok (.ireturn, 1) := by decide +kernel
theorem dX7_firstBest_36 : decode cX7_firstBest 36 = .ok (.iinc 2 1, 3) := by decide +kernel
theorem dX7_firstBest_39 : decode cX7_firstBest 39 = .ok (.goto (-37), 3) := by decide +kernel
theorem dX7_firstBest_42 : decode cX7_firstBest 42 = .ok (.iconst (-1), 1) := by decide +kernel
theorem dX7_firstBest_43 : decode cX7_firstBest 43 = .ok (.ireturn, 1) := by decide +kernel
def j_X7_firstBest_2_36 (M : gMem) (a1 : Int32) (b2 : Int32) : Option (Int32 ⊕ (Int32 ⊕ Int32)) := some (.inl (b2 + 1))
def s_X7_firstBest_2 (M : gMem) (a1 : Int32) (b2 : Int32) : Option (Int32 ⊕ (Int32 ⊕ Int32)) := (if (M.1 0 38 4) ≤ b2 then some (.inr (.inl b2)) else Option.bind (x_X7_isOpen M a1 b2) (fun v2 => (if v2 = 0 then j_X7_firstBest_2_36 M a1 b2 else Option.bind (x_X7_costThrough M a1 b2) (fun v6 => gd (gin a1 128) ((if v6 = (M.1 0 49 (a1).toNatClampNeg) then some (.inr (.inr b2)) else j_X7_firstBest_2_36 M a1 b2))))))
def x_X7_firstBest (M : gMem) (p1 : Int32) : Option Int32 := Option.bind (itr FU (fun s => s_X7_firstBest_2 M p1 s) 0) (fun e10 => Sum.elim (fun s11 => some (-1)) (fun z12 => some z12) e10)
set_option maxRecDepth 100000 in
set_option maxHeartbeats 4000000 in
theorem w_X7_firstBest_2 {X : gX} {Y : gY} {M : gMem} {a1 : Int32} {r : Int32} (hC : gC X Y cX7_firstBest "GuestStaff$Rows" 3 2 43) (hF : gF X Y (some .int) (gQi Y (r, M))) {e : (Int32 ⊕ Int32)} (kE : ∀ s : Int32, e = .inl s → gWW X Y 3 42 [] [] M) (kR : ∀ z : Int32, e = .inr z → z = r) : ∀ (F : Nat) (s : Int32), itr F (fun s => s_X7_firstBest_2 M a1 s) s = some e → gWW X Y 3 2 [(0, .ref (gad Y 0 38)), (1, .int a1), (2, .int s)] [] M := by
  intro F s
  refine itr_w (P := fun s => gWW X Y 3 2 [(0, .ref (gad Y 0 38)), (1, .int a1), (2, .int s)] [] M) (fun s o hx kI kx => ?_) F s
  obtain ⟨b2, rfl⟩ : ∃ z, z = s := ⟨s, rfl⟩
  have hx : s_X7_firstBest_2 M a1 b2 = some o := hx
  have kE : ∀ s : Int32, o = .inr (.inl s) → gWW X Y 3 42 [] [] M := fun s q => kE s (kx _ q).symm
  have kR : ∀ z : Int32, o = .inr (.inr z) → z = r := fun z q => kR z (kx _ q).symm
  have J36 : ∀ (b2 : Int32) , j_X7_firstBest_2_36 M a1 b2 = some o → gWW X Y 3 36 [(0, .ref (gad Y 0 38)), (1, .int a1), (2, .int b2)] [] M := by
    intro b2 hx
    unfold j_X7_firstBest_2_36 at hx
    refine q_iinc hC 2 1 [(2, .int (b2 + 1)), (0, .ref (gad Y 0 38)), (1, .int a1)] dX7_firstBest_36 rfl rfl (by decide) rfl ?_
    refine q_goto hC 2 dX7_firstBest_39 rfl ?_
    exact q_sub [1, 2, 0] rfl (kI (b2 + 1) (Option.some.inj hx).symm)
  unfold s_X7_firstBest_2 at hx
  refine q_iload_n hC 2 dX7_firstBest_2 rfl rfl ?_
  refine q_aload_n hC 0 dX7_firstBest_3 rfl rfl ?_
  refine gf_X7_26 hC dX7_firstBest_4 ?_
  refine q_ic_ge hC 42 dX7_firstBest_7 rfl (fun h1 => ?_) (fun h1 => ?_)
  · have hx := gi_p h1 hx
    exact q_sub [] rfl (kE b2 (Option.some.inj hx).symm)
  · have hx := gi_n h1 hx
    refine q_aload_n hC 0 dX7_firstBest_10 rfl rfl ?_
    refine q_iload_n hC 1 dX7_firstBest_11 rfl rfl ?_
    refine q_iload_n hC 2 dX7_firstBest_12 rfl rfl ?_
    obtain ⟨v2, q3, hx⟩ := gb_e hx
    refine q_kzp (q_rV (As := [.int a1, .int b2]) (rest := []) hC mm_X7_isOpen wM_X7_59 (c_X7_isOpen q3) ⟨rfl, rfl, Nat.le_of_ble_eq_true rfl, Nat.le_of_ble_eq_true rfl⟩ (gV_t (by decide) (by decide)) rfl rfl rfl rfl (Nat.le_of_ble_eq_true rfl) dX7_firstBest_13) (fun z4 => ?_)
    refine q_if_eq hC 36 dX7_firstBest_16 rfl (fun h5 => ?_) (fun h5 => ?_)
    · have hx := gi_p h5 hx
      exact q_sub [0, 1, 2] rfl (J36 b2 hx)
    · have hx := gi_n h5 hx
      refine q_aload_n hC 0 dX7_firstBest_19 rfl rfl ?_
      refine q_iload_n hC 1 dX7_firstBest_20 rfl rfl ?_
      refine q_iload_n hC 2 dX7_firstBest_21 rfl rfl ?_
      obtain ⟨v6, q7, hx⟩ := gb_e hx
      refine q_kip (q_rV (As := [.int a1, .int b2]) (rest := []) hC mm_X7_costThrough wM_X7_63 (c_X7_costThrough q7) ⟨rfl, rfl, Nat.le_of_ble_eq_true rfl, Nat.le_of_ble_eq_true rfl⟩ (gV_t (by decide) (by decide)) rfl rfl rfl rfl (Nat.le_of_ble_eq_true rfl) dX7_firstBest_22) ?_
      refine q_aload_n hC 0 dX7_firstBest_25 rfl rfl ?_
      refine gf_X7_23 hC dX7_firstBest_26 ?_
      refine q_iload_n hC 1 dX7_firstBest_29 rfl rfl ?_
      have g8 := (gd_e hx).1
      have hx := (gd_e hx).2
      refine q_iald hC 127 (gV_t (by decide) (by decide)) rfl g8 dX7_firstBest_30 ?_
      refine q_ic_ne hC 36 dX7_firstBest_31 rfl (fun h9 => ?_) (fun h9 => ?_)
      · have hx := gi_n h9 hx
        exact q_sub [0, 1, 2] rfl (J36 b2 hx)
      · have hx := gi_p h9 hx
        refine q_iload_n hC 2 dX7_firstBest_34 rfl rfl ?_
        exact q_iret hC hF dX7_firstBest_35 (congrArg (fun z => (z, M)) (kR _ (Option.some.inj hx).symm))
set_option maxRecDepth 100000 in
set_option maxHeartbeats 4000000 in
theorem c_X7_firstBest {l : Launch} {Y : gY} {M : gMem} {p1 : Int32} {r : Int32} (hx : x_X7_firstBest M p1 = some r) : Met l yX7_firstBest (gws yX7_firstBest cX7_firstBest 3 (some .int)) { frames := 2, cells := 0, slots := 0, locals := 43 } (va_Pc [.ref (gad Y 0 38), .int p1] (gS0 Y M)) (gQi Y (r, M)) 0 0 (gA Y) := by
  refine gmet (lv := [(0, .ref (gad Y 0 38)), (1, .int p1)]) "GuestStaff$Rows" (by decide) rfl (Nat.le_of_ble_eq_true rfl) rfl (fun X hC hF => ?_)
  unfold x_X7_firstBest at hx
  refine q_iconst hC 0 dX7_firstBest_0 rfl ?_
  refine q_istore_n hC [(2, .int 0), (0, .ref (gad Y 0 38)), (1, .int p1)] dX7_firstBest_1 rfl (by decide) rfl ?_
  obtain ⟨e10, qe10, hx⟩ := gb_e hx
  refine q_sub [1, 2, 0] rfl (w_X7_firstBest_2 hC hF (e := e10) (fun s11 qs11 => ?_) (fun z12 qz12 => ?_) _ _ qe10)
  · subst qs11
    refine q_iconst hC (-1) dX7_firstBest_42 rfl ?_
    exact q_iret hC hF dX7_firstBest_43 (congrArg (fun z => (z, M)) (Option.some.inj hx))
  · subst qz12
    exact Option.some.inj hx

theorem dX7_dutyInBest_0 : decode cX7_dutyInBest 0 = .ok (.aload_n 0, 1) := by decide +kernel
theorem dX7_dutyInBest_1 : decode cX7_dutyInBest 1 = .ok (.invokevirtual 71, 3) := by decide +kernel
theorem dX7_dutyInBest_4 : decode cX7_dutyInBest 4 = .ok (.ldc 62, 2) := by decide +kernel
theorem dX7_dutyInBest_6 : decode cX7_dutyInBest 6 = .ok (.if_icmp .ne 5, 3) := by decide +kernel
theorem dX7_dutyInBest_9 : decode cX7_dutyInBest 9 = .ok (.iconst (-1), 1) := by decide +kernel
theorem dX7_dutyInBest_10 : decode cX7_dutyInBest 10 = .ok (.ireturn, 1) := by decide +kernel
theorem dX7_dutyInBest_11 : decode cX7_dutyInBest 11 = .ok (.iconst 0, 1) := by decide +kernel
theorem dX7_dutyInBest_12 : decode cX7_dutyInBest 12 = .ok (.istore_n 2, 1) := by decide +kernel
theorem dX7_dutyInBest_13 : decode cX7_dutyInBest 13 = .ok (.iconst 0, 1) := by decide +kernel
theorem dX7_dutyInBest_14 : decode cX7_dutyInBest 14 = .ok (.istore_n 3, 1) := by decide +kernel
theorem dX7_dutyInBest_15 : decode cX7_dutyInBest 15 = .ok (.iload_n 3, 1) := by decide +kernel
theorem dX7_dutyInBest_16 : decode cX7_dutyInBest 16 = .ok (.aload_n 0, 1) := by decide +kernel
theorem dX7_dutyInBest_17 : decode cX7_dutyInBest 17 = .ok (.getfield 26, 3) := by decide +kernel
theorem dX7_dutyInBest_20 : decode cX7_dutyInBest 20 = .ok (.if_icmp .ge 52, 3) := by decide +kernel
theorem dX7_dutyInBest_23 : decode cX7_dutyInBest 23 = .ok (.aload_n 0, 1) := by decide +kernel
theorem dX7_dutyInBest_24 : decode cX7_dutyInBest 24 = .ok (.iload_n 2, 1) := by decide +kernel
theorem dX7_dutyInBest_25 : decode cX7_dutyInBest 25 = .ok (.invokevirtual 75, 3) := by decide +kernel
theorem dX7_dutyInBest_28 : decode cX7_dutyInBest 28 = .ok (.istore 4, 2) := by decide +kernel
theorem dX7_dutyInBest_30 : decode cX7_dutyInBest 30 = .ok (.iload_n 3, 1) := by decide +kernel
theorem dX7_dutyInBest_31 : decode cX7_dutyInBest 31 = .ok (.iload_n 1, 1) := by decide +kernel
theorem dX7_dutyInBest_32 : decode cX7_dutyInBest 32 = .ok (.if_icmp .eq 9, 3) := by decide +kernel
theorem dX7_dutyInBest_35 : decode cX7_dutyInBest 35 = .ok (.iload 4, 2) := by decide +kernel
theorem dX7_dutyInBest_37 : decode cX7_dutyInBest 37 = .ok (.iconst (-1), 1) := by decide +kernel
theorem dX7_dutyInBest_38 : decode cX7_dutyInBest 38 = .ok (.if_icmp .ne 21, 3) := by decide +kernel
theorem dX7_dutyInBest_41 : decode cX7_dutyInBest 41 = .ok (.iload 4, 2) := by decide +kernel
theorem dX7_dutyInBest_43 : decode cX7_dutyInBest 43 = .ok (.iconst (-1), 1) := by decide +kernel
theorem dX7_dutyInBest_44 : decode cX7_dutyInBest 44 = .ok (.if_icmp .ne 7, 3) := by decide +kernel
theorem dX7_dutyInBest_47 : decode cX7_dutyInBest 47 = .ok (.iconst (-1), 1) := by decide +kernel
theorem dX7_dutyInBest_48 : decode cX7_dutyInBest 48 = .ok (.goto 10, 3) := by decide +kernel
theorem dX7_dutyInBest_51 : decode cX7_dutyInBest 51 = .ok (.aload_n 0, 1) := by decide +kernel
theorem dX7_dutyInBest_52 : decode cX7_dutyInBest 52 = .ok (.getfield 9, 3) := by decide +kernel
theorem dX7_dutyInBest_55 : decode cX7_dutyInBest 55 = .ok (.iload 4, 2) := by decide +kernel
theorem dX7_dutyInBest_57 : decode cX7_dutyInBest 57 = .ok (.iaload, 1) := by decide +kernel
theorem dX7_dutyInBest_58 : decode cX7_dutyInBest 58 = .ok (.ireturn, 1) := by decide +kernel
theorem dX7_dutyInBest_59 : decode cX7_dutyInBest 59 = .ok (.iload_n 2, 1) := by decide +kernel
theorem dX7_dutyInBest_60 : decode cX7_dutyInBest 60 = .ok (.iconst 1, 1) := by decide +kernel
theorem dX7_dutyInBest_61 : decode cX7_dutyInBest 61 = .ok (.iload 4, 2) := by decide +kernel
theorem dX7_dutyInBest_63 : decode cX7_dutyInBest 63 = .ok (.ishl, 1) := by decide +kernel
theorem dX7_dutyInBest_64 : decode cX7_dutyInBest 64 = .ok (.ior, 1) := by decide +kernel
theorem dX7_dutyInBest_65 : decode cX7_dutyInBest 65 = .ok (.istore_n 2, 1) := by decide +kernel
theorem dX7_dutyInBest_66 : decode cX7_dutyInBest 66 = .ok (.iinc 3 1, 3) := by decide +kernel
theorem dX7_dutyInBest_69 : decode cX7_dutyInBest 69 = .ok (.goto (-54), 3) := by decide +kernel
theorem dX7_dutyInBest_72 : decode cX7_dutyInBest 72 = .ok (.iconst (-1), 1) := by decide +kernel
theorem dX7_dutyInBest_73 : decode cX7_dutyInBest 73 = .ok (.ireturn, 1) := by decide +kernel
def j_X7_dutyInBest_15_41 (M : gMem) (a1 : Int32) (b4 : Int32) : Option ((Int32 × Int32) ⊕ ((Int32 × Int32) ⊕ (Int32 × gMem))) := (if b4 = (-1) then some (.inr (.inr ((-1), M))) else gd (gin b4 7) (some (.inr (.inr (M.1 0 39 (b4).toNatClampNeg, M)))))
def s_X7_dutyInBest_15 (M : gMem) (a1 : Int32) (b2 : Int32) (b3 : Int32) : Option ((Int32 × Int32) ⊕ ((Int32 × Int32) ⊕ (Int32 × gMem))) := (if (M.1 0 38 4) ≤ b3 then some (.inr (.inl (b2, b3))) else Option.bind (x_X7_firstBest M b2) (fun v5 => (if b3 = a1 then j_X7_dutyInBest_15_41 M a1 v5 else (if v5 = (-1) then j_X7_dutyInBest_15_41 M a1 v5 else some (.inl (b2 ||| (1 <<< (v5 &&& 31)), b3 + 1))))))
def x_X7_dutyInBest (M : gMem) (p1 : Int32) : Option (Int32 × gMem) := Option.bind (x_X7_leastCost M) (fun v1 => (if v1.1 = 1000000 then some ((-1), v1.2) else Option.bind (itr FU (fun s => s_X7_dutyInBest_15 v1.2 p1 s.1 s.2) (0, 0)) (fun e11 => Sum.elim (fun s12 => some ((-1), v1.2)) (fun z13 => some z13) e11)))
set_option maxRecDepth 100000 in
set_option maxHeartbeats 4000000 in
theorem w_X7_dutyInBest_15 {X : gX} {Y : gY} {M : gMem} {a1 : Int32} {r : (Int32 × gMem)} (hC : gC X Y cX7_dutyInBest "GuestStaff$Rows" 5 3 67) (hF : gF X Y (some .int) (gQi Y r)) {e : ((Int32 × Int32) ⊕ (Int32 × gMem))} (kE : ∀ s : (Int32 × Int32), e = .inl s → gWW X Y 5 72 [] [] M) (kR : ∀ z : (Int32 × gMem), e = .inr z → z = r) : ∀ (F : Nat) (s : (Int32 × Int32)), itr F (fun s => s_X7_dutyInBest_15 M a1 s.1 s.2) s = some e → gWW X Y 5 15 [(0, .ref (gad Y 0 38)), (1, .int a1), (2, .int s.1), (3, .int s.2)] [] M := by
  intro F s
  refine itr_w (P := fun s => gWW X Y 5 15 [(0, .ref (gad Y 0 38)), (1, .int a1), (2, .int s.1), (3, .int s.2)] [] M) (fun s o hx kI kx => ?_) F s
  obtain ⟨b2, b3⟩ := s
  have hx : s_X7_dutyInBest_15 M a1 b2 b3 = some o := hx
  have kE : ∀ s : (Int32 × Int32), o = .inr (.inl s) → gWW X Y 5 72 [] [] M := fun s q => kE s (kx _ q).symm
  have kR : ∀ z : (Int32 × gMem), o = .inr (.inr z) → z = r := fun z q => kR z (kx _ q).symm
  have J41 : ∀ (b4 : Int32) , j_X7_dutyInBest_15_41 M a1 b4 = some o → gWW X Y 5 41 [(0, .ref (gad Y 0 38)), (4, .int b4)] [] M := by
    intro b4 hx
    unfold j_X7_dutyInBest_15_41 at hx
    refine q_iload hC 1 dX7_dutyInBest_41 rfl ?_
    refine q_iconst hC (-1) dX7_dutyInBest_43 rfl ?_
    refine q_ic_ne hC 51 dX7_dutyInBest_44 rfl (fun h8 => ?_) (fun h8 => ?_)
    · have hx := gi_n h8 hx
      refine q_aload_n hC 0 dX7_dutyInBest_51 rfl rfl ?_
      refine gf_X7_9 hC dX7_dutyInBest_52 ?_
      refine q_iload hC 1 dX7_dutyInBest_55 rfl ?_
      have g9 := (gd_e hx).1
      have hx := (gd_e hx).2
      refine q_iald hC 6 (gV_t (by decide) (by decide)) rfl g9 dX7_dutyInBest_57 ?_
      exact q_iret hC hF dX7_dutyInBest_58 (kR _ (Option.some.inj hx).symm)
    · have hx := gi_p h8 hx
      refine q_iconst hC (-1) dX7_dutyInBest_47 rfl ?_
      refine q_goto hC 58 dX7_dutyInBest_48 rfl ?_
      exact q_iret hC hF dX7_dutyInBest_58 (kR _ (Option.some.inj hx).symm)
  unfold s_X7_dutyInBest_15 at hx
  refine q_iload_n hC 3 dX7_dutyInBest_15 rfl rfl ?_
  refine q_aload_n hC 0 dX7_dutyInBest_16 rfl rfl ?_
  refine gf_X7_26 hC dX7_dutyInBest_17 ?_
  refine q_ic_ge hC 72 dX7_dutyInBest_20 rfl (fun h4 => ?_) (fun h4 => ?_)
  · have hx := gi_p h4 hx
    exact q_sub [] rfl (kE (b2, b3) (Option.some.inj hx).symm)
  · have hx := gi_n h4 hx
    refine q_aload_n hC 0 dX7_dutyInBest_23 rfl rfl ?_
    refine q_iload_n hC 2 dX7_dutyInBest_24 rfl rfl ?_
    obtain ⟨v5, q6, hx⟩ := gb_e hx
    refine q_kip (q_rV (As := [.int b2]) (rest := []) hC mm_X7_firstBest wM_X7_75 (c_X7_firstBest q6) ⟨rfl, rfl, Nat.le_of_ble_eq_true rfl, Nat.le_of_ble_eq_true rfl⟩ (gV_t (by decide) (by decide)) rfl rfl rfl rfl (Nat.le_of_ble_eq_true rfl) dX7_dutyInBest_25) ?_
    refine q_istore hC [(4, .int v5), (0, .ref (gad Y 0 38)), (1, .int a1), (2, .int b2), (3, .int b3)] dX7_dutyInBest_28 (by decide) rfl ?_
    refine q_iload_n hC 4 dX7_dutyInBest_30 rfl rfl ?_
    refine q_iload_n hC 2 dX7_dutyInBest_31 rfl rfl ?_
    refine q_ic_eq hC 41 dX7_dutyInBest_32 rfl (fun h7 => ?_) (fun h7 => ?_)
    · have hx := gi_p h7 hx
      exact q_sub [1, 0] rfl (J41 v5 hx)
    · have hx := gi_n h7 hx
      refine q_iload hC 0 dX7_dutyInBest_35 rfl ?_
      refine q_iconst hC (-1) dX7_dutyInBest_37 rfl ?_
      refine q_ic_ne hC 59 dX7_dutyInBest_38 rfl (fun h10 => ?_) (fun h10 => ?_)
      · have hx := gi_n h10 hx
        refine q_iload_n hC 3 dX7_dutyInBest_59 rfl rfl ?_
        refine q_iconst hC 1 dX7_dutyInBest_60 rfl ?_
        refine q_iload hC 0 dX7_dutyInBest_61 rfl ?_
        refine q_ishl hC dX7_dutyInBest_63 ?_
        refine q_ior hC dX7_dutyInBest_64 ?_
        refine q_istore_n hC [(2, .int (b2 ||| (1 <<< (v5 &&& 31)))), (4, .int v5), (0, .ref (gad Y 0 38)), (1, .int a1), (3, .int b3)] dX7_dutyInBest_65 rfl (by decide) rfl ?_
        refine q_iinc hC 4 1 [(3, .int (b3 + 1)), (2, .int (b2 ||| (1 <<< (v5 &&& 31)))), (4, .int v5), (0, .ref (gad Y 0 38)), (1, .int a1)] dX7_dutyInBest_66 rfl rfl (by decide) rfl ?_
        refine q_goto hC 15 dX7_dutyInBest_69 rfl ?_
        exact q_sub [3, 4, 1, 0] rfl (kI (b2 ||| (1 <<< (v5 &&& 31)), b3 + 1) (Option.some.inj hx).symm)
      · have hx := gi_p h10 hx
        exact q_sub [1, 0] rfl (J41 v5 hx)
set_option maxRecDepth 100000 in
set_option maxHeartbeats 4000000 in
theorem c_X7_dutyInBest {l : Launch} {Y : gY} {M : gMem} {p1 : Int32} {r : (Int32 × gMem)} (hx : x_X7_dutyInBest M p1 = some r) : Met l yX7_dutyInBest (gws yX7_dutyInBest cX7_dutyInBest 5 (some .int)) { frames := 3, cells := 0, slots := 0, locals := 67 } (va_Pc [.ref (gad Y 0 38), .int p1] (gS0 Y M)) (gQi Y r) 0 0 (gA Y) := by
  refine gmet (lv := [(0, .ref (gad Y 0 38)), (1, .int p1)]) "GuestStaff$Rows" (by decide) rfl (Nat.le_of_ble_eq_true rfl) rfl (fun X hC hF => ?_)
  unfold x_X7_dutyInBest at hx
  refine q_aload_n hC 0 dX7_dutyInBest_0 rfl rfl ?_
  obtain ⟨v1, q2, hx⟩ := gb_e hx
  refine q_ki (q_rV (As := []) (rest := []) hC mm_X7_leastCost wM_X7_71 (c_X7_leastCost q2) ⟨rfl, rfl, Nat.le_of_ble_eq_true rfl, Nat.le_of_ble_eq_true rfl⟩ (gV_t (by decide) (by decide)) rfl rfl rfl rfl (Nat.le_of_ble_eq_true rfl) dX7_dutyInBest_1) ?_
  refine q_ldc hC 1000000 dX7_dutyInBest_4 wC_X7_62 ?_
  refine q_ic_ne hC 11 dX7_dutyInBest_6 rfl (fun h3 => ?_) (fun h3 => ?_)
  · have hx := gi_n h3 hx
    refine q_iconst hC 0 dX7_dutyInBest_11 rfl ?_
    refine q_istore_n hC [(2, .int 0), (0, .ref (gad Y 0 38)), (1, .int p1)] dX7_dutyInBest_12 rfl (by decide) rfl ?_
    refine q_iconst hC 0 dX7_dutyInBest_13 rfl ?_
    refine q_istore_n hC [(3, .int 0), (2, .int 0), (0, .ref (gad Y 0 38)), (1, .int p1)] dX7_dutyInBest_14 rfl (by decide) rfl ?_
    obtain ⟨e11, qe11, hx⟩ := gb_e hx
    refine q_sub [2, 3, 1, 0] rfl (w_X7_dutyInBest_15 hC hF (e := e11) (fun s12 qs12 => ?_) (fun z13 qz13 => ?_) _ _ qe11)
    · subst qs12
      refine q_iconst hC (-1) dX7_dutyInBest_72 rfl ?_
      exact q_iret hC hF dX7_dutyInBest_73 (Option.some.inj hx)
    · subst qz13
      exact Option.some.inj hx
  · have hx := gi_p h3 hx
    refine q_iconst hC (-1) dX7_dutyInBest_9 rfl ?_
    exact q_iret hC hF dX7_dutyInBest_10 (Option.some.inj hx)
