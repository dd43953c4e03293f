set_option maxHeartbeats 4000000 in
theorem R_J13_bitCount_95d88 (en : En) (N : Nat) (p0 : Int64)  (σ : Sg) : RR en ExT mi_J13_bitCount_95d88 evI 0 [(0, .long p0)] [] σ (f_J13_bitCount_95d88 N p0 σ) := by
  unfold f_J13_bitCount_95d88
  refine r_lload_n (pc := 0) 0 dJ13_bitCount_95d88_0 rfl rfl ?_
  refine r_lload_n (pc := 1) 0 dJ13_bitCount_95d88_1 rfl rfl ?_
  refine r_iconst (pc := 2) dJ13_bitCount_95d88_2 kc_iconst_1 ?_
  refine r_lushr (pc := 3) dJ13_bitCount_95d88_3 ?_
  refine r_ldc2 (pc := 4) lj_RJ13_314 dJ13_bitCount_95d88_4 ?_
  refine r_land (pc := 7) dJ13_bitCount_95d88_7 ?_
  refine r_lsub (pc := 8) dJ13_bitCount_95d88_8 ?_
  refine r_lstore_n (pc := 9) [(0, .long (p0 - (((p0.toUInt64 >>> ((1 : Int32).toInt64.toUInt64 &&& Int64.toUInt64 63)).toInt64) &&& (6148914691236517205 : Int64))))] dJ13_bitCount_95d88_9 rfl (by decide) rfl ?_
  refine r_lload_n (pc := 10) 0 dJ13_bitCount_95d88_10 rfl rfl ?_
  refine r_ldc2 (pc := 11) lj_RJ13_316 dJ13_bitCount_95d88_11 ?_
  refine r_land (pc := 14) dJ13_bitCount_95d88_14 ?_
  refine r_lload_n (pc := 15) 0 dJ13_bitCount_95d88_15 rfl rfl ?_
  refine r_iconst (pc := 16) dJ13_bitCount_95d88_16 kc_iconst_2 ?_
  refine r_lushr (pc := 17) dJ13_bitCount_95d88_17 ?_
  refine r_ldc2 (pc := 18) lj_RJ13_316 dJ13_bitCount_95d88_18 ?_
  refine r_land (pc := 21) dJ13_bitCount_95d88_21 ?_
  refine r_ladd (pc := 22) dJ13_bitCount_95d88_22 ?_
  refine r_lstore_n (pc := 23) [(0, .long (((p0 - (((p0.toUInt64 >>> ((1 : Int32).toInt64.toUInt64 &&& Int64.toUInt64 63)).toInt64) &&& (6148914691236517205 : Int64))) &&& (3689348814741910323 : Int64)) + ((((p0 - (((p0.toUInt64 >>> ((1 : Int32).toInt64.toUInt64 &&& Int64.toUInt64 63)).toInt64) &&& (6148914691236517205 : Int64))).toUInt64 >>> ((2 : Int32).toInt64.toUInt64 &&& Int64.toUInt64 63)).toInt64) &&& (3689348814741910323 : Int64))))] dJ13_bitCount_95d88_23 rfl (by decide) rfl ?_
  refine r_lload_n (pc := 24) 0 dJ13_bitCount_95d88_24 rfl rfl ?_
  refine r_lload_n (pc := 25) 0 dJ13_bitCount_95d88_25 rfl rfl ?_
  refine r_iconst (pc := 26) dJ13_bitCount_95d88_26 kc_iconst_4 ?_
  refine r_lushr (pc := 27) dJ13_bitCount_95d88_27 ?_
  refine r_ladd (pc := 28) dJ13_bitCount_95d88_28 ?_
  refine r_ldc2 (pc := 29) lj_RJ13_318 dJ13_bitCount_95d88_29 ?_
  refine r_land (pc := 32) dJ13_bitCount_95d88_32 ?_
  refine r_lstore_n (pc := 33) [(0, .long (((((p0 - (((p0.toUInt64 >>> ((1 : Int32).toInt64.toUInt64 &&& Int64.toUInt64 63)).toInt64) &&& (6148914691236517205 : Int64))) &&& (3689348814741910323 : Int64)) + ((((p0 - (((p0.toUInt64 >>> ((1 : Int32).toInt64.toUInt64 &&& Int64.toUInt64 63)).toInt64) &&& (6148914691236517205 : Int64))).toUInt64 >>> ((2 : Int32).toInt64.toUInt64 &&& Int64.toUInt64 63)).toInt64) &&& (3689348814741910323 : Int64))) + (((((p0 - (((p0.toUInt64 >>> ((1 : Int32).toInt64.toUInt64 &&& Int64.toUInt64 63)).toInt64) &&& (6148914691236517205 : Int64))) &&& (3689348814741910323 : Int64)) + ((((p0 - (((p0.toUInt64 >>> ((1 : Int32).toInt64.toUInt64 &&& Int64.toUInt64 63)).toInt64) &&& (6148914691236517205 : Int64))).toUInt64 >>> ((2 : Int32).toInt64.toUInt64 &&& Int64.toUInt64 63)).toInt64) &&& (3689348814741910323 : Int64))).toUInt64 >>> ((4 : Int32).toInt64.toUInt64 &&& Int64.toUInt64 63)).toInt64)) &&& (1085102592571150095 : Int64)))] dJ13_bitCount_95d88_33 rfl (by decide) rfl ?_
  refine r_lload_n (pc := 34) 0 dJ13_bitCount_95d88_34 rfl rfl ?_
  refine r_lload_n (pc := 35) 0 dJ13_bitCount_95d88_35 rfl rfl ?_
  refine r_bipush (pc := 36) dJ13_bitCount_95d88_36 kc_bipush_8 ?_
  refine r_lushr (pc := 38) dJ13_bitCount_95d88_38 ?_
  refine r_ladd (pc := 39) dJ13_bitCount_95d88_39 ?_
  refine r_lstore_n (pc := 40) [(0, .long ((((((p0 - (((p0.toUInt64 >>> ((1 : Int32).toInt64.toUInt64 &&& Int64.toUInt64 63)).toInt64) &&& (6148914691236517205 : Int64))) &&& (3689348814741910323 : Int64)) + ((((p0 - (((p0.toUInt64 >>> ((1 : Int32).toInt64.toUInt64 &&& Int64.toUInt64 63)).toInt64) &&& (6148914691236517205 : Int64))).toUInt64 >>> ((2 : Int32).toInt64.toUInt64 &&& Int64.toUInt64 63)).toInt64) &&& (3689348814741910323 : Int64))) + (((((p0 - (((p0.toUInt64 >>> ((1 : Int32).toInt64.toUInt64 &&& Int64.toUInt64 63)).toInt64) &&& (6148914691236517205 : Int64))) &&& (3689348814741910323 : Int64)) + ((((p0 - (((p0.toUInt64 >>> ((1 : Int32).toInt64.toUInt64 &&& Int64.toUInt64 63)).toInt64) &&& (6148914691236517205 : Int64))).toUInt64 >>> ((2 : Int32).toInt64.toUInt64 &&& Int64.toUInt64 63)).toInt64) &&& (3689348814741910323 : Int64))).toUInt64 >>> ((4 : Int32).toInt64.toUInt64 &&& Int64.toUInt64 63)).toInt64)) &&& (1085102592571150095 : Int64)) + (((((((p0 - (((p0.toUInt64 >>> ((1 : Int32).toInt64.toUInt64 &&& Int64.toUInt64 63)).toInt64) &&& (6148914691236517205 : Int64))) &&& (3689348814741910323 : Int64)) + ((((p0 - (((p0.toUInt64 >>> ((1 : Int32).toInt64.toUInt64 &&& Int64.toUInt64 63)).toInt64) &&& (6148914691236517205 : Int64))).toUInt64 >>> ((2 : Int32).toInt64.toUInt64 &&& Int64.toUInt64 63)).toInt64) &&& (3689348814741910323 : Int64))) + (((((p0 - (((p0.toUInt64 >>> ((1 : Int32).toInt64.toUInt64 &&& Int64.toUInt64 63)).toInt64) &&& (6148914691236517205 : Int64))) &&& (3689348814741910323 : Int64)) + ((((p0 - (((p0.toUInt64 >>> ((1 : Int32).toInt64.toUInt64 &&& Int64.toUInt64 63)).toInt64) &&& (6148914691236517205 : Int64))).toUInt64 >>> ((2 : Int32).toInt64.toUInt64 &&& Int64.toUInt64 63)).toInt64) &&& (3689348814741910323 : Int64))).toUInt64 >>> ((4 : Int32).toInt64.toUInt64 &&& Int64.toUInt64 63)).toInt64)) &&& (1085102592571150095 : Int64)).toUInt64 >>> ((8 : Int32).toInt64.toUInt64 &&& Int64.toUInt64 63)).toInt64)))] dJ13_bitCount_95d88_40 rfl (by decide) rfl ?_
  refine r_lload_n (pc := 41) 0 dJ13_bitCount_95d88_41 rfl rfl ?_
  refine r_lload_n (pc := 42) 0 dJ13_bitCount_95d88_42 rfl rfl ?_
  refine r_bipush (pc := 43) dJ13_bitCount_95d88_43 kc_bipush_16 ?_
  refine r_lushr (pc := 45) dJ13_bitCount_95d88_45 ?_
  refine r_ladd (pc := 46) dJ13_bitCount_95d88_46 ?_
  refine r_lstore_n (pc := 47) [(0, .long (((((((p0 - (((p0.toUInt64 >>> ((1 : Int32).toInt64.toUInt64 &&& Int64.toUInt64 63)).toInt64) &&& (6148914691236517205 : Int64))) &&& (3689348814741910323 : Int64)) + ((((p0 - (((p0.toUInt64 >>> ((1 : Int32).toInt64.toUInt64 &&& Int64.toUInt64 63)).toInt64) &&& (6148914691236517205 : Int64))).toUInt64 >>> ((2 : Int32).toInt64.toUInt64 &&& Int64.toUInt64 63)).toInt64) &&& (3689348814741910323 : Int64))) + (((((p0 - (((p0.toUInt64 >>> ((1 : Int32).toInt64.toUInt64 &&& Int64.toUInt64 63)).toInt64) &&& (6148914691236517205 : Int64))) &&& (3689348814741910323 : Int64)) + ((((p0 - (((p0.toUInt64 >>> ((1 : Int32).toInt64.toUInt64 &&& Int64.toUInt64 63)).toInt64) &&& (6148914691236517205 : Int64))).toUInt64 >>> ((2 : Int32).toInt64.toUInt64 &&& Int64.toUInt64 63)).toInt64) &&& (3689348814741910323 : Int64))).toUInt64 >>> ((4 : Int32).toInt64.toUInt64 &&& Int64.toUInt64 63)).toInt64)) &&& (1085102592571150095 : Int64)) + (((((((p0 - (((p0.toUInt64 >>> ((1 : Int32).toInt64.toUInt64 &&& Int64.toUInt64 63)).toInt64) &&& (6148914691236517205 : Int64))) &&& (3689348814741910323 : Int64)) + ((((p0 - (((p0.toUInt64 >>> ((1 : Int32).toInt64.toUInt64 &&& Int64.toUInt64 63)).toInt64) &&& (6148914691236517205 : Int64))).toUInt64 >>> ((2 : Int32).toInt64.toUInt64 &&& Int64.toUInt64 63)).toInt64) &&& (3689348814741910323 : Int64))) + (((((p0 - (((p0.toUInt64 >>> ((1 : Int32).toInt64.toUInt64 &&& Int64.toUInt64 63)).toInt64) &&& (6148914691236517205 : Int64))) &&& (3689348814741910323 : Int64)) + ((((p0 - (((p0.toUInt64 >>> ((1 : Int32).toInt64.toUInt64 &&& Int64.toUInt64 63)).toInt64) &&& (6148914691236517205 : Int64))).toUInt64 >>> ((2 : Int32).toInt64.toUInt64 &&& Int64.toUInt64 63)).toInt64) &&& (3689348814741910323 : Int64))).toUInt64 >>> ((4 : Int32).toInt64.toUInt64 &&& Int64.toUInt64 63)).toInt64)) &&& (1085102592571150095 : Int64)).toUInt64 >>> ((8 : Int32).toInt64.toUInt64 &&& Int64.toUInt64 63)).toInt64)) + ((((((((p0 - (((p0.toUInt64 >>> ((1 : Int32).toInt64.toUInt64 &&& Int64.toUInt64 63)).toInt64) &&& (6148914691236517205 : Int64))) &&& (3689348814741910323 : Int64)) + ((((p0 - (((p0.toUInt64 >>> ((1 : Int32).toInt64.toUInt64 &&& Int64.toUInt64 63)).toInt64) &&& (6148914691236517205 : Int64))).toUInt64 >>> ((2 : Int32).toInt64.toUInt64 &&& Int64.toUInt64 63)).toInt64) &&& (3689348814741910323 : Int64))) + (((((p0 - (((p0.toUInt64 >>> ((1 : Int32).toInt64.toUInt64 &&& Int64.toUInt64 63)).toInt64) &&& (6148914691236517205 : Int64))) &&& (3689348814741910323 : Int64)) + ((((p0 - (((p0.toUInt64 >>> ((1 : Int32).toInt64.toUInt64 &&& Int64.toUInt64 63)).toInt64) &&& (6148914691236517205 : Int64))).toUInt64 >>> ((2 : Int32).toInt64.toUInt64 &&& Int64.toUInt64 63)).toInt64) &&& (3689348814741910323 : Int64))).toUInt64 >>> ((4 : Int32).toInt64.toUInt64 &&& Int64.toUInt64 63)).toInt64)) &&& (1085102592571150095 : Int64)) + (((((((p0 - (((p0.toUInt64 >>> ((1 : Int32).toInt64.toUInt64 &&& Int64.toUInt64 63)).toInt64) &&& (6148914691236517205 : Int64))) &&& (3689348814741910323 : Int64)) + ((((p0 - (((p0.toUInt64 >>> ((1 : Int32).toInt64.toUInt64 &&& Int64.toUInt64 63)).toInt64) &&& (6148914691236517205 : Int64))).toUInt64 >>> ((2 : Int32).toInt64.toUInt64 &&& Int64.toUInt64 63)).toInt64) &&& (3689348814741910323 : Int64))) + (((((p0 - (((p0.toUInt64 >>> ((1 : Int32).toInt64.toUInt64 &&& Int64.toUInt64 63)).toInt64) &&& (6148914691236517205 : Int64))) &&& (3689348814741910323 : Int64)) + ((((p0 - (((p0.toUInt64 >>> ((1 : Int32).toInt64.toUInt64 &&& Int64.toUInt64 63)).toInt64) &&& (6148914691236517205 : Int64))).toUInt64 >>> ((2 : Int32).toInt64.toUInt64 &&& Int64.toUInt64 63)).toInt64) &&& (3689348814741910323 : Int64))).toUInt64 >>> ((4 : Int32).toInt64.toUInt64 &&& Int64.toUInt64 63)).toInt64)) &&& (1085102592571150095 : Int64)).toUInt64 >>> ((8 : Int32).toInt64.toUInt64 &&& Int64.toUInt64 63)).toInt64)).toUInt64 >>> ((16 : Int32).toInt64.toUInt64 &&& Int64.toUInt64 63)).toInt64)))] dJ13_bitCount_95d88_47 rfl (by decide) rfl ?_
  refine r_lload_n (pc := 48) 0 dJ13_bitCount_95d88_48 rfl rfl ?_
  refine r_lload_n (pc := 49) 0 dJ13_bitCount_95d88_49 rfl rfl ?_
  refine r_bipush (pc := 50) dJ13_bitCount_95d88_50 kc_bipush_32 ?_
  refine r_lushr (pc := 52) dJ13_bitCount_95d88_52 ?_
  refine r_ladd (pc := 53) dJ13_bitCount_95d88_53 ?_
  refine r_lstore_n (pc := 54) [(0, .long ((((((((p0 - (((p0.toUInt64 >>> ((1 : Int32).toInt64.toUInt64 &&& Int64.toUInt64 63)).toInt64) &&& (6148914691236517205 : Int64))) &&& (3689348814741910323 : Int64)) + ((((p0 - (((p0.toUInt64 >>> ((1 : Int32).toInt64.toUInt64 &&& Int64.toUInt64 63)).toInt64) &&& (6148914691236517205 : Int64))).toUInt64 >>> ((2 : Int32).toInt64.toUInt64 &&& Int64.toUInt64 63)).toInt64) &&& (3689348814741910323 : Int64))) + (((((p0 - (((p0.toUInt64 >>> ((1 : Int32).toInt64.toUInt64 &&& Int64.toUInt64 63)).toInt64) &&& (6148914691236517205 : Int64))) &&& (3689348814741910323 : Int64)) + ((((p0 - (((p0.toUInt64 >>> ((1 : Int32).toInt64.toUInt64 &&& Int64.toUInt64 63)).toInt64) &&& (6148914691236517205 : Int64))).toUInt64 >>> ((2 : Int32).toInt64.toUInt64 &&& Int64.toUInt64 63)).toInt64) &&& (3689348814741910323 : Int64))).toUInt64 >>> ((4 : Int32).toInt64.toUInt64 &&& Int64.toUInt64 63)).toInt64)) &&& (1085102592571150095 : Int64)) + (((((((p0 - (((p0.toUInt64 >>> ((1 : Int32).toInt64.toUInt64 &&& Int64.toUInt64 63)).toInt64) &&& (6148914691236517205 : Int64))) &&& (3689348814741910323 : Int64)) + ((((p0 - (((p0.toUInt64 >>> ((1 : Int32).toInt64.toUInt64 &&& Int64.toUInt64 63)).toInt64) &&& (6148914691236517205 : Int64))).toUInt64 >>> ((2 : Int32).toInt64.toUInt64 &&& Int64.toUInt64 63)).toInt64) &&& (3689348814741910323 : Int64))) + (((((p0 - (((p0.toUInt64 >>> ((1 : Int32).toInt64.toUInt64 &&& Int64.toUInt64 63)).toInt64) &&& (6148914691236517205 : Int64))) &&& (3689348814741910323 : Int64)) + ((((p0 - (((p0.toUInt64 >>> ((1 : Int32).toInt64.toUInt64 &&& Int64.toUInt64 63)).toInt64) &&& (6148914691236517205 : Int64))).toUInt64 >>> ((2 : Int32).toInt64.toUInt64 &&& Int64.toUInt64 63)).toInt64) &&& (3689348814741910323 : Int64))).toUInt64 >>> ((4 : Int32).toInt64.toUInt64 &&& Int64.toUInt64 63)).toInt64)) &&& (1085102592571150095 : Int64)).toUInt64 >>> ((8 : Int32).toInt64.toUInt64 &&& Int64.toUInt64 63)).toInt64)) + ((((((((p0 - (((p0.toUInt64 >>> ((1 : Int32).toInt64.toUInt64 &&& Int64.toUInt64 63)).toInt64) &&& (6148914691236517205 : Int64))) &&& (3689348814741910323 : Int64)) + ((((p0 - (((p0.toUInt64 >>> ((1 : Int32).toInt64.toUInt64 &&& Int64.toUInt64 63)).toInt64) &&& (6148914691236517205 : Int64))).toUInt64 >>> ((2 : Int32).toInt64.toUInt64 &&& Int64.toUInt64 63)).toInt64) &&& (3689348814741910323 : Int64))) + (((((p0 - (((p0.toUInt64 >>> ((1 : Int32).toInt64.toUInt64 &&& Int64.toUInt64 63)).toInt64) &&& (6148914691236517205 : Int64))) &&& (3689348814741910323 : Int64)) + ((((p0 - (((p0.toUInt64 >>> ((1 : Int32).toInt64.toUInt64 &&& Int64.toUInt64 63)).toInt64) &&& (6148914691236517205 : Int64))).toUInt64 >>> ((2 : Int32).toInt64.toUInt64 &&& Int64.toUInt64 63)).toInt64) &&& (3689348814741910323 : Int64))).toUInt64 >>> ((4 : Int32).toInt64.toUInt64 &&& Int64.toUInt64 63)).toInt64)) &&& (1085102592571150095 : Int64)) + (((((((p0 - (((p0.toUInt64 >>> ((1 : Int32).toInt64.toUInt64 &&& Int64.toUInt64 63)).toInt64) &&& (6148914691236517205 : Int64))) &&& (3689348814741910323 : Int64)) + ((((p0 - (((p0.toUInt64 >>> ((1 : Int32).toInt64.toUInt64 &&& Int64.toUInt64 63)).toInt64) &&& (6148914691236517205 : Int64))).toUInt64 >>> ((2 : Int32).toInt64.toUInt64 &&& Int64.toUInt64 63)).toInt64) &&& (3689348814741910323 : Int64))) + (((((p0 - (((p0.toUInt64 >>> ((1 : Int32).toInt64.toUInt64 &&& Int64.toUInt64 63)).toInt64) &&& (6148914691236517205 : Int64))) &&& (3689348814741910323 : Int64)) + ((((p0 - (((p0.toUInt64 >>> ((1 : Int32).toInt64.toUInt64 &&& Int64.toUInt64 63)).toInt64) &&& (6148914691236517205 : Int64))).toUInt64 >>> ((2 : Int32).toInt64.toUInt64 &&& Int64.toUInt64 63)).toInt64) &&& (3689348814741910323 : Int64))).toUInt64 >>> ((4 : Int32).toInt64.toUInt64 &&& Int64.toUInt64 63)).toInt64)) &&& (1085102592571150095 : Int64)).toUInt64 >>> ((8 : Int32).toInt64.toUInt64 &&& Int64.toUInt64 63)).toInt64)).toUInt64 >>> ((16 : Int32).toInt64.toUInt64 &&& Int64.toUInt64 63)).toInt64)) + (((((((((p0 - (((p0.toUInt64 >>> ((1 : Int32).toInt64.toUInt64 &&& Int64.toUInt64 63)).toInt64) &&& (6148914691236517205 : Int64))) &&& (3689348814741910323 : Int64)) + ((((p0 - (((p0.toUInt64 >>> ((1 : Int32).toInt64.toUInt64 &&& Int64.toUInt64 63)).toInt64) &&& (6148914691236517205 : Int64))).toUInt64 >>> ((2 : Int32).toInt64.toUInt64 &&& Int64.toUInt64 63)).toInt64) &&& (3689348814741910323 : Int64))) + (((((p0 - (((p0.toUInt64 >>> ((1 : Int32).toInt64.toUInt64 &&& Int64.toUInt64 63)).toInt64) &&& (6148914691236517205 : Int64))) &&& (3689348814741910323 : Int64)) + ((((p0 - (((p0.toUInt64 >>> ((1 : Int32).toInt64.toUInt64 &&& Int64.toUInt64 63)).toInt64) &&& (6148914691236517205 : Int64))).toUInt64 >>> ((2 : Int32).toInt64.toUInt64 &&& Int64.toUInt64 63)).toInt64) &&& (3689348814741910323 : Int64))).toUInt64 >>> ((4 : Int32).toInt64.toUInt64 &&& Int64.toUInt64 63)).toInt64)) &&& (1085102592571150095 : Int64)) + (((((((p0 - (((p0.toUInt64 >>> ((1 : Int32).toInt64.toUInt64 &&& Int64.toUInt64 63)).toInt64) &&& (6148914691236517205 : Int64))) &&& (3689348814741910323 : Int64)) + ((((p0 - (((p0.toUInt64 >>> ((1 : Int32).toInt64.toUInt64 &&& Int64.toUInt64 63)).toInt64) &&& (6148914691236517205 : Int64))).toUInt64 >>> ((2 : Int32).toInt64.toUInt64 &&& Int64.toUInt64 63)).toInt64) &&& (3689348814741910323 : Int64))) + (((((p0 - (((p0.toUInt64 >>> ((1 : Int32).toInt64.toUInt64 &&& Int64.toUInt64 63)).toInt64) &&& (6148914691236517205 : Int64))) &&& (3689348814741910323 : Int64)) + ((((p0 - (((p0.toUInt64 >>> ((1 : Int32).toInt64.toUInt64 &&& Int64.toUInt64 63)).toInt64) &&& (6148914691236517205 : Int64))).toUInt64 >>> ((2 : Int32).toInt64.toUInt64 &&& Int64.toUInt64 63)).toInt64) &&& (3689348814741910323 : Int64))).toUInt64 >>> ((4 : Int32).toInt64.toUInt64 &&& Int64.toUInt64 63)).toInt64)) &&& (1085102592571150095 : Int64)).toUInt64 >>> ((8 : Int32).toInt64.toUInt64 &&& Int64.toUInt64 63)).toInt64)) + ((((((((p0 - (((p0.toUInt64 >>> ((1 : Int32).toInt64.toUInt64 &&& Int64.toUInt64 63)).toInt64) &&& (6148914691236517205 : Int64))) &&& (3689348814741910323 : Int64)) + ((((p0 - (((p0.toUInt64 >>> ((1 : Int32).toInt64.toUInt64 &&& Int64.toUInt64 63)).toInt64) &&& (6148914691236517205 : Int64))).toUInt64 >>> ((2 : Int32).toInt64.toUInt64 &&& Int64.toUInt64 63)).toInt64) &&& (3689348814741910323 : Int64))) + (((((p0 - (((p0.toUInt64 >>> ((1 : Int32).toInt64.toUInt64 &&& Int64.toUInt64 63)).toInt64) &&& (6148914691236517205 : Int64))) &&& (3689348814741910323 : Int64)) + ((((p0 - (((p0.toUInt64 >>> ((1 : Int32).toInt64.toUInt64 &&& Int64.toUInt64 63)).toInt64) &&& (6148914691236517205 : Int64))).toUInt64 >>> ((2 : Int32).toInt64.toUInt64 &&& Int64.toUInt64 63)).toInt64) &&& (3689348814741910323 : Int64))).toUInt64 >>> ((4 : Int32).toInt64.toUInt64 &&& Int64.toUInt64 63)).toInt64)) &&& (1085102592571150095 : Int64)) + (((((((p0 - (((p0.toUInt64 >>> ((1 : Int32).toInt64.toUInt64 &&& Int64.toUInt64 63)).toInt64) &&& (6148914691236517205 : Int64))) &&& (3689348814741910323 : Int64)) + ((((p0 - (((p0.toUInt64 >>> ((1 : Int32).toInt64.toUInt64 &&& Int64.toUInt64 63)).toInt64) &&& (6148914691236517205 : Int64))).toUInt64 >>> ((2 : Int32).toInt64.toUInt64 &&& Int64.toUInt64 63)).toInt64) &&& (3689348814741910323 : Int64))) + (((((p0 - (((p0.toUInt64 >>> ((1 : Int32).toInt64.toUInt64 &&& Int64.toUInt64 63)).toInt64) &&& (6148914691236517205 : Int64))) &&& (3689348814741910323 : Int64)) + ((((p0 - (((p0.toUInt64 >>> ((1 : Int32).toInt64.toUInt64 &&& Int64.toUInt64 63)).toInt64) &&& (6148914691236517205 : Int64))).toUInt64 >>> ((2 : Int32).toInt64.toUInt64 &&& Int64.toUInt64 63)).toInt64) &&& (3689348814741910323 : Int64))).toUInt64 >>> ((4 : Int32).toInt64.toUInt64 &&& Int64.toUInt64 63)).toInt64)) &&& (1085102592571150095 : Int64)).toUInt64 >>> ((8 : Int32).toInt64.toUInt64 &&& Int64.toUInt64 63)).toInt64)).toUInt64 >>> ((16 : Int32).toInt64.toUInt64 &&& Int64.toUInt64 63)).toInt64)).toUInt64 >>> ((32 : Int32).toInt64.toUInt64 &&& Int64.toUInt64 63)).toInt64)))] dJ13_bitCount_95d88_54 rfl (by decide) rfl ?_
  refine r_lload_n (pc := 55) 0 dJ13_bitCount_95d88_55 rfl rfl ?_
  refine r_l2i (pc := 56) dJ13_bitCount_95d88_56 ?_
  refine r_bipush (pc := 57) dJ13_bitCount_95d88_57 kc_bipush_127 ?_
  refine r_iand (pc := 59) dJ13_bitCount_95d88_59 ?_
  exact r_iret (pc := 60) rfl dJ13_bitCount_95d88_60
theorem ok_J13_bitCount_95d88 : yOk yJ13_bitCount_95d88 cJ13_bitCount_95d88 2 (some .int) := ⟨in_lwG (by decide +kernel) rfl, in_lwG (by decide +kernel) rfl, by decide, by decide, by decide⟩
theorem k_J13_bitCount_95d88 {en : En} {Ex : (Nat → Prop) → State → Prop} {mi : Mi} {α : Type} {ev : α → Option Value × Sg} {pc index : Nat} {lv : List (Nat × Value)} {rest : List Value} {σ : Sg} {N : Nat} {k : (Int32 × Sg) → Option α} {p0 : Int64} (hlink : Cond.methodLink mi.1 index yJ13_bitCount_95d88 ∈ lwG) (hroom : 1 + 1 ≤ mi.2.2.2.2) (hcat : (rest.map fun v => v.category).sum ≤ 8) (hd : decode mi.2.1 pc = .ok (.invokestatic index, 3))  (h : ∀ w : Int32 × Sg, f_J13_bitCount_95d88 N p0 σ = some w → RR en Ex mi ev (pc + 3) lv (.int w.1 :: rest) w.2 (k w)) : RR en Ex mi ev pc lv (.long p0 :: rest) σ ((f_J13_bitCount_95d88 N p0 σ).bind k) :=
  r_callS (n := 1) [.long p0] ok_J13_bitCount_95d88 hlink (in_lwG (by decide +kernel) rfl) (by decide +kernel) rfl hroom (by decide) hcat (R_J13_bitCount_95d88 en N p0  σ) (Nat.le_of_ble_eq_true rfl) hd h
set_option maxHeartbeats 4000000 in
theorem R_J6_bitCount_0f7a4 (en : En) (N : Nat) (p0 : Int32)  (σ : Sg) : RR en ExT mi_J6_bitCount_0f7a4 evI 0 [(0, .int p0)] [] σ (f_J6_bitCount_0f7a4 N p0 σ) := by
  unfold f_J6_bitCount_0f7a4
  refine r_iload_n (pc := 0) 0 dJ6_bitCount_0f7a4_0 rfl rfl ?_
  refine r_iload_n (pc := 1) 0 dJ6_bitCount_0f7a4_1 rfl rfl ?_
  refine r_iconst (pc := 2) dJ6_bitCount_0f7a4_2 kc_iconst_1 ?_
  refine r_iushr (pc := 3) dJ6_bitCount_0f7a4_3 ?_
  refine r_ldcw (pc := 4) lc_RJ6_265 dJ6_bitCount_0f7a4_4 ?_
  refine r_iand (pc := 7) dJ6_bitCount_0f7a4_7 ?_
  refine r_isub (pc := 8) dJ6_bitCount_0f7a4_8 ?_
  refine r_istore_n (pc := 9) [(0, .int (p0 - (((p0.toUInt32 >>> ((1 : Int32).toUInt32 &&& Int32.toUInt32 31)).toInt32) &&& (1431655765 : Int32))))] dJ6_bitCount_0f7a4_9 rfl (by decide) rfl ?_
  refine r_iload_n (pc := 10) 0 dJ6_bitCount_0f7a4_10 rfl rfl ?_
  refine r_ldcw (pc := 11) lc_RJ6_266 dJ6_bitCount_0f7a4_11 ?_
  refine r_iand (pc := 14) dJ6_bitCount_0f7a4_14 ?_
  refine r_iload_n (pc := 15) 0 dJ6_bitCount_0f7a4_15 rfl rfl ?_
  refine r_iconst (pc := 16) dJ6_bitCount_0f7a4_16 kc_iconst_2 ?_
  refine r_iushr (pc := 17) dJ6_bitCount_0f7a4_17 ?_
  refine r_ldcw (pc := 18) lc_RJ6_266 dJ6_bitCount_0f7a4_18 ?_
  refine r_iand (pc := 21) dJ6_bitCount_0f7a4_21 ?_
  refine r_iadd (pc := 22) dJ6_bitCount_0f7a4_22 ?_
  refine r_istore_n (pc := 23) [(0, .int (((p0 - (((p0.toUInt32 >>> ((1 : Int32).toUInt32 &&& Int32.toUInt32 31)).toInt32) &&& (1431655765 : Int32))) &&& (858993459 : Int32)) + ((((p0 - (((p0.toUInt32 >>> ((1 : Int32).toUInt32 &&& Int32.toUInt32 31)).toInt32) &&& (1431655765 : Int32))).toUInt32 >>> ((2 : Int32).toUInt32 &&& Int32.toUInt32 31)).toInt32) &&& (858993459 : Int32))))] dJ6_bitCount_0f7a4_23 rfl (by decide) rfl ?_
  refine r_iload_n (pc := 24) 0 dJ6_bitCount_0f7a4_24 rfl rfl ?_
  refine r_iload_n (pc := 25) 0 dJ6_bitCount_0f7a4_25 rfl rfl ?_
  refine r_iconst (pc := 26) dJ6_bitCount_0f7a4_26 kc_iconst_4 ?_
  refine r_iushr (pc := 27) dJ6_bitCount_0f7a4_27 ?_
  refine r_iadd (pc := 28) dJ6_bitCount_0f7a4_28 ?_
  refine r_ldcw (pc := 29) lc_RJ6_267 dJ6_bitCount_0f7a4_29 ?_
  refine r_iand (pc := 32) dJ6_bitCount_0f7a4_32 ?_
  refine r_istore_n (pc := 33) [(0, .int (((((p0 - (((p0.toUInt32 >>> ((1 : Int32).toUInt32 &&& Int32.toUInt32 31)).toInt32) &&& (1431655765 : Int32))) &&& (858993459 : Int32)) + ((((p0 - (((p0.toUInt32 >>> ((1 : Int32).toUInt32 &&& Int32.toUInt32 31)).toInt32) &&& (1431655765 : Int32))).toUInt32 >>> ((2 : Int32).toUInt32 &&& Int32.toUInt32 31)).toInt32) &&& (858993459 : Int32))) + (((((p0 - (((p0.toUInt32 >>> ((1 : Int32).toUInt32 &&& Int32.toUInt32 31)).toInt32) &&& (1431655765 : Int32))) &&& (858993459 : Int32)) + ((((p0 - (((p0.toUInt32 >>> ((1 : Int32).toUInt32 &&& Int32.toUInt32 31)).toInt32) &&& (1431655765 : Int32))).toUInt32 >>> ((2 : Int32).toUInt32 &&& Int32.toUInt32 31)).toInt32) &&& (858993459 : Int32))).toUInt32 >>> ((4 : Int32).toUInt32 &&& Int32.toUInt32 31)).toInt32)) &&& (252645135 : Int32)))] dJ6_bitCount_0f7a4_33 rfl (by decide) rfl ?_
  refine r_iload_n (pc := 34) 0 dJ6_bitCount_0f7a4_34 rfl rfl ?_
  refine r_iload_n (pc := 35) 0 dJ6_bitCount_0f7a4_35 rfl rfl ?_
  refine r_bipush (pc := 36) dJ6_bitCount_0f7a4_36 kc_bipush_8 ?_
  refine r_iushr (pc := 38) dJ6_bitCount_0f7a4_38 ?_
  refine r_iadd (pc := 39) dJ6_bitCount_0f7a4_39 ?_
  refine r_istore_n (pc := 40) [(0, .int ((((((p0 - (((p0.toUInt32 >>> ((1 : Int32).toUInt32 &&& Int32.toUInt32 31)).toInt32) &&& (1431655765 : Int32))) &&& (858993459 : Int32)) + ((((p0 - (((p0.toUInt32 >>> ((1 : Int32).toUInt32 &&& Int32.toUInt32 31)).toInt32) &&& (1431655765 : Int32))).toUInt32 >>> ((2 : Int32).toUInt32 &&& Int32.toUInt32 31)).toInt32) &&& (858993459 : Int32))) + (((((p0 - (((p0.toUInt32 >>> ((1 : Int32).toUInt32 &&& Int32.toUInt32 31)).toInt32) &&& (1431655765 : Int32))) &&& (858993459 : Int32)) + ((((p0 - (((p0.toUInt32 >>> ((1 : Int32).toUInt32 &&& Int32.toUInt32 31)).toInt32) &&& (1431655765 : Int32))).toUInt32 >>> ((2 : Int32).toUInt32 &&& Int32.toUInt32 31)).toInt32) &&& (858993459 : Int32))).toUInt32 >>> ((4 : Int32).toUInt32 &&& Int32.toUInt32 31)).toInt32)) &&& (252645135 : Int32)) + (((((((p0 - (((p0.toUInt32 >>> ((1 : Int32).toUInt32 &&& Int32.toUInt32 31)).toInt32) &&& (1431655765 : Int32))) &&& (858993459 : Int32)) + ((((p0 - (((p0.toUInt32 >>> ((1 : Int32).toUInt32 &&& Int32.toUInt32 31)).toInt32) &&& (1431655765 : Int32))).toUInt32 >>> ((2 : Int32).toUInt32 &&& Int32.toUInt32 31)).toInt32) &&& (858993459 : Int32))) + (((((p0 - (((p0.toUInt32 >>> ((1 : Int32).toUInt32 &&& Int32.toUInt32 31)).toInt32) &&& (1431655765 : Int32))) &&& (858993459 : Int32)) + ((((p0 - (((p0.toUInt32 >>> ((1 : Int32).toUInt32 &&& Int32.toUInt32 31)).toInt32) &&& (1431655765 : Int32))).toUInt32 >>> ((2 : Int32).toUInt32 &&& Int32.toUInt32 31)).toInt32) &&& (858993459 : Int32))).toUInt32 >>> ((4 : Int32).toUInt32 &&& Int32.toUInt32 31)).toInt32)) &&& (252645135 : Int32)).toUInt32 >>> ((8 : Int32).toUInt32 &&& Int32.toUInt32 31)).toInt32)))] dJ6_bitCount_0f7a4_40 rfl (by decide) rfl ?_
  refine r_iload_n (pc := 41) 0 dJ6_bitCount_0f7a4_41 rfl rfl ?_
  refine r_iload_n (pc := 42) 0 dJ6_bitCount_0f7a4_42 rfl rfl ?_
  refine r_bipush (pc := 43) dJ6_bitCount_0f7a4_43 kc_bipush_16 ?_
  refine r_iushr (pc := 45) dJ6_bitCount_0f7a4_45 ?_
  refine r_iadd (pc := 46) dJ6_bitCount_0f7a4_46 ?_
  refine r_istore_n (pc := 47) [(0, .int (((((((p0 - (((p0.toUInt32 >>> ((1 : Int32).toUInt32 &&& Int32.toUInt32 31)).toInt32) &&& (1431655765 : Int32))) &&& (858993459 : Int32)) + ((((p0 - (((p0.toUInt32 >>> ((1 : Int32).toUInt32 &&& Int32.toUInt32 31)).toInt32) &&& (1431655765 : Int32))).toUInt32 >>> ((2 : Int32).toUInt32 &&& Int32.toUInt32 31)).toInt32) &&& (858993459 : Int32))) + (((((p0 - (((p0.toUInt32 >>> ((1 : Int32).toUInt32 &&& Int32.toUInt32 31)).toInt32) &&& (1431655765 : Int32))) &&& (858993459 : Int32)) + ((((p0 - (((p0.toUInt32 >>> ((1 : Int32).toUInt32 &&& Int32.toUInt32 31)).toInt32) &&& (1431655765 : Int32))).toUInt32 >>> ((2 : Int32).toUInt32 &&& Int32.toUInt32 31)).toInt32) &&& (858993459 : Int32))).toUInt32 >>> ((4 : Int32).toUInt32 &&& Int32.toUInt32 31)).toInt32)) &&& (252645135 : Int32)) + (((((((p0 - (((p0.toUInt32 >>> ((1 : Int32).toUInt32 &&& Int32.toUInt32 31)).toInt32) &&& (1431655765 : Int32))) &&& (858993459 : Int32)) + ((((p0 - (((p0.toUInt32 >>> ((1 : Int32).toUInt32 &&& Int32.toUInt32 31)).toInt32) &&& (1431655765 : Int32))).toUInt32 >>> ((2 : Int32).toUInt32 &&& Int32.toUInt32 31)).toInt32) &&& (858993459 : Int32))) + (((((p0 - (((p0.toUInt32 >>> ((1 : Int32).toUInt32 &&& Int32.toUInt32 31)).toInt32) &&& (1431655765 : Int32))) &&& (858993459 : Int32)) + ((((p0 - (((p0.toUInt32 >>> ((1 : Int32).toUInt32 &&& Int32.toUInt32 31)).toInt32) &&& (1431655765 : Int32))).toUInt32 >>> ((2 : Int32).toUInt32 &&& Int32.toUInt32 31)).toInt32) &&& (858993459 : Int32))).toUInt32 >>> ((4 : Int32).toUInt32 &&& Int32.toUInt32 31)).toInt32)) &&& (252645135 : Int32)).toUInt32 >>> ((8 : Int32).toUInt32 &&& Int32.toUInt32 31)).toInt32)) + ((((((((p0 - (((p0.toUInt32 >>> ((1 : Int32).toUInt32 &&& Int32.toUInt32 31)).toInt32) &&& (1431655765 : Int32))) &&& (858993459 : Int32)) + ((((p0 - (((p0.toUInt32 >>> ((1 : Int32).toUInt32 &&& Int32.toUInt32 31)).toInt32) &&& (1431655765 : Int32))).toUInt32 >>> ((2 : Int32).toUInt32 &&& Int32.toUInt32 31)).toInt32) &&& (858993459 : Int32))) + (((((p0 - (((p0.toUInt32 >>> ((1 : Int32).toUInt32 &&& Int32.toUInt32 31)).toInt32) &&& (1431655765 : Int32))) &&& (858993459 : Int32)) + ((((p0 - (((p0.toUInt32 >>> ((1 : Int32).toUInt32 &&& Int32.toUInt32 31)).toInt32) &&& (1431655765 : Int32))).toUInt32 >>> ((2 : Int32).toUInt32 &&& Int32.toUInt32 31)).toInt32) &&& (858993459 : Int32))).toUInt32 >>> ((4 : Int32).toUInt32 &&& Int32.toUInt32 31)).toInt32)) &&& (252645135 : Int32)) + (((((((p0 - (((p0.toUInt32 >>> ((1 : Int32).toUInt32 &&& Int32.toUInt32 31)).toInt32) &&& (1431655765 : Int32))) &&& (858993459 : Int32)) + ((((p0 - (((p0.toUInt32 >>> ((1 : Int32).toUInt32 &&& Int32.toUInt32 31)).toInt32) &&& (1431655765 : Int32))).toUInt32 >>> ((2 : Int32).toUInt32 &&& Int32.toUInt32 31)).toInt32) &&& (858993459 : Int32))) + (((((p0 - (((p0.toUInt32 >>> ((1 : Int32).toUInt32 &&& Int32.toUInt32 31)).toInt32) &&& (1431655765 : Int32))) &&& (858993459 : Int32)) + ((((p0 - (((p0.toUInt32 >>> ((1 : Int32).toUInt32 &&& Int32.toUInt32 31)).toInt32) &&& (1431655765 : Int32))).toUInt32 >>> ((2 : Int32).toUInt32 &&& Int32.toUInt32 31)).toInt32) &&& (858993459 : Int32))).toUInt32 >>> ((4 : Int32).toUInt32 &&& Int32.toUInt32 31)).toInt32)) &&& (252645135 : Int32)).toUInt32 >>> ((8 : Int32).toUInt32 &&& Int32.toUInt32 31)).toInt32)).toUInt32 >>> ((16 : Int32).toUInt32 &&& Int32.toUInt32 31)).toInt32)))] dJ6_bitCount_0f7a4_47 rfl (by decide) rfl ?_
  refine r_iload_n (pc := 48) 0 dJ6_bitCount_0f7a4_48 rfl rfl ?_
  refine r_bipush (pc := 49) dJ6_bitCount_0f7a4_49 kc_bipush_63 ?_
  refine r_iand (pc := 51) dJ6_bitCount_0f7a4_51 ?_
  exact r_iret (pc := 52) rfl dJ6_bitCount_0f7a4_52
theorem ok_J6_bitCount_0f7a4 : yOk yJ6_bitCount_0f7a4 cJ6_bitCount_0f7a4 1 (some .int) := ⟨in_lwG (by decide +kernel) rfl, in_lwG (by decide +kernel) rfl, by decide, by decide, by decide⟩
theorem k_J6_bitCount_0f7a4 {en : En} {Ex : (Nat → Prop) → State → Prop} {mi : Mi} {α : Type} {ev : α → Option Value × Sg} {pc index : Nat} {lv : List (Nat × Value)} {rest : List Value} {σ : Sg} {N : Nat} {k : (Int32 × Sg) → Option α} {p0 : Int32} (hlink : Cond.methodLink mi.1 index yJ6_bitCount_0f7a4 ∈ lwG) (hroom : 1 + 1 ≤ mi.2.2.2.2) (hcat : (rest.map fun v => v.category).sum ≤ 8) (hd : decode mi.2.1 pc = .ok (.invokestatic index, 3))  (h : ∀ w : Int32 × Sg, f_J6_bitCount_0f7a4 N p0 σ = some w → RR en Ex mi ev (pc + 3) lv (.int w.1 :: rest) w.2 (k w)) : RR en Ex mi ev pc lv (.int p0 :: rest) σ ((f_J6_bitCount_0f7a4 N p0 σ).bind k) :=
  r_callS (n := 1) [.int p0] ok_J6_bitCount_0f7a4 hlink (in_lwG (by decide +kernel) rfl) (by decide +kernel) rfl hroom (by decide) hcat (R_J6_bitCount_0f7a4 en N p0  σ) (Nat.le_of_ble_eq_true rfl) hd h
set_option maxHeartbeats 4000000 in
theorem RL_J7_fill_031fb_5 (en : En) (N : Nat) {k : Int32 → Sg → Option (Sg)} (a0i : Nat) (a1 : Int32) (a3 : Int32) (ha0i : a0i < 4) (hk : ∀ (v2 : Int32) (σ : Sg), RR en ExT mi_J7_fill_031fb evV 20 [] [] σ (k v2 σ)) : ∀ (n : Nat) (v2 : Int32) (σ : Sg), RR en ExT mi_J7_fill_031fb evV 5 [(0, .ref (ad en 6 a0i 0)), (1, .int a1), (2, .int v2), (3, .int a3)] [] σ (L_J7_fill_031fb_5 N k a0i a1 a3 n v2 σ) := by
  intro n
  induction n with
  | zero => intro v2 σ; exact r_none
  | succ n ih =>
    intro v2 σ
    rw [L_J7_fill_031fb_5_s]
    refine r_iload_n (pc := 5) 2 dJ7_fill_031fb_5 rfl rfl ?_
    refine r_iload_n (pc := 6) 3 dJ7_fill_031fb_6 rfl rfl ?_
    refine r_icmp_ge (pc := 7) 20 dJ7_fill_031fb_7 (by decide) (fun h1 => ?_) (fun h1 => ?_)
    · exact r_sub [] rfl (hk v2 σ)
    · refine r_aload_n (pc := 10) 0 dJ7_fill_031fb_10 rfl rfl ?_
      refine r_iload_n (pc := 11) 2 dJ7_fill_031fb_11 rfl rfl ?_
      refine r_iload_n (pc := 12) 1 dJ7_fill_031fb_12 rfl rfl ?_
      refine r_bast (pc := 13) (n := 60) (o6 ha0i) rfl rfl dJ7_fill_031fb_13 (fun h2 => ?_)
      refine r_iinc (pc := 14) 2 [(2, .int (v2 + (1 : Int32))), (0, .ref (ad en 6 a0i 0)), (1, .int a1), (3, .int a3)] dJ7_fill_031fb_14 rfl rfl (by decide) rfl ?_
      refine r_goto (pc := 17) 5 dJ7_fill_031fb_17 (by decide) ?_
      exact r_sub [1, 2, 0, 3] rfl (ih (v2 + (1 : Int32)) (uI σ 6 a0i 0 v2.toNatClampNeg (vp_nar .byte a1)))
set_option maxHeartbeats 4000000 in
theorem R_J7_fill_031fb (en : En) (N : Nat) (ai : Nat) (p1 : Int32) (hai : ai < 4) (σ : Sg) : RR en ExT mi_J7_fill_031fb evV 0 [(0, .ref (ad en 6 ai 0)), (1, .int p1)] [] σ (f_J7_fill_031fb N ai p1 σ) := by
  unfold f_J7_fill_031fb
  refine r_iconst (pc := 0) dJ7_fill_031fb_0 kc_iconst_0 ?_
  refine r_istore_n (pc := 1) [(2, .int (0 : Int32)), (0, .ref (ad en 6 ai 0)), (1, .int p1)] dJ7_fill_031fb_1 rfl (by decide) rfl ?_
  refine r_aload_n (pc := 2) 1 dJ7_fill_031fb_2 rfl rfl ?_
  refine r_alen (pc := 3) (k := 1) (o6 hai) rfl rfl rfl dJ7_fill_031fb_3 ?_
  refine r_istore_n (pc := 4) [(3, .int (Int32.ofNat 60)), (2, .int (0 : Int32)), (0, .ref (ad en 6 ai 0)), (1, .int p1)] dJ7_fill_031fb_4 rfl (by decide) rfl ?_
  refine r_sub [2, 3, 1, 0] rfl (RL_J7_fill_031fb_5 en N ai p1 (Int32.ofNat 60) hai (fun v2_1 σ_1 => ?_) N (0 : Int32) σ)
  exact r_vret (pc := 20) rfl dJ7_fill_031fb_20
theorem ok_J7_fill_031fb : yOk yJ7_fill_031fb cJ7_fill_031fb 4 none := ⟨in_lwG (by decide +kernel) rfl, in_lwG (by decide +kernel) rfl, by decide, by decide, by decide⟩
theorem k_J7_fill_031fb {en : En} {Ex : (Nat → Prop) → State → Prop} {mi : Mi} {α : Type} {ev : α → Option Value × Sg} {pc index : Nat} {lv : List (Nat × Value)} {rest : List Value} {σ : Sg} {N : Nat} {k : (Sg) → Option α} {ai : Nat} {p1 : Int32} (hlink : Cond.methodLink mi.1 index yJ7_fill_031fb ∈ lwG) (hroom : 1 + 1 ≤ mi.2.2.2.2) (hcat : (rest.map fun v => v.category).sum ≤ 8) (hd : decode mi.2.1 pc = .ok (.invokestatic index, 3)) (hai : ai < 4) (h : ∀ w : Sg, f_J7_fill_031fb N ai p1 σ = some w → RR en Ex mi ev (pc + 3) lv (rest) w (k w)) : RR en Ex mi ev pc lv (.int p1 :: .ref (ad en 6 ai 0) :: rest) σ ((f_J7_fill_031fb N ai p1 σ).bind k) :=
  r_callS (n := 2) [.ref (ad en 6 ai 0), .int p1] ok_J7_fill_031fb hlink (in_lwG (by decide +kernel) rfl) (by decide +kernel) rfl hroom (by decide) hcat (R_J7_fill_031fb en N ai p1 hai σ) (Nat.le_of_ble_eq_true rfl) hd h
set_option maxHeartbeats 4000000 in
theorem RL_J7_fill_53178_5 (en : En) (N : Nat) {k : Int32 → Sg → Option (Sg)} (ta : Nat) (ai : Nat) (aj : Nat) (an : Nat) (a1 : Int32) (a3 : Int32) (hao : (ta, ai, aj) ∈ obs) (haa : IA en ta ai aj an) (hk : ∀ (v2 : Int32) (σ : Sg), RR en ExT mi_J7_fill_53178 evV 20 [] [] σ (k v2 σ)) : ∀ (n : Nat) (v2 : Int32) (σ : Sg), RR en ExT mi_J7_fill_53178 evV 5 [(0, .ref (ad en ta ai aj)), (1, .int a1), (2, .int v2), (3, .int a3)] [] σ (L_J7_fill_53178_5 N k ta ai aj an a1 a3 n v2 σ) := by
  intro n
  induction n with
  | zero => intro v2 σ; exact r_none
  | succ n ih =>
    intro v2 σ
    rw [L_J7_fill_53178_5_s]
    refine r_iload_n (pc := 5) 2 dJ7_fill_53178_5 rfl rfl ?_
    refine r_iload_n (pc := 6) 3 dJ7_fill_53178_6 rfl rfl ?_
    refine r_icmp_ge (pc := 7) 20 dJ7_fill_53178_7 (by decide) (fun h1 => ?_) (fun h1 => ?_)
    · exact r_sub [] rfl (hk v2 σ)
    · refine r_aload_n (pc := 10) 0 dJ7_fill_53178_10 rfl rfl ?_
      refine r_iload_n (pc := 11) 2 dJ7_fill_53178_11 rfl rfl ?_
      refine r_iload_n (pc := 12) 1 dJ7_fill_53178_12 rfl rfl ?_
      refine r_iast (pc := 13) (n := an) hao (haa _ _) (haa _ _).symm dJ7_fill_53178_13 (fun h2 => ?_)
      refine r_iinc (pc := 14) 2 [(2, .int (v2 + (1 : Int32))), (0, .ref (ad en ta ai aj)), (1, .int a1), (3, .int a3)] dJ7_fill_53178_14 rfl rfl (by decide) rfl ?_
      refine r_goto (pc := 17) 5 dJ7_fill_53178_17 (by decide) ?_
      exact r_sub [1, 2, 0, 3] rfl (ih (v2 + (1 : Int32)) (uI σ ta ai aj v2.toNatClampNeg a1))
set_option maxHeartbeats 4000000 in
theorem R_J7_fill_53178 (en : En) (N : Nat) (ta : Nat) (ai : Nat) (aj : Nat) (an : Nat) (p1 : Int32) (hao : (ta, ai, aj) ∈ obs) (haa : IA en ta ai aj an) (σ : Sg) : RR en ExT mi_J7_fill_53178 evV 0 [(0, .ref (ad en ta ai aj)), (1, .int p1)] [] σ (f_J7_fill_53178 N ta ai aj an p1 σ) := by
  unfold f_J7_fill_53178
  refine r_iconst (pc := 0) dJ7_fill_53178_0 kc_iconst_0 ?_
  refine r_istore_n (pc := 1) [(2, .int (0 : Int32)), (0, .ref (ad en ta ai aj)), (1, .int p1)] dJ7_fill_53178_1 rfl (by decide) rfl ?_
  refine r_aload_n (pc := 2) 1 dJ7_fill_53178_2 rfl rfl ?_
  refine r_alen (pc := 3) (k := 0) hao (haa _ _) rfl rfl dJ7_fill_53178_3 ?_
  refine r_istore_n (pc := 4) [(3, .int (Int32.ofNat an)), (2, .int (0 : Int32)), (0, .ref (ad en ta ai aj)), (1, .int p1)] dJ7_fill_53178_4 rfl (by decide) rfl ?_
  refine r_sub [2, 3, 1, 0] rfl (RL_J7_fill_53178_5 en N ta ai aj an p1 (Int32.ofNat an) hao haa (fun v2_1 σ_1 => ?_) N (0 : Int32) σ)
  exact r_vret (pc := 20) rfl dJ7_fill_53178_20
theorem ok_J7_fill_53178 : yOk yJ7_fill_53178 cJ7_fill_53178 4 none := ⟨in_lwG (by decide +kernel) rfl, in_lwG (by decide +kernel) rfl, by decide, by decide, by decide⟩
theorem k_J7_fill_53178 {en : En} {Ex : (Nat → Prop) → State → Prop} {mi : Mi} {α : Type} {ev : α → Option Value × Sg} {pc index : Nat} {lv : List (Nat × Value)} {rest : List Value} {σ : Sg} {N : Nat} {k : (Sg) → Option α} {ta : Nat} {ai : Nat} {aj : Nat} {an : Nat} {p1 : Int32} (hlink : Cond.methodLink mi.1 index yJ7_fill_53178 ∈ lwG) (hroom : 1 + 1 ≤ mi.2.2.2.2) (hcat : (rest.map fun v => v.category).sum ≤ 8) (hd : decode mi.2.1 pc = .ok (.invokestatic index, 3)) (hao : (ta, ai, aj) ∈ obs) (haa : IA en ta ai aj an) (h : ∀ w : Sg, f_J7_fill_53178 N ta ai aj an p1 σ = some w → RR en Ex mi ev (pc + 3) lv (rest) w (k w)) : RR en Ex mi ev pc lv (.int p1 :: .ref (ad en ta ai aj) :: rest) σ ((f_J7_fill_53178 N ta ai aj an p1 σ).bind k) :=
  r_callS (n := 2) [.ref (ad en ta ai aj), .int p1] ok_J7_fill_53178 hlink (in_lwG (by decide +kernel) rfl) (by decide +kernel) rfl hroom (by decide) hcat (R_J7_fill_53178 en N ta ai aj an p1 hao haa σ) (Nat.le_of_ble_eq_true rfl) hd h
set_option maxHeartbeats 4000000 in
theorem R_X4_wouldBeOver (en : En) (N : Nat) (oi : Nat) (p0 : Int32) (p1 : Int32) (p2 : Int32) (hoi : oi < 5) (σ : Sg) : RR en ExT mi_X4_wouldBeOver evI 0 [(0, .ref (ad en 7 oi 0)), (1, .int p0), (2, .int p1), (3, .int p2)] [] σ (f_X4_wouldBeOver N oi p0 p1 p2 σ) := by
  unfold f_X4_wouldBeOver
  refine r_aload_n (pc := 0) 0 dX4_wouldBeOver_0 rfl rfl ?_
  refine g_X4_panes (pc := 1) hoi lf_RX4_11 dX4_wouldBeOver_1 ?_
  refine r_iload_n (pc := 4) 1 dX4_wouldBeOver_4 rfl rfl ?_
  refine r_aald (pc := 5) (n := 7) (k := 7) (o8 hoi) rfl rfl rfl dX4_wouldBeOver_5 (fun h1 => ?_)
  refine g_X2_kind (pc := 6) hoi (ib_lt h1) lf_RX4_29 dX4_wouldBeOver_6 ?_
  refine r_iconst (pc := 9) dX4_wouldBeOver_9 kc_iconst_3 ?_
  refine r_icmp_ne (pc := 10) 17 dX4_wouldBeOver_10 (by decide) (fun h2 => ?_) (fun h2 => ?_)
  · refine r_iconst (pc := 13) dX4_wouldBeOver_13 kc_iconst_1 ?_
    refine r_goto (pc := 14) 18 dX4_wouldBeOver_14 (by decide) ?_
    refine r_istore (pc := 18) [(4, .int (1 : Int32)), (0, .ref (ad en 7 oi 0)), (1, .int p0), (2, .int p1), (3, .int p2)] dX4_wouldBeOver_18 (by decide) rfl ?_
    refine r_aload_n (pc := 20) 1 dX4_wouldBeOver_20 rfl rfl ?_
    refine g_X4_panes (pc := 21) hoi lf_RX4_11 dX4_wouldBeOver_21 ?_
    refine r_iload_n (pc := 24) 3 dX4_wouldBeOver_24 rfl rfl ?_
    refine r_aald (pc := 25) (n := 7) (k := 7) (o8 hoi) rfl rfl rfl dX4_wouldBeOver_25 (fun h3 => ?_)
    refine g_X2_kind (pc := 26) hoi (ib_lt h3) lf_RX4_29 dX4_wouldBeOver_26 ?_
    refine r_iconst (pc := 29) dX4_wouldBeOver_29 kc_iconst_3 ?_
    refine r_icmp_ne (pc := 30) 37 dX4_wouldBeOver_30 (by decide) (fun h4 => ?_) (fun h4 => ?_)
    · refine r_iconst (pc := 33) dX4_wouldBeOver_33 kc_iconst_1 ?_
      refine r_goto (pc := 34) 38 dX4_wouldBeOver_34 (by decide) ?_
      refine r_istore (pc := 38) [(5, .int (1 : Int32)), (4, .int (1 : Int32)), (0, .ref (ad en 7 oi 0)), (1, .int p0), (2, .int p1), (3, .int p2)] dX4_wouldBeOver_38 (by decide) rfl ?_
      refine r_iload (pc := 40) 1 dX4_wouldBeOver_40 rfl ?_
      refine r_iload (pc := 42) 0 dX4_wouldBeOver_42 rfl ?_
      refine r_icmp_ne_t (pc := 44) 63 dX4_wouldBeOver_44 (by decide) (by decide) ?_
      refine r_iload_n (pc := 47) 5 dX4_wouldBeOver_47 rfl rfl ?_
      refine r_iload_n (pc := 48) 3 dX4_wouldBeOver_48 rfl rfl ?_
      refine r_ishr (pc := 49) dX4_wouldBeOver_49 ?_
      refine r_iconst (pc := 50) dX4_wouldBeOver_50 kc_iconst_1 ?_
      refine r_iand (pc := 51) dX4_wouldBeOver_51 ?_
      refine r_if_eq (pc := 52) 59 dX4_wouldBeOver_52 (by decide) (fun h5 => ?_) (fun h5 => ?_)
      · refine r_iconst (pc := 59) dX4_wouldBeOver_59 kc_iconst_0 ?_
        refine r_goto (pc := 60) 65 dX4_wouldBeOver_60 (by decide) ?_
        exact r_zret (pc := 65) rfl rfl dX4_wouldBeOver_65
      · refine r_iconst (pc := 55) dX4_wouldBeOver_55 kc_iconst_1 ?_
        refine r_goto (pc := 56) 65 dX4_wouldBeOver_56 (by decide) ?_
        exact r_zret (pc := 65) rfl rfl dX4_wouldBeOver_65
    · refine r_iconst (pc := 37) dX4_wouldBeOver_37 kc_iconst_0 ?_
      refine r_istore (pc := 38) [(5, .int (0 : Int32)), (4, .int (1 : Int32)), (0, .ref (ad en 7 oi 0)), (1, .int p0), (2, .int p1), (3, .int p2)] dX4_wouldBeOver_38 (by decide) rfl ?_
      refine r_iload (pc := 40) 1 dX4_wouldBeOver_40 rfl ?_
      refine r_iload (pc := 42) 0 dX4_wouldBeOver_42 rfl ?_
      refine r_icmp_ne_f (pc := 44) 63 dX4_wouldBeOver_44 (by decide) (by decide) ?_
      refine r_iload (pc := 63) 1 dX4_wouldBeOver_63 rfl ?_
      exact r_zret (pc := 65) rfl rfl dX4_wouldBeOver_65
  · refine r_iconst (pc := 17) dX4_wouldBeOver_17 kc_iconst_0 ?_
    refine r_istore (pc := 18) [(4, .int (0 : Int32)), (0, .ref (ad en 7 oi 0)), (1, .int p0), (2, .int p1), (3, .int p2)] dX4_wouldBeOver_18 (by decide) rfl ?_
    refine r_aload_n (pc := 20) 1 dX4_wouldBeOver_20 rfl rfl ?_
    refine g_X4_panes (pc := 21) hoi lf_RX4_11 dX4_wouldBeOver_21 ?_
    refine r_iload_n (pc := 24) 3 dX4_wouldBeOver_24 rfl rfl ?_
    refine r_aald (pc := 25) (n := 7) (k := 7) (o8 hoi) rfl rfl rfl dX4_wouldBeOver_25 (fun h6 => ?_)
    refine g_X2_kind (pc := 26) hoi (ib_lt h6) lf_RX4_29 dX4_wouldBeOver_26 ?_
    refine r_iconst (pc := 29) dX4_wouldBeOver_29 kc_iconst_3 ?_
    refine r_icmp_ne (pc := 30) 37 dX4_wouldBeOver_30 (by decide) (fun h7 => ?_) (fun h7 => ?_)
    · refine r_iconst (pc := 33) dX4_wouldBeOver_33 kc_iconst_1 ?_
      refine r_goto (pc := 34) 38 dX4_wouldBeOver_34 (by decide) ?_
      refine r_istore (pc := 38) [(5, .int (1 : Int32)), (4, .int (0 : Int32)), (0, .ref (ad en 7 oi 0)), (1, .int p0), (2, .int p1), (3, .int p2)] dX4_wouldBeOver_38 (by decide) rfl ?_
      refine r_iload (pc := 40) 1 dX4_wouldBeOver_40 rfl ?_
      refine r_iload (pc := 42) 0 dX4_wouldBeOver_42 rfl ?_
      refine r_icmp_ne_f (pc := 44) 63 dX4_wouldBeOver_44 (by decide) (by decide) ?_
      refine r_iload (pc := 63) 1 dX4_wouldBeOver_63 rfl ?_
      exact r_zret (pc := 65) rfl rfl dX4_wouldBeOver_65
    · refine r_iconst (pc := 37) dX4_wouldBeOver_37 kc_iconst_0 ?_
      refine r_istore (pc := 38) [(5, .int (0 : Int32)), (4, .int (0 : Int32)), (0, .ref (ad en 7 oi 0)), (1, .int p0), (2, .int p1), (3, .int p2)] dX4_wouldBeOver_38 (by decide) rfl ?_
      refine r_iload (pc := 40) 1 dX4_wouldBeOver_40 rfl ?_
      refine r_iload (pc := 42) 0 dX4_wouldBeOver_42 rfl ?_
      refine r_icmp_ne_t (pc := 44) 63 dX4_wouldBeOver_44 (by decide) (by decide) ?_
      refine r_iload_n (pc := 47) 5 dX4_wouldBeOver_47 rfl rfl ?_
      refine r_iload_n (pc := 48) 3 dX4_wouldBeOver_48 rfl rfl ?_
      refine r_ishr (pc := 49) dX4_wouldBeOver_49 ?_
      refine r_iconst (pc := 50) dX4_wouldBeOver_50 kc_iconst_1 ?_
      refine r_iand (pc := 51) dX4_wouldBeOver_51 ?_
      refine r_if_eq (pc := 52) 59 dX4_wouldBeOver_52 (by decide) (fun h8 => ?_) (fun h8 => ?_)
      · refine r_iconst (pc := 59) dX4_wouldBeOver_59 kc_iconst_0 ?_
        refine r_goto (pc := 60) 65 dX4_wouldBeOver_60 (by decide) ?_
        exact r_zret (pc := 65) rfl rfl dX4_wouldBeOver_65
      · refine r_iconst (pc := 55) dX4_wouldBeOver_55 kc_iconst_1 ?_
        refine r_goto (pc := 56) 65 dX4_wouldBeOver_56 (by decide) ?_
        exact r_zret (pc := 65) rfl rfl dX4_wouldBeOver_65
theorem ok_X4_wouldBeOver : yOk yX4_wouldBeOver cX4_wouldBeOver 6 (some .boolean) := ⟨in_lwG (by decide +kernel) rfl, in_lwG (by decide +kernel) rfl, by decide, by decide, by decide⟩
theorem k_X4_wouldBeOver {en : En} {Ex : (Nat → Prop) → State → Prop} {mi : Mi} {α : Type} {ev : α → Option Value × Sg} {pc index : Nat} {lv : List (Nat × Value)} {rest : List Value} {σ : Sg} {N : Nat} {k : (Int32 × Sg) → Option α} {oi : Nat} {p0 : Int32} {p1 : Int32} {p2 : Int32} (hlink : Cond.methodLink mi.1 index yX4_wouldBeOver ∈ lwG) (hroom : 1 + 1 ≤ mi.2.2.2.2) (hcat : (rest.map fun v => v.category).sum ≤ 8) (hd : decode mi.2.1 pc = .ok (.invokevirtual index, 3)) (hoi : oi < 5) (h : ∀ w : Int32 × Sg, f_X4_wouldBeOver N oi p0 p1 p2 σ = some w → RR en Ex mi ev (pc + 3) lv (.int w.1 :: rest) w.2 (k w)) : RR en Ex mi ev pc lv (.int p2 :: .int p1 :: .int p0 :: .ref (ad en 7 oi 0) :: rest) σ ((f_X4_wouldBeOver N oi p0 p1 p2 σ).bind k) :=
  r_callV (n := 3) [.int p0, .int p1, .int p2] ok_X4_wouldBeOver hlink (in_lwG (by decide +kernel) rfl) (in_lwG (by decide +kernel) rfl) (by decide +kernel) rfl hroom (by decide) (o7 hoi) rfl rfl hcat (R_X4_wouldBeOver en N oi p0 p1 p2 hoi σ) (Nat.le_of_ble_eq_true rfl) hd h
set_option maxHeartbeats 4000000 in
theorem RL_X4_shown_38 (en : En) (N : Nat) {k : Int64 → Int64 → Int32 → Sg → Option (Int32 × Sg)} (a0i : Nat) (a1 : Int32) (a2 : Int32) (ha0i : a0i < 5) (hk : ∀ (v3 : Int64) (v5 : Int64) (v7 : Int32) (σ : Sg), RR en ExT mi_X4_shown evI 113 [(3, .long v3), (5, .long v5)] [] σ (k v3 v5 v7 σ)) : ∀ (n : Nat) (v3 : Int64) (v5 : Int64) (v7 : Int32) (σ : Sg), RR en ExT mi_X4_shown evI 38 [(0, .ref (ad en 7 a0i 0)), (1, .int a1), (2, .int a2), (3, .long v3), (5, .long v5), (7, .int v7)] [] σ (L_X4_shown_38 N k a0i a1 a2 n v3 v5 v7 σ) := by
  intro n
  induction n with
  | zero => intro v3 v5 v7 σ; exact r_none
  | succ n ih =>
    intro v3 v5 v7 σ
    rw [L_X4_shown_38_s]
    refine r_iload (pc := 38) 5 dX4_shown_38 rfl ?_
    refine r_aload_n (pc := 40) 0 dX4_shown_40 rfl rfl ?_
    refine g_X4_size (pc := 41) ha0i lf_RX4_17 dX4_shown_41 ?_
    refine r_icmp_ge (pc := 44) 113 dX4_shown_44 (by decide) (fun h5 => ?_) (fun h5 => ?_)
    · exact r_sub [3, 4] rfl (hk v3 v5 v7 σ)
    · refine r_aload_n (pc := 47) 0 dX4_shown_47 rfl rfl ?_
      refine g_X4_panes (pc := 48) ha0i lf_RX4_11 dX4_shown_48 ?_
      refine r_iload (pc := 51) 5 dX4_shown_51 rfl ?_
      refine r_aald (pc := 53) (n := 7) (k := 7) (o8 ha0i) rfl rfl rfl dX4_shown_53 (fun h6 => ?_)
      refine g_X2_open (pc := 54) ha0i (ib_lt h6) lf_RX4_40 dX4_shown_54 ?_
      refine r_if_eq (pc := 57) 107 dX4_shown_57 (by decide) (fun h7 => ?_) (fun h7 => ?_)
      · refine r_iinc (pc := 107) 5 [(7, .int (v7 + (1 : Int32))), (0, .ref (ad en 7 a0i 0)), (1, .int a1), (2, .int a2), (3, .long v3), (5, .long v5)] dX4_shown_107 rfl rfl (by decide) rfl ?_
        refine r_goto (pc := 110) 38 dX4_shown_110 (by decide) ?_
        exact r_sub [1, 2, 3, 4, 5, 0] rfl (ih v3 v5 (v7 + (1 : Int32)) σ)
      · refine r_aload_n (pc := 60) 0 dX4_shown_60 rfl rfl ?_
        refine r_iload (pc := 61) 5 dX4_shown_61 rfl ?_
        refine r_iload_n (pc := 63) 1 dX4_shown_63 rfl rfl ?_
        refine r_iload_n (pc := 64) 2 dX4_shown_64 rfl rfl ?_
        refine k_X4_wouldBeOver (pc := 65) lm_RX4_51  (by decide) (Nat.le_of_ble_eq_true rfl) dX4_shown_65 ha0i (fun w1 h8 => ?_)
        refine r_if_eq (pc := 68) 107 dX4_shown_68 (by decide) (fun h9 => ?_) (fun h9 => ?_)
        · refine r_iinc (pc := 107) 5 [(7, .int (v7 + (1 : Int32))), (0, .ref (ad en 7 a0i 0)), (1, .int a1), (2, .int a2), (3, .long v3), (5, .long v5)] dX4_shown_107 rfl rfl (by decide) rfl ?_
          refine r_goto (pc := 110) 38 dX4_shown_110 (by decide) ?_
          exact r_sub [1, 2, 3, 4, 5, 0] rfl (ih v3 v5 (v7 + (1 : Int32)) w1.2)
        · refine r_lload_n (pc := 71) 3 dX4_shown_71 rfl rfl ?_
          refine r_aload_n (pc := 72) 0 dX4_shown_72 rfl rfl ?_
          refine g_X4_panes (pc := 73) ha0i lf_RX4_11 dX4_shown_73 ?_
          refine r_iload (pc := 76) 5 dX4_shown_76 rfl ?_
          refine r_aald (pc := 78) (n := 7) (k := 7) (o8 ha0i) rfl rfl rfl dX4_shown_78 (fun h10 => ?_)
          refine g_X2_upperHalf (pc := 79) ha0i (ib_lt h10) lf_RX4_44 dX4_shown_79 ?_
          refine r_ldc2 (pc := 82) lj_RX4_55 dX4_shown_82 ?_
          refine r_lxor (pc := 85) dX4_shown_85 ?_
          refine r_land (pc := 86) dX4_shown_86 ?_
          refine r_lstore_n (pc := 87) [(3, .long (v3 &&& ((rL w1.2 9 a0i v7.toNatClampNeg 7) ^^^ (-1 : Int64)))), (0, .ref (ad en 7 a0i 0)), (1, .int a1), (2, .int a2), (5, .long v5), (7, .int v7)] dX4_shown_87 rfl (by decide) rfl ?_
          refine r_lload (pc := 88) 4 dX4_shown_88 rfl ?_
          refine r_aload_n (pc := 90) 1 dX4_shown_90 rfl rfl ?_
          refine g_X4_panes (pc := 91) ha0i lf_RX4_11 dX4_shown_91 ?_
          refine r_iload (pc := 94) 5 dX4_shown_94 rfl ?_
          refine r_aald (pc := 96) (n := 7) (k := 7) (o8 ha0i) rfl rfl rfl dX4_shown_96 (fun h11 => ?_)
          refine g_X2_lowerHalf (pc := 97) ha0i (ib_lt h11) lf_RX4_48 dX4_shown_97 ?_
          refine r_ldc2 (pc := 100) lj_RX4_55 dX4_shown_100 ?_
          refine r_lxor (pc := 103) dX4_shown_103 ?_
          refine r_land (pc := 104) dX4_shown_104 ?_
          refine r_lstore (pc := 105) [(5, .long (v5 &&& ((rL w1.2 9 a0i v7.toNatClampNeg 8) ^^^ (-1 : Int64)))), (3, .long (v3 &&& ((rL w1.2 9 a0i v7.toNatClampNeg 7) ^^^ (-1 : Int64)))), (0, .ref (ad en 7 a0i 0)), (1, .int a1), (2, .int a2), (7, .int v7)] dX4_shown_105 (by decide) rfl ?_
          refine r_iinc (pc := 107) 5 [(7, .int (v7 + (1 : Int32))), (5, .long (v5 &&& ((rL w1.2 9 a0i v7.toNatClampNeg 8) ^^^ (-1 : Int64)))), (3, .long (v3 &&& ((rL w1.2 9 a0i v7.toNatClampNeg 7) ^^^ (-1 : Int64)))), (0, .ref (ad en 7 a0i 0)), (1, .int a1), (2, .int a2)] dX4_shown_107 rfl rfl (by decide) rfl ?_
          refine r_goto (pc := 110) 38 dX4_shown_110 (by decide) ?_
          exact r_sub [3, 4, 5, 2, 1, 0] rfl (ih (v3 &&& ((rL w1.2 9 a0i v7.toNatClampNeg 7) ^^^ (-1 : Int64))) (v5 &&& ((rL w1.2 9 a0i v7.toNatClampNeg 8) ^^^ (-1 : Int64))) (v7 + (1 : Int32)) w1.2)
set_option maxHeartbeats 4000000 in
theorem R_X4_shown (en : En) (N : Nat) (oi : Nat) (p0 : Int32) (p1 : Int32) (hoi : oi < 5) (σ : Sg) : RR en ExT mi_X4_shown evI 0 [(0, .ref (ad en 7 oi 0)), (1, .int p0), (2, .int p1)] [] σ (f_X4_shown N oi p0 p1 σ) := by
  unfold f_X4_shown
  refine r_aload_n (pc := 0) 0 dX4_shown_0 rfl rfl ?_
  refine g_X4_panes (pc := 1) hoi lf_RX4_11 dX4_shown_1 ?_
  refine r_iload_n (pc := 4) 1 dX4_shown_4 rfl rfl ?_
  refine r_aald (pc := 5) (n := 7) (k := 7) (o8 hoi) rfl rfl rfl dX4_shown_5 (fun h1 => ?_)
  refine g_X2_open (pc := 6) hoi (ib_lt h1) lf_RX4_40 dX4_shown_6 ?_
  refine r_if_ne (pc := 9) 14 dX4_shown_9 (by decide) (fun h2 => ?_) (fun h2 => ?_)
  · refine r_iconst (pc := 12) dX4_shown_12 kc_iconst_0 ?_
    exact r_iret (pc := 13) rfl dX4_shown_13
  · refine r_aload_n (pc := 14) 0 dX4_shown_14 rfl rfl ?_
    refine g_X4_panes (pc := 15) hoi lf_RX4_11 dX4_shown_15 ?_
    refine r_iload_n (pc := 18) 1 dX4_shown_18 rfl rfl ?_
    refine r_aald (pc := 19) (n := 7) (k := 7) (o8 hoi) rfl rfl rfl dX4_shown_19 (fun h3 => ?_)
    refine g_X2_upperHalf (pc := 20) hoi (ib_lt h3) lf_RX4_44 dX4_shown_20 ?_
    refine r_lstore_n (pc := 23) [(3, .long (rL σ 9 oi p0.toNatClampNeg 7)), (0, .ref (ad en 7 oi 0)), (1, .int p0), (2, .int p1)] dX4_shown_23 rfl (by decide) rfl ?_
    refine r_aload_n (pc := 24) 1 dX4_shown_24 rfl rfl ?_
    refine g_X4_panes (pc := 25) hoi lf_RX4_11 dX4_shown_25 ?_
    refine r_iload_n (pc := 28) 2 dX4_shown_28 rfl rfl ?_
    refine r_aald (pc := 29) (n := 7) (k := 7) (o8 hoi) rfl rfl rfl dX4_shown_29 (fun h4 => ?_)
    refine g_X2_lowerHalf (pc := 30) hoi (ib_lt h4) lf_RX4_48 dX4_shown_30 ?_
    refine r_lstore (pc := 33) [(5, .long (rL σ 9 oi p0.toNatClampNeg 8)), (3, .long (rL σ 9 oi p0.toNatClampNeg 7)), (0, .ref (ad en 7 oi 0)), (1, .int p0), (2, .int p1)] dX4_shown_33 (by decide) rfl ?_
    refine r_iconst (pc := 35) dX4_shown_35 kc_iconst_0 ?_
    refine r_istore (pc := 36) [(7, .int (0 : Int32)), (5, .long (rL σ 9 oi p0.toNatClampNeg 8)), (3, .long (rL σ 9 oi p0.toNatClampNeg 7)), (0, .ref (ad en 7 oi 0)), (1, .int p0), (2, .int p1)] dX4_shown_36 (by decide) rfl ?_
    refine r_sub [3, 4, 5, 2, 1, 0] rfl (RL_X4_shown_38 en N oi p0 p1 hoi (fun v3_2 v5_2 v7_2 σ_2 => ?_) N (rL σ 9 oi p0.toNatClampNeg 7) (rL σ 9 oi p0.toNatClampNeg 8) (0 : Int32) σ)
    refine r_lload_n (pc := 113) 0 dX4_shown_113 rfl rfl ?_
    refine k_J13_bitCount_95d88 (pc := 114) lm_RX4_57  (by decide) (Nat.le_of_ble_eq_true rfl) dX4_shown_114 (fun w3 h12 => ?_)
    refine r_lload (pc := 117) 1 dX4_shown_117 rfl ?_
    refine k_J13_bitCount_95d88 (pc := 119) lm_RX4_57  (by decide) (Nat.le_of_ble_eq_true rfl) dX4_shown_119 (fun w4 h13 => ?_)
    refine r_iadd (pc := 122) dX4_shown_122 ?_
    exact r_iret (pc := 123) rfl dX4_shown_123
theorem ok_X4_shown : yOk yX4_shown cX4_shown 8 (some .int) := ⟨in_lwG (by decide +kernel) rfl, in_lwG (by decide +kernel) rfl, by decide, by decide, by decide⟩
theorem k_X4_shown {en : En} {Ex : (Nat → Prop) → State → Prop} {mi : Mi} {α : Type} {ev : α → Option Value × Sg} {pc index : Nat} {lv : List (Nat × Value)} {rest : List Value} {σ : Sg} {N : Nat} {k : (Int32 × Sg) → Option α} {oi : Nat} {p0 : Int32} {p1 : Int32} (hlink : Cond.methodLink mi.1 index yX4_shown ∈ lwG) (hroom : 2 + 1 ≤ mi.2.2.2.2) (hcat : (rest.map fun v => v.category).sum ≤ 8) (hd : decode mi.2.1 pc = .ok (.invokevirtual index, 3)) (hoi : oi < 5) (h : ∀ w : Int32 × Sg, f_X4_shown N oi p0 p1 σ = some w → RR en Ex mi ev (pc + 3) lv (.int w.1 :: rest) w.2 (k w)) : RR en Ex mi ev pc lv (.int p1 :: .int p0 :: .ref (ad en 7 oi 0) :: rest) σ ((f_X4_shown N oi p0 p1 σ).bind k) :=
  r_callV (n := 2) [.int p0, .int p1] ok_X4_shown hlink (in_lwG (by decide +kernel) rfl) (in_lwG (by decide +kernel) rfl) (by decide +kernel) rfl hroom (by decide) (o7 hoi) rfl rfl hcat (R_X4_shown en N oi p0 p1 hoi σ) (Nat.le_of_ble_eq_true rfl) hd h
set_option maxHeartbeats 4000000 in
theorem RL_X0_findFor_9 (en : En) (N : Nat) {k : Int32 → Sg → Option (Sg)} (a1i : Nat) (a2 : Int32) (ha1i : a1i < 5) (hk : ∀ (v3 : Int32) (σ : Sg), RR en ExT mi_X0_findFor evV 91 [] [] σ (k v3 σ)) : ∀ (n : Nat) (v3 : Int32) (σ : Sg), RR en ExT mi_X0_findFor evV 9 [(0, .ref (ad en 14 0 0)), (1, .ref (ad en 7 a1i 0)), (2, .int a2), (3, .int v3)] [] σ (L_X0_findFor_9 N k a1i a2 n v3 σ) := by
  intro n
  induction n with
  | zero => intro v3 σ; exact r_none
  | succ n ih =>
    intro v3 σ
    rw [L_X0_findFor_9_s]
    refine r_iload_n (pc := 9) 3 dX0_findFor_9 rfl rfl ?_
    refine r_aload_n (pc := 10) 1 dX0_findFor_10 rfl rfl ?_
    refine g_X4_size (pc := 11) ha1i lf_RX0_18 dX0_findFor_11 ?_
    refine r_icmp_ge (pc := 14) 91 dX0_findFor_14 (by decide) (fun h2 => ?_) (fun h2 => ?_)
    · exact r_sub [] rfl (hk v3 σ)
    · refine r_iload_n (pc := 17) 2 dX0_findFor_17 rfl rfl ?_
      refine r_iload_n (pc := 18) 3 dX0_findFor_18 rfl rfl ?_
      refine r_ishr (pc := 19) dX0_findFor_19 ?_
      refine r_iconst (pc := 20) dX0_findFor_20 kc_iconst_1 ?_
      refine r_iand (pc := 21) dX0_findFor_21 ?_
      refine r_if_eq (pc := 22) 85 dX0_findFor_22 (by decide) (fun h3 => ?_) (fun h3 => ?_)
      · refine r_iinc (pc := 85) 3 [(3, .int (v3 + (1 : Int32))), (0, .ref (ad en 14 0 0)), (1, .ref (ad en 7 a1i 0)), (2, .int a2)] dX0_findFor_85 rfl rfl (by decide) rfl ?_
        refine r_goto (pc := 88) 9 dX0_findFor_88 (by decide) ?_
        exact r_sub [1, 2, 3, 0] rfl (ih (v3 + (1 : Int32)) σ)
      · refine r_iload_n (pc := 25) 2 dX0_findFor_25 rfl rfl ?_
        refine r_iconst (pc := 26) dX0_findFor_26 kc_iconst_1 ?_
        refine r_iload_n (pc := 27) 3 dX0_findFor_27 rfl rfl ?_
        refine r_ishl (pc := 28) dX0_findFor_28 ?_
        refine r_iconst (pc := 29) dX0_findFor_29 kc_iconst_m1 ?_
        refine r_ixor (pc := 30) dX0_findFor_30 ?_
        refine r_iand (pc := 31) dX0_findFor_31 ?_
        refine r_istore (pc := 32) [(4, .int (a2 &&& (((1 : Int32) <<< (v3 &&& 31)) ^^^ (-1 : Int32)))), (0, .ref (ad en 14 0 0)), (1, .ref (ad en 7 a1i 0)), (2, .int a2), (3, .int v3)] dX0_findFor_32 (by decide) rfl ?_
        refine r_aload_n (pc := 34) 1 dX0_findFor_34 rfl rfl ?_
        refine g_X0_most (pc := 35)  lf_RX0_9 dX0_findFor_35 ?_
        refine r_iload (pc := 38) 0 dX0_findFor_38 rfl ?_
        refine r_iald (pc := 40) (n := 128) (o15 (by decide)) rfl dX0_findFor_40 (fun h4 => ?_)
        refine r_aload_n (pc := 41) 2 dX0_findFor_41 rfl rfl ?_
        refine r_iload_n (pc := 42) 4 dX0_findFor_42 rfl rfl ?_
        refine r_iload (pc := 43) 0 dX0_findFor_43 rfl ?_
        refine k_X4_shown (pc := 45) lm_RX0_28  (by decide) (Nat.le_of_ble_eq_true rfl) dX0_findFor_45 ha1i (fun w1 h5 => ?_)
        refine r_if_le (pc := 48) 55 dX0_findFor_48 (by decide) (fun h6 => ?_) (fun h6 => ?_)
        · refine r_iconst (pc := 55) dX0_findFor_55 kc_iconst_0 ?_
          refine r_iadd (pc := 56) dX0_findFor_56 ?_
          refine r_istore (pc := 57) [(5, .int ((rI σ 15 0 0 (a2 &&& (((1 : Int32) <<< (v3 &&& 31)) ^^^ (-1 : Int32))).toNatClampNeg) + (0 : Int32))), (4, .int (a2 &&& (((1 : Int32) <<< (v3 &&& 31)) ^^^ (-1 : Int32)))), (0, .ref (ad en 14 0 0)), (1, .ref (ad en 7 a1i 0)), (2, .int a2), (3, .int v3)] dX0_findFor_57 (by decide) rfl ?_
          refine r_iload (pc := 59) 0 dX0_findFor_59 rfl ?_
          refine r_aload_n (pc := 61) 2 dX0_findFor_61 rfl rfl ?_
          refine g_X0_most (pc := 62)  lf_RX0_9 dX0_findFor_62 ?_
          refine r_iload_n (pc := 65) 4 dX0_findFor_65 rfl rfl ?_
          refine r_iald (pc := 66) (n := 128) (o15 (by decide)) rfl dX0_findFor_66 (fun h7 => ?_)
          refine r_icmp_le (pc := 67) 85 dX0_findFor_67 (by decide) (fun h8 => ?_) (fun h8 => ?_)
          · refine r_iinc (pc := 85) 5 [(3, .int (v3 + (1 : Int32))), (5, .int ((rI σ 15 0 0 (a2 &&& (((1 : Int32) <<< (v3 &&& 31)) ^^^ (-1 : Int32))).toNatClampNeg) + (0 : Int32))), (4, .int (a2 &&& (((1 : Int32) <<< (v3 &&& 31)) ^^^ (-1 : Int32)))), (0, .ref (ad en 14 0 0)), (1, .ref (ad en 7 a1i 0)), (2, .int a2)] dX0_findFor_85 rfl rfl (by decide) rfl ?_
            refine r_goto (pc := 88) 9 dX0_findFor_88 (by decide) ?_
            exact r_sub [3, 4, 5, 0] rfl (ih (v3 + (1 : Int32)) w1.2)
          · refine r_aload_n (pc := 70) 2 dX0_findFor_70 rfl rfl ?_
            refine g_X0_most (pc := 71)  lf_RX0_9 dX0_findFor_71 ?_
            refine r_iload_n (pc := 74) 4 dX0_findFor_74 rfl rfl ?_
            refine r_iload (pc := 75) 0 dX0_findFor_75 rfl ?_
            refine r_iast (pc := 77) (n := 128) (o15 (by decide)) rfl rfl dX0_findFor_77 (fun h9 => ?_)
            refine r_aload_n (pc := 78) 2 dX0_findFor_78 rfl rfl ?_
            refine g_X0_lowest (pc := 79)  lf_RX0_15 dX0_findFor_79 ?_
            refine r_iload_n (pc := 82) 4 dX0_findFor_82 rfl rfl ?_
            refine r_iload_n (pc := 83) 5 dX0_findFor_83 rfl rfl ?_
            refine r_iast (pc := 84) (n := 128) (o15 (by decide)) rfl rfl dX0_findFor_84 (fun h10 => ?_)
            refine r_iinc (pc := 85) 5 [(3, .int (v3 + (1 : Int32))), (5, .int ((rI σ 15 0 0 (a2 &&& (((1 : Int32) <<< (v3 &&& 31)) ^^^ (-1 : Int32))).toNatClampNeg) + (0 : Int32))), (4, .int (a2 &&& (((1 : Int32) <<< (v3 &&& 31)) ^^^ (-1 : Int32)))), (0, .ref (ad en 14 0 0)), (1, .ref (ad en 7 a1i 0)), (2, .int a2)] dX0_findFor_85 rfl rfl (by decide) rfl ?_
            refine r_goto (pc := 88) 9 dX0_findFor_88 (by decide) ?_
            exact r_sub [3, 4, 5, 0] rfl (ih (v3 + (1 : Int32)) (uI (uI w1.2 15 0 0 a2.toNatClampNeg ((rI σ 15 0 0 (a2 &&& (((1 : Int32) <<< (v3 &&& 31)) ^^^ (-1 : Int32))).toNatClampNeg) + (0 : Int32))) 15 1 0 a2.toNatClampNeg v3))
        · refine r_iconst (pc := 51) dX0_findFor_51 kc_iconst_1 ?_
          refine r_goto (pc := 52) 56 dX0_findFor_52 (by decide) ?_
          refine r_iadd (pc := 56) dX0_findFor_56 ?_
          refine r_istore (pc := 57) [(5, .int ((rI σ 15 0 0 (a2 &&& (((1 : Int32) <<< (v3 &&& 31)) ^^^ (-1 : Int32))).toNatClampNeg) + (1 : Int32))), (4, .int (a2 &&& (((1 : Int32) <<< (v3 &&& 31)) ^^^ (-1 : Int32)))), (0, .ref (ad en 14 0 0)), (1, .ref (ad en 7 a1i 0)), (2, .int a2), (3, .int v3)] dX0_findFor_57 (by decide) rfl ?_
          refine r_iload (pc := 59) 0 dX0_findFor_59 rfl ?_
          refine r_aload_n (pc := 61) 2 dX0_findFor_61 rfl rfl ?_
          refine g_X0_most (pc := 62)  lf_RX0_9 dX0_findFor_62 ?_
          refine r_iload_n (pc := 65) 4 dX0_findFor_65 rfl rfl ?_
          refine r_iald (pc := 66) (n := 128) (o15 (by decide)) rfl dX0_findFor_66 (fun h11 => ?_)
          refine r_icmp_le (pc := 67) 85 dX0_findFor_67 (by decide) (fun h12 => ?_) (fun h12 => ?_)
          · refine r_iinc (pc := 85) 5 [(3, .int (v3 + (1 : Int32))), (5, .int ((rI σ 15 0 0 (a2 &&& (((1 : Int32) <<< (v3 &&& 31)) ^^^ (-1 : Int32))).toNatClampNeg) + (1 : Int32))), (4, .int (a2 &&& (((1 : Int32) <<< (v3 &&& 31)) ^^^ (-1 : Int32)))), (0, .ref (ad en 14 0 0)), (1, .ref (ad en 7 a1i 0)), (2, .int a2)] dX0_findFor_85 rfl rfl (by decide) rfl ?_
            refine r_goto (pc := 88) 9 dX0_findFor_88 (by decide) ?_
            exact r_sub [3, 4, 5, 0] rfl (ih (v3 + (1 : Int32)) w1.2)
          · refine r_aload_n (pc := 70) 2 dX0_findFor_70 rfl rfl ?_
            refine g_X0_most (pc := 71)  lf_RX0_9 dX0_findFor_71 ?_
            refine r_iload_n (pc := 74) 4 dX0_findFor_74 rfl rfl ?_
            refine r_iload (pc := 75) 0 dX0_findFor_75 rfl ?_
            refine r_iast (pc := 77) (n := 128) (o15 (by decide)) rfl rfl dX0_findFor_77 (fun h13 => ?_)
            refine r_aload_n (pc := 78) 2 dX0_findFor_78 rfl rfl ?_
            refine g_X0_lowest (pc := 79)  lf_RX0_15 dX0_findFor_79 ?_
            refine r_iload_n (pc := 82) 4 dX0_findFor_82 rfl rfl ?_
            refine r_iload_n (pc := 83) 5 dX0_findFor_83 rfl rfl ?_
            refine r_iast (pc := 84) (n := 128) (o15 (by decide)) rfl rfl dX0_findFor_84 (fun h14 => ?_)
            refine r_iinc (pc := 85) 5 [(3, .int (v3 + (1 : Int32))), (5, .int ((rI σ 15 0 0 (a2 &&& (((1 : Int32) <<< (v3 &&& 31)) ^^^ (-1 : Int32))).toNatClampNeg) + (1 : Int32))), (4, .int (a2 &&& (((1 : Int32) <<< (v3 &&& 31)) ^^^ (-1 : Int32)))), (0, .ref (ad en 14 0 0)), (1, .ref (ad en 7 a1i 0)), (2, .int a2)] dX0_findFor_85 rfl rfl (by decide) rfl ?_
            refine r_goto (pc := 88) 9 dX0_findFor_88 (by decide) ?_
            exact r_sub [3, 4, 5, 0] rfl (ih (v3 + (1 : Int32)) (uI (uI w1.2 15 0 0 a2.toNatClampNeg ((rI σ 15 0 0 (a2 &&& (((1 : Int32) <<< (v3 &&& 31)) ^^^ (-1 : Int32))).toNatClampNeg) + (1 : Int32))) 15 1 0 a2.toNatClampNeg v3))
set_option maxHeartbeats 4000000 in
theorem R_X0_findFor (en : En) (N : Nat) (q0i : Nat) (p1 : Int32) (hq0i : q0i < 5) (σ : Sg) : RR en ExT mi_X0_findFor evV 0 [(0, .ref (ad en 14 0 0)), (1, .ref (ad en 7 q0i 0)), (2, .int p1)] [] σ (f_X0_findFor N q0i p1 σ) := by
  unfold f_X0_findFor
  refine r_aload_n (pc := 0) 0 dX0_findFor_0 rfl rfl ?_
  refine g_X0_most (pc := 1)  lf_RX0_9 dX0_findFor_1 ?_
  refine r_iload_n (pc := 4) 2 dX0_findFor_4 rfl rfl ?_
  refine r_iconst (pc := 5) dX0_findFor_5 kc_iconst_m1 ?_
  refine r_iast (pc := 6) (n := 128) (o15 (by decide)) rfl rfl dX0_findFor_6 (fun h1 => ?_)
  refine r_iconst (pc := 7) dX0_findFor_7 kc_iconst_0 ?_
  refine r_istore_n (pc := 8) [(3, .int (0 : Int32)), (0, .ref (ad en 14 0 0)), (1, .ref (ad en 7 q0i 0)), (2, .int p1)] dX0_findFor_8 rfl (by decide) rfl ?_
  refine r_sub [1, 2, 3, 0] rfl (RL_X0_findFor_9 en N q0i p1 hq0i (fun v3_2 σ_2 => ?_) N (0 : Int32) (uI σ 15 0 0 p1.toNatClampNeg (-1 : Int32)))
  exact r_vret (pc := 91) rfl dX0_findFor_91
theorem ok_X0_findFor : yOk yX0_findFor cX0_findFor 6 none := ⟨in_lwG (by decide +kernel) rfl, in_lwG (by decide +kernel) rfl, by decide, by decide, by decide⟩
theorem k_X0_findFor {en : En} {Ex : (Nat → Prop) → State → Prop} {mi : Mi} {α : Type} {ev : α → Option Value × Sg} {pc index : Nat} {lv : List (Nat × Value)} {rest : List Value} {σ : Sg} {N : Nat} {k : (Sg) → Option α} {q0i : Nat} {p1 : Int32} (hlink : Cond.methodLink mi.1 index yX0_findFor ∈ lwG) (hroom : 3 + 1 ≤ mi.2.2.2.2) (hcat : (rest.map fun v => v.category).sum ≤ 8) (hd : decode mi.2.1 pc = .ok (.invokevirtual index, 3)) (hq0i : q0i < 5) (h : ∀ w : Sg, f_X0_findFor N q0i p1 σ = some w → RR en Ex mi ev (pc + 3) lv (rest) w (k w)) : RR en Ex mi ev pc lv (.int p1 :: .ref (ad en 7 q0i 0) :: .ref (ad en 14 0 0) :: rest) σ ((f_X0_findFor N q0i p1 σ).bind k) :=
  r_callV (n := 2) [.ref (ad en 7 q0i 0), .int p1] ok_X0_findFor hlink (in_lwG (by decide +kernel) rfl) (in_lwG (by decide +kernel) rfl) (by decide +kernel) rfl hroom (by decide) o14 rfl rfl hcat (R_X0_findFor en N q0i p1 hq0i σ) (Nat.le_of_ble_eq_true rfl) hd h
set_option maxHeartbeats 4000000 in
theorem RL_X0_findInto_12 (en : En) (N : Nat) {k : Int32 → Sg → Option (Int32 × Sg)} (a1i : Nat) (a2i : Nat) (a3 : Int32) (ha1i : a1i < 6) (ha2i : a2i < 5) (hk : ∀ (v4 : Int32) (σ : Sg), RR en ExT mi_X0_findInto evI 31 [(0, .ref (ad en 14 0 0)), (1, .ref (ad en 3 a1i 0)), (2, .ref (ad en 7 a2i 0)), (3, .int a3)] [] σ (k v4 σ)) : ∀ (n : Nat) (v4 : Int32) (σ : Sg), RR en ExT mi_X0_findInto evI 12 [(0, .ref (ad en 14 0 0)), (1, .ref (ad en 3 a1i 0)), (2, .ref (ad en 7 a2i 0)), (3, .int a3), (4, .int v4)] [] σ (L_X0_findInto_12 N k a1i a2i a3 n v4 σ) := by
  intro n
  induction n with
  | zero => intro v4 σ; exact r_none
  | succ n ih =>
    intro v4 σ
    rw [L_X0_findInto_12_s]
    refine r_iload (pc := 12) 4 dX0_findInto_12 rfl ?_
    refine r_iload_n (pc := 14) 3 dX0_findInto_14 rfl rfl ?_
    refine r_icmp_gt (pc := 15) 31 dX0_findInto_15 (by decide) (fun h1 => ?_) (fun h1 => ?_)
    · exact r_sub [0, 1, 2, 3] rfl (hk v4 σ)
    · refine r_aload_n (pc := 18) 0 dX0_findInto_18 rfl rfl ?_
      refine r_aload_n (pc := 19) 2 dX0_findInto_19 rfl rfl ?_
      refine r_iload (pc := 20) 4 dX0_findInto_20 rfl ?_
      refine k_X0_findFor (pc := 22) lm_RX0_24  (by decide) (Nat.le_of_ble_eq_true rfl) dX0_findInto_22 ha2i (fun w1 h2 => ?_)
      refine r_iinc (pc := 25) 4 [(4, .int (v4 + (1 : Int32))), (0, .ref (ad en 14 0 0)), (1, .ref (ad en 3 a1i 0)), (2, .ref (ad en 7 a2i 0)), (3, .int a3)] dX0_findInto_25 rfl rfl (by decide) rfl ?_
      refine r_goto (pc := 28) 12 dX0_findInto_28 (by decide) ?_
      exact r_sub [1, 2, 3, 4, 0] rfl (ih (v4 + (1 : Int32)) w1)
set_option maxHeartbeats 4000000 in
theorem RL_X0_findInto_37 (en : En) (N : Nat) {k : Int32 → Int32 → Sg → Option (Int32 × Sg)} (a1i : Nat) (a2i : Nat) (a3 : Int32) (ha1i : a1i < 6) (ha2i : a2i < 5) (hk : ∀ (v4 : Int32) (v5 : Int32) (σ : Sg), RR en ExT mi_X0_findInto evI 76 [(0, .ref (ad en 14 0 0)), (3, .int a3)] [] σ (k v4 v5 σ)) : ∀ (n : Nat) (v4 : Int32) (v5 : Int32) (σ : Sg), RR en ExT mi_X0_findInto evI 37 [(0, .ref (ad en 14 0 0)), (1, .ref (ad en 3 a1i 0)), (2, .ref (ad en 7 a2i 0)), (3, .int a3), (4, .int v4), (5, .int v5)] [] σ (L_X0_findInto_37 N k a1i a2i a3 n v4 v5 σ) := by
  intro n
  induction n with
  | zero => intro v4 v5 σ; exact r_none
  | succ n ih =>
    intro v4 v5 σ
    rw [L_X0_findInto_37_s]
    refine r_iload (pc := 37) 5 dX0_findInto_37 rfl ?_
    refine r_aload_n (pc := 39) 2 dX0_findInto_39 rfl rfl ?_
    refine g_X4_size (pc := 40) ha2i lf_RX0_18 dX0_findInto_40 ?_
    refine r_icmp_ge (pc := 43) 76 dX0_findInto_43 (by decide) (fun h3 => ?_) (fun h3 => ?_)
    · exact r_sub [0, 3] rfl (hk v4 v5 σ)
    · refine r_aload_n (pc := 46) 1 dX0_findInto_46 rfl rfl ?_
      refine r_iload (pc := 47) 5 dX0_findInto_47 rfl ?_
      refine r_aload_n (pc := 49) 0 dX0_findInto_49 rfl rfl ?_
      refine g_X0_lowest (pc := 50)  lf_RX0_15 dX0_findInto_50 ?_
      refine r_iload (pc := 53) 4 dX0_findInto_53 rfl ?_
      refine r_iald (pc := 55) (n := 128) (o15 (by decide)) rfl dX0_findInto_55 (fun h4 => ?_)
      refine r_iast (pc := 56) (n := 40) (o3 ha1i) rfl rfl dX0_findInto_56 (fun h5 => ?_)
      refine r_iload (pc := 57) 4 dX0_findInto_57 rfl ?_
      refine r_iconst (pc := 59) dX0_findInto_59 kc_iconst_1 ?_
      refine r_aload_n (pc := 60) 1 dX0_findInto_60 rfl rfl ?_
      refine r_iload (pc := 61) 5 dX0_findInto_61 rfl ?_
      refine r_iald (pc := 63) (n := 40) (o3 ha1i) rfl dX0_findInto_63 (fun h6 => ?_)
      refine r_ishl (pc := 64) dX0_findInto_64 ?_
      refine r_iconst (pc := 65) dX0_findInto_65 kc_iconst_m1 ?_
      refine r_ixor (pc := 66) dX0_findInto_66 ?_
      refine r_iand (pc := 67) dX0_findInto_67 ?_
      refine r_istore (pc := 68) [(4, .int (v4 &&& (((1 : Int32) <<< ((rI (uI σ 3 a1i 0 v5.toNatClampNeg (rI σ 15 1 0 v4.toNatClampNeg)) 3 a1i 0 v5.toNatClampNeg) &&& 31)) ^^^ (-1 : Int32)))), (0, .ref (ad en 14 0 0)), (1, .ref (ad en 3 a1i 0)), (2, .ref (ad en 7 a2i 0)), (3, .int a3), (5, .int v5)] dX0_findInto_68 (by decide) rfl ?_
      refine r_iinc (pc := 70) 5 [(5, .int (v5 + (1 : Int32))), (4, .int (v4 &&& (((1 : Int32) <<< ((rI (uI σ 3 a1i 0 v5.toNatClampNeg (rI σ 15 1 0 v4.toNatClampNeg)) 3 a1i 0 v5.toNatClampNeg) &&& 31)) ^^^ (-1 : Int32)))), (0, .ref (ad en 14 0 0)), (1, .ref (ad en 3 a1i 0)), (2, .ref (ad en 7 a2i 0)), (3, .int a3)] dX0_findInto_70 rfl rfl (by decide) rfl ?_
      refine r_goto (pc := 73) 37 dX0_findInto_73 (by decide) ?_
      exact r_sub [2, 3, 4, 5, 1, 0] rfl (ih (v4 &&& (((1 : Int32) <<< ((rI (uI σ 3 a1i 0 v5.toNatClampNeg (rI σ 15 1 0 v4.toNatClampNeg)) 3 a1i 0 v5.toNatClampNeg) &&& 31)) ^^^ (-1 : Int32))) (v5 + (1 : Int32)) (uI σ 3 a1i 0 v5.toNatClampNeg (rI σ 15 1 0 v4.toNatClampNeg)))
set_option maxHeartbeats 4000000 in
theorem R_X0_findInto (en : En) (N : Nat) (ai : Nat) (q1i : Nat) (hai : ai < 6) (hq1i : q1i < 5) (σ : Sg) : RR en ExT mi_X0_findInto evI 0 [(0, .ref (ad en 14 0 0)), (1, .ref (ad en 3 ai 0)), (2, .ref (ad en 7 q1i 0))] [] σ (f_X0_findInto N ai q1i σ) := by
  unfold f_X0_findInto
  refine r_iconst (pc := 0) dX0_findInto_0 kc_iconst_1 ?_
  refine r_aload_n (pc := 1) 2 dX0_findInto_1 rfl rfl ?_
  refine g_X4_size (pc := 2) hq1i lf_RX0_18 dX0_findInto_2 ?_
  refine r_ishl (pc := 5) dX0_findInto_5 ?_
  refine r_iconst (pc := 6) dX0_findInto_6 kc_iconst_1 ?_
  refine r_isub (pc := 7) dX0_findInto_7 ?_
  refine r_istore_n (pc := 8) [(3, .int (((1 : Int32) <<< ((rI σ 7 q1i 0 1) &&& 31)) - (1 : Int32))), (0, .ref (ad en 14 0 0)), (1, .ref (ad en 3 ai 0)), (2, .ref (ad en 7 q1i 0))] dX0_findInto_8 rfl (by decide) rfl ?_
  refine r_iconst (pc := 9) dX0_findInto_9 kc_iconst_1 ?_
  refine r_istore (pc := 10) [(4, .int (1 : Int32)), (3, .int (((1 : Int32) <<< ((rI σ 7 q1i 0 1) &&& 31)) - (1 : Int32))), (0, .ref (ad en 14 0 0)), (1, .ref (ad en 3 ai 0)), (2, .ref (ad en 7 q1i 0))] dX0_findInto_10 (by decide) rfl ?_
  refine r_sub [2, 3, 4, 1, 0] rfl (RL_X0_findInto_12 en N ai q1i (((1 : Int32) <<< ((rI σ 7 q1i 0 1) &&& 31)) - (1 : Int32)) hai hq1i (fun v4_2 σ_2 => ?_) N (1 : Int32) σ)
  refine r_iload_n (pc := 31) 3 dX0_findInto_31 rfl rfl ?_
  refine r_istore (pc := 32) [(4, .int (((1 : Int32) <<< ((rI σ 7 q1i 0 1) &&& 31)) - (1 : Int32))), (0, .ref (ad en 14 0 0)), (1, .ref (ad en 3 ai 0)), (2, .ref (ad en 7 q1i 0)), (3, .int (((1 : Int32) <<< ((rI σ 7 q1i 0 1) &&& 31)) - (1 : Int32)))] dX0_findInto_32 (by decide) rfl ?_
  refine r_iconst (pc := 34) dX0_findInto_34 kc_iconst_0 ?_
  refine r_istore (pc := 35) [(5, .int (0 : Int32)), (4, .int (((1 : Int32) <<< ((rI σ 7 q1i 0 1) &&& 31)) - (1 : Int32))), (0, .ref (ad en 14 0 0)), (1, .ref (ad en 3 ai 0)), (2, .ref (ad en 7 q1i 0)), (3, .int (((1 : Int32) <<< ((rI σ 7 q1i 0 1) &&& 31)) - (1 : Int32)))] dX0_findInto_35 (by decide) rfl ?_
  refine r_sub [2, 3, 4, 5, 1, 0] rfl (RL_X0_findInto_37 en N ai q1i (((1 : Int32) <<< ((rI σ 7 q1i 0 1) &&& 31)) - (1 : Int32)) hai hq1i (fun v4_3 v5_3 σ_3 => ?_) N (((1 : Int32) <<< ((rI σ 7 q1i 0 1) &&& 31)) - (1 : Int32)) (0 : Int32) σ_2)
  refine r_aload_n (pc := 76) 0 dX0_findInto_76 rfl rfl ?_
  refine g_X0_most (pc := 77)  lf_RX0_9 dX0_findInto_77 ?_
  refine r_iload_n (pc := 80) 1 dX0_findInto_80 rfl rfl ?_
  refine r_iald (pc := 81) (n := 128) (o15 (by decide)) rfl dX0_findInto_81 (fun h7 => ?_)
  exact r_iret (pc := 82) rfl dX0_findInto_82
theorem ok_X0_findInto : yOk yX0_findInto cX0_findInto 6 (some .int) := ⟨in_lwG (by decide +kernel) rfl, in_lwG (by decide +kernel) rfl, by decide, by decide, by decide⟩
theorem k_X0_findInto {en : En} {Ex : (Nat → Prop) → State → Prop} {mi : Mi} {α : Type} {ev : α → Option Value × Sg} {pc index : Nat} {lv : List (Nat × Value)} {rest : List Value} {σ : Sg} {N : Nat} {k : (Int32 × Sg) → Option α} {ai : Nat} {q1i : Nat} (hlink : Cond.methodLink mi.1 index yX0_findInto ∈ lwG) (hroom : 4 + 1 ≤ mi.2.2.2.2) (hcat : (rest.map fun v => v.category).sum ≤ 8) (hd : decode mi.2.1 pc = .ok (.invokevirtual index, 3)) (hai : ai < 6) (hq1i : q1i < 5) (h : ∀ w : Int32 × Sg, f_X0_findInto N ai q1i σ = some w → RR en Ex mi ev (pc + 3) lv (.int w.1 :: rest) w.2 (k w)) : RR en Ex mi ev pc lv (.ref (ad en 7 q1i 0) :: .ref (ad en 3 ai 0) :: .ref (ad en 14 0 0) :: rest) σ ((f_X0_findInto N ai q1i σ).bind k) :=
  r_callV (n := 2) [.ref (ad en 3 ai 0), .ref (ad en 7 q1i 0)] ok_X0_findInto hlink (in_lwG (by decide +kernel) rfl) (in_lwG (by decide +kernel) rfl) (by decide +kernel) rfl hroom (by decide) o14 rfl rfl hcat (R_X0_findInto en N ai q1i hai hq1i σ) (Nat.le_of_ble_eq_true rfl) hd h
set_option maxHeartbeats 4000000 in
theorem RL_X1_become_10 (en : En) (N : Nat) {k : Int32 → Sg → Option (Sg)} (a0i : Nat) (a1i : Nat) (ha0i : a0i < 4) (ha1i : a1i < 4) (hk : ∀ (v2 : Int32) (σ : Sg), RR en ExT mi_X1_become evV 72 [] [] σ (k v2 σ)) : ∀ (n : Nat) (v2 : Int32) (σ : Sg), RR en ExT mi_X1_become evV 10 [(0, .ref (ad en 10 a0i 0)), (1, .ref (ad en 10 a1i 0)), (2, .int v2)] [] σ (L_X1_become_10 N k a0i a1i n v2 σ) := by
  intro n
  induction n with
  | zero => intro v2 σ; exact r_none
  | succ n ih =>
    intro v2 σ
    rw [L_X1_become_10_s]
    refine r_iload_n (pc := 10) 2 dX1_become_10 rfl rfl ?_
    refine r_aload_n (pc := 11) 0 dX1_become_11 rfl rfl ?_
    refine g_X1_size (pc := 12) ha0i lf_RX1_24 dX1_become_12 ?_
    refine r_icmp_ge (pc := 15) 72 dX1_become_15 (by decide) (fun h1 => ?_) (fun h1 => ?_)
    · exact r_sub [] rfl (hk v2 σ)
    · refine r_aload_n (pc := 18) 0 dX1_become_18 rfl rfl ?_
      refine g_X1_what (pc := 19) ha0i lf_RX1_9 dX1_become_19 ?_
      refine r_iload_n (pc := 22) 2 dX1_become_22 rfl rfl ?_
      refine r_aload_n (pc := 23) 1 dX1_become_23 rfl rfl ?_
      refine g_X1_what (pc := 24) ha1i lf_RX1_9 dX1_become_24 ?_
      refine r_iload_n (pc := 27) 2 dX1_become_27 rfl rfl ?_
      refine r_iald (pc := 28) (n := 40) (o11 ha1i (by decide)) rfl dX1_become_28 (fun h2 => ?_)
      refine r_iast (pc := 29) (n := 40) (o11 ha0i (by decide)) rfl rfl dX1_become_29 (fun h3 => ?_)
      refine r_aload_n (pc := 30) 0 dX1_become_30 rfl rfl ?_
      refine g_X1_who (pc := 31) ha0i lf_RX1_15 dX1_become_31 ?_
      refine r_iload_n (pc := 34) 2 dX1_become_34 rfl rfl ?_
      refine r_aload_n (pc := 35) 1 dX1_become_35 rfl rfl ?_
      refine g_X1_who (pc := 36) ha1i lf_RX1_15 dX1_become_36 ?_
      refine r_iload_n (pc := 39) 2 dX1_become_39 rfl rfl ?_
      refine r_iald (pc := 40) (n := 40) (o11 ha1i (by decide)) rfl dX1_become_40 (fun h4 => ?_)
      refine r_iast (pc := 41) (n := 40) (o11 ha0i (by decide)) rfl rfl dX1_become_41 (fun h5 => ?_)
      refine r_aload_n (pc := 42) 0 dX1_become_42 rfl rfl ?_
      refine g_X1_first (pc := 43) ha0i lf_RX1_18 dX1_become_43 ?_
      refine r_iload_n (pc := 46) 2 dX1_become_46 rfl rfl ?_
      refine r_aload_n (pc := 47) 1 dX1_become_47 rfl rfl ?_
      refine g_X1_first (pc := 48) ha1i lf_RX1_18 dX1_become_48 ?_
      refine r_iload_n (pc := 51) 2 dX1_become_51 rfl rfl ?_
      refine r_iald (pc := 52) (n := 40) (o11 ha1i (by decide)) rfl dX1_become_52 (fun h6 => ?_)
      refine r_iast (pc := 53) (n := 40) (o11 ha0i (by decide)) rfl rfl dX1_become_53 (fun h7 => ?_)
      refine r_aload_n (pc := 54) 0 dX1_become_54 rfl rfl ?_
      refine g_X1_second (pc := 55) ha0i lf_RX1_21 dX1_become_55 ?_
      refine r_iload_n (pc := 58) 2 dX1_become_58 rfl rfl ?_
      refine r_aload_n (pc := 59) 1 dX1_become_59 rfl rfl ?_
      refine g_X1_second (pc := 60) ha1i lf_RX1_21 dX1_become_60 ?_
      refine r_iload_n (pc := 63) 2 dX1_become_63 rfl rfl ?_
      refine r_iald (pc := 64) (n := 40) (o11 ha1i (by decide)) rfl dX1_become_64 (fun h8 => ?_)
      refine r_iast (pc := 65) (n := 40) (o11 ha0i (by decide)) rfl rfl dX1_become_65 (fun h9 => ?_)
      refine r_iinc (pc := 66) 2 [(2, .int (v2 + (1 : Int32))), (0, .ref (ad en 10 a0i 0)), (1, .ref (ad en 10 a1i 0))] dX1_become_66 rfl rfl (by decide) rfl ?_
      refine r_goto (pc := 69) 10 dX1_become_69 (by decide) ?_
      exact r_sub [1, 2, 0] rfl (ih (v2 + (1 : Int32)) (uI (uI (uI (uI σ 11 a0i 0 v2.toNatClampNeg (rI σ 11 a1i 0 v2.toNatClampNeg)) 11 a0i 1 v2.toNatClampNeg (rI (uI σ 11 a0i 0 v2.toNatClampNeg (rI σ 11 a1i 0 v2.toNatClampNeg)) 11 a1i 1 v2.toNatClampNeg)) 11 a0i 2 v2.toNatClampNeg (rI (uI (uI σ 11 a0i 0 v2.toNatClampNeg (rI σ 11 a1i 0 v2.toNatClampNeg)) 11 a0i 1 v2.toNatClampNeg (rI (uI σ 11 a0i 0 v2.toNatClampNeg (rI σ 11 a1i 0 v2.toNatClampNeg)) 11 a1i 1 v2.toNatClampNeg)) 11 a1i 2 v2.toNatClampNeg)) 11 a0i 3 v2.toNatClampNeg (rI (uI (uI (uI σ 11 a0i 0 v2.toNatClampNeg (rI σ 11 a1i 0 v2.toNatClampNeg)) 11 a0i 1 v2.toNatClampNeg (rI (uI σ 11 a0i 0 v2.toNatClampNeg (rI σ 11 a1i 0 v2.toNatClampNeg)) 11 a1i 1 v2.toNatClampNeg)) 11 a0i 2 v2.toNatClampNeg (rI (uI (uI σ 11 a0i 0 v2.toNatClampNeg (rI σ 11 a1i 0 v2.toNatClampNeg)) 11 a0i 1 v2.toNatClampNeg (rI (uI σ 11 a0i 0 v2.toNatClampNeg (rI σ 11 a1i 0 v2.toNatClampNeg)) 11 a1i 1 v2.toNatClampNeg)) 11 a1i 2 v2.toNatClampNeg)) 11 a1i 3 v2.toNatClampNeg)))
set_option maxHeartbeats 4000000 in
theorem R_X1_become (en : En) (N : Nat) (oi : Nat) (q0i : Nat) (hoi : oi < 4) (hq0i : q0i < 4) (σ : Sg) : RR en ExT mi_X1_become evV 0 [(0, .ref (ad en 10 oi 0)), (1, .ref (ad en 10 q0i 0))] [] σ (f_X1_become N oi q0i σ) := by
  unfold f_X1_become
  refine r_aload_n (pc := 0) 0 dX1_become_0 rfl rfl ?_
  refine r_aload_n (pc := 1) 1 dX1_become_1 rfl rfl ?_
  refine g_X1_size (pc := 2) hq0i lf_RX1_24 dX1_become_2 ?_
  refine p_X1_size (pc := 5) hoi lf_RX1_24 dX1_become_5 ?_
  refine r_iconst (pc := 8) dX1_become_8 kc_iconst_0 ?_
  refine r_istore_n (pc := 9) [(2, .int (0 : Int32)), (0, .ref (ad en 10 oi 0)), (1, .ref (ad en 10 q0i 0))] dX1_become_9 rfl (by decide) rfl ?_
  refine r_sub [1, 2, 0] rfl (RL_X1_become_10 en N oi q0i hoi hq0i (fun v2_1 σ_1 => ?_) N (0 : Int32) (uI σ 10 oi 0 4 (rI σ 10 q0i 0 4)))
  exact r_vret (pc := 72) rfl dX1_become_72
theorem ok_X1_become : yOk yX1_become cX1_become 3 none := ⟨in_lwG (by decide +kernel) rfl, in_lwG (by decide +kernel) rfl, by decide, by decide, by decide⟩
theorem k_X1_become {en : En} {Ex : (Nat → Prop) → State → Prop} {mi : Mi} {α : Type} {ev : α → Option Value × Sg} {pc index : Nat} {lv : List (Nat × Value)} {rest : List Value} {σ : Sg} {N : Nat} {k : (Sg) → Option α} {oi : Nat} {q0i : Nat} (hlink : Cond.methodLink mi.1 index yX1_become ∈ lwG) (hroom : 1 + 1 ≤ mi.2.2.2.2) (hcat : (rest.map fun v => v.category).sum ≤ 8) (hd : decode mi.2.1 pc = .ok (.invokevirtual index, 3)) (hoi : oi < 4) (hq0i : q0i < 4) (h : ∀ w : Sg, f_X1_become N oi q0i σ = some w → RR en Ex mi ev (pc + 3) lv (rest) w (k w)) : RR en Ex mi ev pc lv (.ref (ad en 10 q0i 0) :: .ref (ad en 10 oi 0) :: rest) σ ((f_X1_become N oi q0i σ).bind k) :=
  r_callV (n := 1) [.ref (ad en 10 q0i 0)] ok_X1_become hlink (in_lwG (by decide +kernel) rfl) (in_lwG (by decide +kernel) rfl) (by decide +kernel) rfl hroom (by decide) (o10 hoi) rfl rfl hcat (R_X1_become en N oi q0i hoi hq0i σ) (Nat.le_of_ble_eq_true rfl) hd h
set_option maxHeartbeats 4000000 in
theorem R_X1_hasRoomFor (en : En) (N : Nat) (oi : Nat) (p0 : Int32) (hoi : oi < 4) (σ : Sg) : RR en ExT mi_X1_hasRoomFor evI 0 [(0, .ref (ad en 10 oi 0)), (1, .int p0)] [] σ (f_X1_hasRoomFor N oi p0 σ) := by
  unfold f_X1_hasRoomFor
  refine r_aload_n (pc := 0) 0 dX1_hasRoomFor_0 rfl rfl ?_
  refine g_X1_size (pc := 1) hoi lf_RX1_24 dX1_hasRoomFor_1 ?_
  refine r_iload_n (pc := 4) 1 dX1_hasRoomFor_4 rfl rfl ?_
  refine r_iadd (pc := 5) dX1_hasRoomFor_5 ?_
  refine r_bipush (pc := 6) dX1_hasRoomFor_6 kc_bipush_40 ?_
  refine r_icmp_gt (pc := 8) 15 dX1_hasRoomFor_8 (by decide) (fun h1 => ?_) (fun h1 => ?_)
  · refine r_iconst (pc := 15) dX1_hasRoomFor_15 kc_iconst_0 ?_
    exact r_zret (pc := 16) rfl rfl dX1_hasRoomFor_16
  · refine r_iconst (pc := 11) dX1_hasRoomFor_11 kc_iconst_1 ?_
    refine r_goto (pc := 12) 16 dX1_hasRoomFor_12 (by decide) ?_
    exact r_zret (pc := 16) rfl rfl dX1_hasRoomFor_16
theorem ok_X1_hasRoomFor : yOk yX1_hasRoomFor cX1_hasRoomFor 2 (some .boolean) := ⟨in_lwG (by decide +kernel) rfl, in_lwG (by decide +kernel) rfl, by decide, by decide, by decide⟩
theorem k_X1_hasRoomFor {en : En} {Ex : (Nat → Prop) → State → Prop} {mi : Mi} {α : Type} {ev : α → Option Value × Sg} {pc index : Nat} {lv : List (Nat × Value)} {rest : List Value} {σ : Sg} {N : Nat} {k : (Int32 × Sg) → Option α} {oi : Nat} {p0 : Int32} (hlink : Cond.methodLink mi.1 index yX1_hasRoomFor ∈ lwG) (hroom : 1 + 1 ≤ mi.2.2.2.2) (hcat : (rest.map fun v => v.category).sum ≤ 8) (hd : decode mi.2.1 pc = .ok (.invokevirtual index, 3)) (hoi : oi < 4) (h : ∀ w : Int32 × Sg, f_X1_hasRoomFor N oi p0 σ = some w → RR en Ex mi ev (pc + 3) lv (.int w.1 :: rest) w.2 (k w)) : RR en Ex mi ev pc lv (.int p0 :: .ref (ad en 10 oi 0) :: rest) σ ((f_X1_hasRoomFor N oi p0 σ).bind k) :=
  r_callV (n := 1) [.int p0] ok_X1_hasRoomFor hlink (in_lwG (by decide +kernel) rfl) (in_lwG (by decide +kernel) rfl) (by decide +kernel) rfl hroom (by decide) (o10 hoi) rfl rfl hcat (R_X1_hasRoomFor en N oi p0 hoi σ) (Nat.le_of_ble_eq_true rfl) hd h
set_option maxHeartbeats 4000000 in
theorem R_X1_note (en : En) (N : Nat) (oi : Nat) (p0 : Int32) (p1 : Int32) (p2 : Int32) (p3 : Int32) (hoi : oi < 4) (σ : Sg) : RR en ExT mi_X1_note evV 0 [(0, .ref (ad en 10 oi 0)), (1, .int p0), (2, .int p1), (3, .int p2), (4, .int p3)] [] σ (f_X1_note N oi p0 p1 p2 p3 σ) := by
  unfold f_X1_note
  refine r_aload_n (pc := 0) 0 dX1_note_0 rfl rfl ?_
  refine r_iconst (pc := 1) dX1_note_1 kc_iconst_1 ?_
  refine k_X1_hasRoomFor (pc := 2) lm_RX1_28  (by decide) (Nat.le_of_ble_eq_true rfl) dX1_note_2 hoi (fun w1 h1 => ?_)
  refine r_if_eq (pc := 5) 59 dX1_note_5 (by decide) (fun h2 => ?_) (fun h2 => ?_)
  · exact r_vret (pc := 59) rfl dX1_note_59
  · refine r_aload_n (pc := 8) 0 dX1_note_8 rfl rfl ?_
    refine g_X1_what (pc := 9) hoi lf_RX1_9 dX1_note_9 ?_
    refine r_aload_n (pc := 12) 0 dX1_note_12 rfl rfl ?_
    refine g_X1_size (pc := 13) hoi lf_RX1_24 dX1_note_13 ?_
    refine r_iload_n (pc := 16) 1 dX1_note_16 rfl rfl ?_
    refine r_iast (pc := 17) (n := 40) (o11 hoi (by decide)) rfl rfl dX1_note_17 (fun h3 => ?_)
    refine r_aload_n (pc := 18) 0 dX1_note_18 rfl rfl ?_
    refine g_X1_who (pc := 19) hoi lf_RX1_15 dX1_note_19 ?_
    refine r_aload_n (pc := 22) 0 dX1_note_22 rfl rfl ?_
    refine g_X1_size (pc := 23) hoi lf_RX1_24 dX1_note_23 ?_
    refine r_iload_n (pc := 26) 2 dX1_note_26 rfl rfl ?_
    refine r_iast (pc := 27) (n := 40) (o11 hoi (by decide)) rfl rfl dX1_note_27 (fun h4 => ?_)
    refine r_aload_n (pc := 28) 0 dX1_note_28 rfl rfl ?_
    refine g_X1_first (pc := 29) hoi lf_RX1_18 dX1_note_29 ?_
    refine r_aload_n (pc := 32) 0 dX1_note_32 rfl rfl ?_
    refine g_X1_size (pc := 33) hoi lf_RX1_24 dX1_note_33 ?_
    refine r_iload_n (pc := 36) 3 dX1_note_36 rfl rfl ?_
    refine r_iast (pc := 37) (n := 40) (o11 hoi (by decide)) rfl rfl dX1_note_37 (fun h5 => ?_)
    refine r_aload_n (pc := 38) 0 dX1_note_38 rfl rfl ?_
    refine g_X1_second (pc := 39) hoi lf_RX1_21 dX1_note_39 ?_
    refine r_aload_n (pc := 42) 0 dX1_note_42 rfl rfl ?_
    refine g_X1_size (pc := 43) hoi lf_RX1_24 dX1_note_43 ?_
    refine r_iload (pc := 46) 4 dX1_note_46 rfl ?_
    refine r_iast (pc := 48) (n := 40) (o11 hoi (by decide)) rfl rfl dX1_note_48 (fun h6 => ?_)
    refine r_aload_n (pc := 49) 0 dX1_note_49 rfl rfl ?_
    refine r_dup (pc := 50) dX1_note_50 rfl ?_
    refine g_X1_size (pc := 51) hoi lf_RX1_24 dX1_note_51 ?_
    refine r_iconst (pc := 54) dX1_note_54 kc_iconst_1 ?_
    refine r_iadd (pc := 55) dX1_note_55 ?_
    refine p_X1_size (pc := 56) hoi lf_RX1_24 dX1_note_56 ?_
    exact r_vret (pc := 59) rfl dX1_note_59
theorem ok_X1_note : yOk yX1_note cX1_note 5 none := ⟨in_lwG (by decide +kernel) rfl, in_lwG (by decide +kernel) rfl, by decide, by decide, by decide⟩
theorem k_X1_note {en : En} {Ex : (Nat → Prop) → State → Prop} {mi : Mi} {α : Type} {ev : α → Option Value × Sg} {pc index : Nat} {lv : List (Nat × Value)} {rest : List Value} {σ : Sg} {N : Nat} {k : (Sg) → Option α} {oi : Nat} {p0 : Int32} {p1 : Int32} {p2 : Int32} {p3 : Int32} (hlink : Cond.methodLink mi.1 index yX1_note ∈ lwG) (hroom : 2 + 1 ≤ mi.2.2.2.2) (hcat : (rest.map fun v => v.category).sum ≤ 8) (hd : decode mi.2.1 pc = .ok (.invokevirtual index, 3)) (hoi : oi < 4) (h : ∀ w : Sg, f_X1_note N oi p0 p1 p2 p3 σ = some w → RR en Ex mi ev (pc + 3) lv (rest) w (k w)) : RR en Ex mi ev pc lv (.int p3 :: .int p2 :: .int p1 :: .int p0 :: .ref (ad en 10 oi 0) :: rest) σ ((f_X1_note N oi p0 p1 p2 p3 σ).bind k) :=
  r_callV (n := 4) [.int p0, .int p1, .int p2, .int p3] ok_X1_note hlink (in_lwG (by decide +kernel) rfl) (in_lwG (by decide +kernel) rfl) (by decide +kernel) rfl hroom (by decide) (o10 hoi) rfl rfl hcat (R_X1_note en N oi p0 p1 p2 p3 hoi σ) (Nat.le_of_ble_eq_true rfl) hd h
set_option maxHeartbeats 4000000 in
theorem RL_X4_placeAt_13 (en : En) (N : Nat) {k : Int32 → Sg → Option (Sg)} (a0i : Nat) (a1 : Int32) (a2 : Int32) (a3 : Int32) (ha0i : a0i < 5) (hk : ∀ (v4 : Int32) (σ : Sg), RR en ExT mi_X4_placeAt evV 95 [(0, .ref (ad en 7 a0i 0)), (1, .int a1), (2, .int a2)] [] σ (k v4 σ)) : ∀ (n : Nat) (v4 : Int32) (σ : Sg), RR en ExT mi_X4_placeAt evV 13 [(0, .ref (ad en 7 a0i 0)), (1, .int a1), (2, .int a2), (3, .int a3), (4, .int v4)] [] σ (L_X4_placeAt_13 N k a0i a1 a2 a3 n v4 σ) := by
  intro n
  induction n with
  | zero => intro v4 σ; exact r_none
  | succ n ih =>
    intro v4 σ
    rw [L_X4_placeAt_13_s]
    refine r_iload (pc := 13) 4 dX4_placeAt_13 rfl ?_
    refine r_aload_n (pc := 15) 0 dX4_placeAt_15 rfl rfl ?_
    refine g_X4_size (pc := 16) ha0i lf_RX4_17 dX4_placeAt_16 ?_
    refine r_icmp_ge (pc := 19) 95 dX4_placeAt_19 (by decide) (fun h2 => ?_) (fun h2 => ?_)
    · exact r_sub [0, 1, 2] rfl (hk v4 σ)
    · refine r_aload_n (pc := 22) 0 dX4_placeAt_22 rfl rfl ?_
      refine g_X4_panes (pc := 23) ha0i lf_RX4_11 dX4_placeAt_23 ?_
      refine r_iload (pc := 26) 4 dX4_placeAt_26 rfl ?_
      refine r_aald (pc := 28) (n := 7) (k := 7) (o8 ha0i) rfl rfl rfl dX4_placeAt_28 (fun h3 => ?_)
      refine g_X2_place (pc := 29) ha0i (ib_lt h3) lf_RX4_26 dX4_placeAt_29 ?_
      refine r_istore (pc := 32) [(5, .int (rI σ 9 a0i v4.toNatClampNeg 5)), (0, .ref (ad en 7 a0i 0)), (1, .int a1), (2, .int a2), (3, .int a3), (4, .int v4)] dX4_placeAt_32 (by decide) rfl ?_
      refine r_iload_n (pc := 34) 4 dX4_placeAt_34 rfl rfl ?_
      refine r_iload (pc := 35) 0 dX4_placeAt_35 rfl ?_
      refine r_icmp_ge (pc := 37) 63 dX4_placeAt_37 (by decide) (fun h4 => ?_) (fun h4 => ?_)
      · refine r_iload_n (pc := 63) 3 dX4_placeAt_63 rfl rfl ?_
        refine r_iload (pc := 64) 0 dX4_placeAt_64 rfl ?_
        refine r_icmp_gt (pc := 66) 89 dX4_placeAt_66 (by decide) (fun h5 => ?_) (fun h5 => ?_)
        · refine r_iinc (pc := 89) 5 [(4, .int (v4 + (1 : Int32))), (5, .int (rI σ 9 a0i v4.toNatClampNeg 5)), (0, .ref (ad en 7 a0i 0)), (1, .int a1), (2, .int a2), (3, .int a3)] dX4_placeAt_89 rfl rfl (by decide) rfl ?_
          refine r_goto (pc := 92) 13 dX4_placeAt_92 (by decide) ?_
          exact r_sub [2, 3, 4, 5, 0] rfl (ih (v4 + (1 : Int32)) σ)
        · refine r_iload (pc := 69) 0 dX4_placeAt_69 rfl ?_
          refine r_iload_n (pc := 71) 4 dX4_placeAt_71 rfl rfl ?_
          refine r_icmp_ge (pc := 72) 89 dX4_placeAt_72 (by decide) (fun h6 => ?_) (fun h6 => ?_)
          · refine r_iinc (pc := 89) 5 [(4, .int (v4 + (1 : Int32))), (5, .int (rI σ 9 a0i v4.toNatClampNeg 5)), (0, .ref (ad en 7 a0i 0)), (1, .int a1), (2, .int a2), (3, .int a3)] dX4_placeAt_89 rfl rfl (by decide) rfl ?_
            refine r_goto (pc := 92) 13 dX4_placeAt_92 (by decide) ?_
            exact r_sub [2, 3, 4, 5, 0] rfl (ih (v4 + (1 : Int32)) σ)
          · refine r_aload_n (pc := 75) 1 dX4_placeAt_75 rfl rfl ?_
            refine g_X4_panes (pc := 76) ha0i lf_RX4_11 dX4_placeAt_76 ?_
            refine r_iload (pc := 79) 5 dX4_placeAt_79 rfl ?_
            refine r_aald (pc := 81) (n := 7) (k := 7) (o8 ha0i) rfl rfl rfl dX4_placeAt_81 (fun h7 => ?_)
            refine r_iload (pc := 82) 0 dX4_placeAt_82 rfl ?_
            refine r_iconst (pc := 84) dX4_placeAt_84 kc_iconst_1 ?_
            refine r_iadd (pc := 85) dX4_placeAt_85 ?_
            refine p_X2_place (pc := 86) ha0i (ib_lt h7) lf_RX4_26 dX4_placeAt_86 ?_
            refine r_iinc (pc := 89) 5 [(4, .int (v4 + (1 : Int32))), (5, .int (rI σ 9 a0i v4.toNatClampNeg 5)), (0, .ref (ad en 7 a0i 0)), (1, .int a1), (2, .int a2), (3, .int a3)] dX4_placeAt_89 rfl rfl (by decide) rfl ?_
            refine r_goto (pc := 92) 13 dX4_placeAt_92 (by decide) ?_
            exact r_sub [2, 3, 4, 5, 0] rfl (ih (v4 + (1 : Int32)) (uI σ 9 a0i v4.toNatClampNeg 5 ((rI σ 9 a0i v4.toNatClampNeg 5) + (1 : Int32))))
      · refine r_iload (pc := 40) 0 dX4_placeAt_40 rfl ?_
        refine r_iload_n (pc := 42) 3 dX4_placeAt_42 rfl rfl ?_
        refine r_icmp_gt (pc := 43) 63 dX4_placeAt_43 (by decide) (fun h8 => ?_) (fun h8 => ?_)
        · refine r_iload_n (pc := 63) 3 dX4_placeAt_63 rfl rfl ?_
          refine r_iload (pc := 64) 0 dX4_placeAt_64 rfl ?_
          refine r_icmp_gt (pc := 66) 89 dX4_placeAt_66 (by decide) (fun h9 => ?_) (fun h9 => ?_)
          · refine r_iinc (pc := 89) 5 [(4, .int (v4 + (1 : Int32))), (5, .int (rI σ 9 a0i v4.toNatClampNeg 5)), (0, .ref (ad en 7 a0i 0)), (1, .int a1), (2, .int a2), (3, .int a3)] dX4_placeAt_89 rfl rfl (by decide) rfl ?_
            refine r_goto (pc := 92) 13 dX4_placeAt_92 (by decide) ?_
            exact r_sub [2, 3, 4, 5, 0] rfl (ih (v4 + (1 : Int32)) σ)
          · refine r_iload (pc := 69) 0 dX4_placeAt_69 rfl ?_
            refine r_iload_n (pc := 71) 4 dX4_placeAt_71 rfl rfl ?_
            refine r_icmp_ge (pc := 72) 89 dX4_placeAt_72 (by decide) (fun h10 => ?_) (fun h10 => ?_)
            · refine r_iinc (pc := 89) 5 [(4, .int (v4 + (1 : Int32))), (5, .int (rI σ 9 a0i v4.toNatClampNeg 5)), (0, .ref (ad en 7 a0i 0)), (1, .int a1), (2, .int a2), (3, .int a3)] dX4_placeAt_89 rfl rfl (by decide) rfl ?_
              refine r_goto (pc := 92) 13 dX4_placeAt_92 (by decide) ?_
              exact r_sub [2, 3, 4, 5, 0] rfl (ih (v4 + (1 : Int32)) σ)
            · refine r_aload_n (pc := 75) 1 dX4_placeAt_75 rfl rfl ?_
              refine g_X4_panes (pc := 76) ha0i lf_RX4_11 dX4_placeAt_76 ?_
              refine r_iload (pc := 79) 5 dX4_placeAt_79 rfl ?_
              refine r_aald (pc := 81) (n := 7) (k := 7) (o8 ha0i) rfl rfl rfl dX4_placeAt_81 (fun h11 => ?_)
              refine r_iload (pc := 82) 0 dX4_placeAt_82 rfl ?_
              refine r_iconst (pc := 84) dX4_placeAt_84 kc_iconst_1 ?_
              refine r_iadd (pc := 85) dX4_placeAt_85 ?_
              refine p_X2_place (pc := 86) ha0i (ib_lt h11) lf_RX4_26 dX4_placeAt_86 ?_
              refine r_iinc (pc := 89) 5 [(4, .int (v4 + (1 : Int32))), (5, .int (rI σ 9 a0i v4.toNatClampNeg 5)), (0, .ref (ad en 7 a0i 0)), (1, .int a1), (2, .int a2), (3, .int a3)] dX4_placeAt_89 rfl rfl (by decide) rfl ?_
              refine r_goto (pc := 92) 13 dX4_placeAt_92 (by decide) ?_
              exact r_sub [2, 3, 4, 5, 0] rfl (ih (v4 + (1 : Int32)) (uI σ 9 a0i v4.toNatClampNeg 5 ((rI σ 9 a0i v4.toNatClampNeg 5) + (1 : Int32))))
        · refine r_aload_n (pc := 46) 1 dX4_placeAt_46 rfl rfl ?_
          refine g_X4_panes (pc := 47) ha0i lf_RX4_11 dX4_placeAt_47 ?_
          refine r_iload (pc := 50) 5 dX4_placeAt_50 rfl ?_
          refine r_aald (pc := 52) (n := 7) (k := 7) (o8 ha0i) rfl rfl rfl dX4_placeAt_52 (fun h12 => ?_)
          refine r_iload (pc := 53) 0 dX4_placeAt_53 rfl ?_
          refine r_iconst (pc := 55) dX4_placeAt_55 kc_iconst_1 ?_
          refine r_isub (pc := 56) dX4_placeAt_56 ?_
          refine p_X2_place (pc := 57) ha0i (ib_lt h12) lf_RX4_26 dX4_placeAt_57 ?_
          refine r_goto (pc := 60) 89 dX4_placeAt_60 (by decide) ?_
          refine r_iinc (pc := 89) 5 [(4, .int (v4 + (1 : Int32))), (5, .int (rI σ 9 a0i v4.toNatClampNeg 5)), (0, .ref (ad en 7 a0i 0)), (1, .int a1), (2, .int a2), (3, .int a3)] dX4_placeAt_89 rfl rfl (by decide) rfl ?_
          refine r_goto (pc := 92) 13 dX4_placeAt_92 (by decide) ?_
          exact r_sub [2, 3, 4, 5, 0] rfl (ih (v4 + (1 : Int32)) (uI σ 9 a0i v4.toNatClampNeg 5 ((rI σ 9 a0i v4.toNatClampNeg 5) - (1 : Int32))))
set_option maxHeartbeats 4000000 in
theorem R_X4_placeAt (en : En) (N : Nat) (oi : Nat) (p0 : Int32) (p1 : Int32) (hoi : oi < 5) (σ : Sg) : RR en ExT mi_X4_placeAt evV 0 [(0, .ref (ad en 7 oi 0)), (1, .int p0), (2, .int p1)] [] σ (f_X4_placeAt N oi p0 p1 σ) := by
  unfold f_X4_placeAt
  refine r_aload_n (pc := 0) 0 dX4_placeAt_0 rfl rfl ?_
  refine g_X4_panes (pc := 1) hoi lf_RX4_11 dX4_placeAt_1 ?_
  refine r_iload_n (pc := 4) 1 dX4_placeAt_4 rfl rfl ?_
  refine r_aald (pc := 5) (n := 7) (k := 7) (o8 hoi) rfl rfl rfl dX4_placeAt_5 (fun h1 => ?_)
  refine g_X2_place (pc := 6) hoi (ib_lt h1) lf_RX4_26 dX4_placeAt_6 ?_
  refine r_istore_n (pc := 9) [(3, .int (rI σ 9 oi p0.toNatClampNeg 5)), (0, .ref (ad en 7 oi 0)), (1, .int p0), (2, .int p1)] dX4_placeAt_9 rfl (by decide) rfl ?_
  refine r_iconst (pc := 10) dX4_placeAt_10 kc_iconst_0 ?_
  refine r_istore (pc := 11) [(4, .int (0 : Int32)), (3, .int (rI σ 9 oi p0.toNatClampNeg 5)), (0, .ref (ad en 7 oi 0)), (1, .int p0), (2, .int p1)] dX4_placeAt_11 (by decide) rfl ?_
  refine r_sub [2, 3, 4, 1, 0] rfl (RL_X4_placeAt_13 en N oi p0 p1 (rI σ 9 oi p0.toNatClampNeg 5) hoi (fun v4_1 σ_1 => ?_) N (0 : Int32) σ)
  refine r_aload_n (pc := 95) 0 dX4_placeAt_95 rfl rfl ?_
  refine g_X4_panes (pc := 96) hoi lf_RX4_11 dX4_placeAt_96 ?_
  refine r_iload_n (pc := 99) 1 dX4_placeAt_99 rfl rfl ?_
  refine r_aald (pc := 100) (n := 7) (k := 7) (o8 hoi) rfl rfl rfl dX4_placeAt_100 (fun h13 => ?_)
  refine r_iload_n (pc := 101) 2 dX4_placeAt_101 rfl rfl ?_
  refine p_X2_place (pc := 102) hoi (ib_lt h13) lf_RX4_26 dX4_placeAt_102 ?_
  exact r_vret (pc := 105) rfl dX4_placeAt_105
theorem ok_X4_placeAt : yOk yX4_placeAt cX4_placeAt 6 none := ⟨in_lwG (by decide +kernel) rfl, in_lwG (by decide +kernel) rfl, by decide, by decide, by decide⟩
theorem k_X4_placeAt {en : En} {Ex : (Nat → Prop) → State → Prop} {mi : Mi} {α : Type} {ev : α → Option Value × Sg} {pc index : Nat} {lv : List (Nat × Value)} {rest : List Value} {σ : Sg} {N : Nat} {k : (Sg) → Option α} {oi : Nat} {p0 : Int32} {p1 : Int32} (hlink : Cond.methodLink mi.1 index yX4_placeAt ∈ lwG) (hroom : 1 + 1 ≤ mi.2.2.2.2) (hcat : (rest.map fun v => v.category).sum ≤ 8) (hd : decode mi.2.1 pc = .ok (.invokevirtual index, 3)) (hoi : oi < 5) (h : ∀ w : Sg, f_X4_placeAt N oi p0 p1 σ = some w → RR en Ex mi ev (pc + 3) lv (rest) w (k w)) : RR en Ex mi ev pc lv (.int p1 :: .int p0 :: .ref (ad en 7 oi 0) :: rest) σ ((f_X4_placeAt N oi p0 p1 σ).bind k) :=
  r_callV (n := 2) [.int p0, .int p1] ok_X4_placeAt hlink (in_lwG (by decide +kernel) rfl) (in_lwG (by decide +kernel) rfl) (by decide +kernel) rfl hroom (by decide) (o7 hoi) rfl rfl hcat (R_X4_placeAt en N oi p0 p1 hoi σ) (Nat.le_of_ble_eq_true rfl) hd h
set_option maxHeartbeats 4000000 in
theorem R_X2_reaches (en : En) (N : Nat) (oi : Nat) (oj : Nat) (p0 : Int32) (p1 : Int32) (p2 : Int32) (hoi : oi < 5) (hoj : oj < 7) (σ : Sg) : RR en ExT mi_X2_reaches evI 0 [(0, .ref (ad en 9 oi oj)), (1, .int p0), (2, .int p1), (3, .int p2)] [] σ (f_X2_reaches N oi oj p0 p1 p2 σ) := by
  unfold f_X2_reaches
  refine r_iload_n (pc := 0) 2 dX2_reaches_0 rfl rfl ?_
  refine r_aload_n (pc := 1) 0 dX2_reaches_1 rfl rfl ?_
  refine g_X2_left (pc := 2) hoi hoj lf_RX2_15 dX2_reaches_2 ?_
  refine r_icmp_eq (pc := 5) 16 dX2_reaches_5 (by decide) (fun h1 => ?_) (fun h1 => ?_)
  · refine r_iconst (pc := 16) dX2_reaches_16 kc_iconst_1 ?_
    refine r_goto (pc := 17) 21 dX2_reaches_17 (by decide) ?_
    refine r_istore (pc := 21) [(4, .int (1 : Int32)), (0, .ref (ad en 9 oi oj)), (1, .int p0), (2, .int p1), (3, .int p2)] dX2_reaches_21 (by decide) rfl ?_
    refine r_iload_n (pc := 23) 3 dX2_reaches_23 rfl rfl ?_
    refine r_aload_n (pc := 24) 1 dX2_reaches_24 rfl rfl ?_
    refine g_X2_left (pc := 25) hoi hoj lf_RX2_15 dX2_reaches_25 ?_
    refine r_aload_n (pc := 28) 1 dX2_reaches_28 rfl rfl ?_
    refine g_X2_wide (pc := 29) hoi hoj lf_RX2_21 dX2_reaches_29 ?_
    refine r_iadd (pc := 32) dX2_reaches_32 ?_
    refine r_iconst (pc := 33) dX2_reaches_33 kc_iconst_1 ?_
    refine r_isub (pc := 34) dX2_reaches_34 ?_
    refine r_icmp_eq (pc := 35) 53 dX2_reaches_35 (by decide) (fun h2 => ?_) (fun h2 => ?_)
    · refine r_iconst (pc := 53) dX2_reaches_53 kc_iconst_1 ?_
      refine r_goto (pc := 54) 58 dX2_reaches_54 (by decide) ?_
      refine r_istore (pc := 58) [(5, .int (1 : Int32)), (4, .int (1 : Int32)), (0, .ref (ad en 9 oi oj)), (1, .int p0), (2, .int p1), (3, .int p2)] dX2_reaches_58 (by decide) rfl ?_
      refine r_iload_n (pc := 60) 4 dX2_reaches_60 rfl rfl ?_
      refine r_iload_n (pc := 61) 5 dX2_reaches_61 rfl rfl ?_
      refine r_iadd (pc := 62) dX2_reaches_62 ?_
      refine r_iconst (pc := 63) dX2_reaches_63 kc_iconst_2 ?_
      refine r_irem (pc := 64) dX2_reaches_64 (by decide) ?_
      refine r_if_ne (pc := 65) 72 dX2_reaches_65 (by decide) (fun h3 => ?_) (fun h3 => ?_)
      · refine r_iconst (pc := 68) dX2_reaches_68 kc_iconst_1 ?_
        refine r_goto (pc := 69) 73 dX2_reaches_69 (by decide) ?_
        refine r_istore (pc := 73) [(6, .int (1 : Int32)), (5, .int (1 : Int32)), (4, .int (1 : Int32)), (0, .ref (ad en 9 oi oj)), (1, .int p0), (2, .int p1), (3, .int p2)] dX2_reaches_73 (by decide) rfl ?_
        refine r_iload_n (pc := 75) 4 dX2_reaches_75 rfl rfl ?_
        refine r_ite (fun h4 => ?_) (fun h4 => ?_)
        · refine r_tableIn (pc := 76) 112 dX2_reaches_76 (by rw [h4]; decide) (by rw [h4]; decide) (by rw [h4]; rfl) (by decide) ?_
          refine r_iload (pc := 112) 2 dX2_reaches_112 rfl ?_
          refine r_if_ne_f (pc := 114) 122 dX2_reaches_114 (by decide) (by decide) ?_
          refine r_iconst (pc := 122) dX2_reaches_122 kc_iconst_1 ?_
          refine r_goto (pc := 123) 127 dX2_reaches_123 (by decide) ?_
          exact r_zret (pc := 127) rfl rfl dX2_reaches_127
        refine r_ite (fun h5 => ?_) (fun h5 => ?_)
        · refine r_tableIn (pc := 76) 128 dX2_reaches_76 (by rw [h5]; decide) (by rw [h5]; decide) (by rw [h5]; rfl) (by decide) ?_
          refine r_iload (pc := 128) 0 dX2_reaches_128 rfl ?_
          exact r_zret (pc := 130) rfl rfl dX2_reaches_130
        refine r_ite (fun h6 => ?_) (fun h6 => ?_)
        · refine r_tableIn (pc := 76) 155 dX2_reaches_76 (by rw [h6]; decide) (by rw [h6]; decide) (by rw [h6]; rfl) (by decide) ?_
          refine r_iconst (pc := 155) dX2_reaches_155 kc_iconst_1 ?_
          exact r_zret (pc := 156) rfl rfl dX2_reaches_156
        refine r_ite (fun h7 => ?_) (fun h7 => ?_)
        · refine r_tableIn (pc := 76) 131 dX2_reaches_76 (by rw [h7]; decide) (by rw [h7]; decide) (by rw [h7]; rfl) (by decide) ?_
          refine r_iload (pc := 131) 2 dX2_reaches_131 rfl ?_
          exact r_zret (pc := 133) rfl rfl dX2_reaches_133
        refine r_ite (fun h8 => ?_) (fun h8 => ?_)
        · refine r_tableIn (pc := 76) 134 dX2_reaches_76 (by rw [h8]; decide) (by rw [h8]; decide) (by rw [h8]; rfl) (by decide) ?_
          refine r_iload (pc := 134) 0 dX2_reaches_134 rfl ?_
          refine r_if_eq_f (pc := 136) 153 dX2_reaches_136 (by decide) (by decide) ?_
          refine r_iload (pc := 139) 2 dX2_reaches_139 rfl ?_
          refine r_if_ne_f (pc := 141) 153 dX2_reaches_141 (by decide) (by decide) ?_
          refine r_iconst (pc := 153) dX2_reaches_153 kc_iconst_0 ?_
          exact r_zret (pc := 154) rfl rfl dX2_reaches_154
        refine r_tableOut (pc := 76) 155 dX2_reaches_76 (sw_out (1) 5 (fun v hv => by rcases (show v = 0 ∨ v = 1 ∨ v = 2 ∨ v = 3 ∨ v = 4 by omega) with rfl | rfl | rfl | rfl | rfl <;> assumption)) (by decide) ?_
        refine r_iconst (pc := 155) dX2_reaches_155 kc_iconst_1 ?_
        exact r_zret (pc := 156) rfl rfl dX2_reaches_156
      · refine r_iconst (pc := 72) dX2_reaches_72 kc_iconst_0 ?_
        refine r_istore (pc := 73) [(6, .int (0 : Int32)), (5, .int (1 : Int32)), (4, .int (1 : Int32)), (0, .ref (ad en 9 oi oj)), (1, .int p0), (2, .int p1), (3, .int p2)] dX2_reaches_73 (by decide) rfl ?_
        refine r_iload_n (pc := 75) 4 dX2_reaches_75 rfl rfl ?_
        refine r_ite (fun h9 => ?_) (fun h9 => ?_)
        · refine r_tableIn (pc := 76) 112 dX2_reaches_76 (by rw [h9]; decide) (by rw [h9]; decide) (by rw [h9]; rfl) (by decide) ?_
          refine r_iload (pc := 112) 2 dX2_reaches_112 rfl ?_
          refine r_if_ne_f (pc := 114) 122 dX2_reaches_114 (by decide) (by decide) ?_
          refine r_iconst (pc := 122) dX2_reaches_122 kc_iconst_1 ?_
          refine r_goto (pc := 123) 127 dX2_reaches_123 (by decide) ?_
          exact r_zret (pc := 127) rfl rfl dX2_reaches_127
        refine r_ite (fun h10 => ?_) (fun h10 => ?_)
        · refine r_tableIn (pc := 76) 128 dX2_reaches_76 (by rw [h10]; decide) (by rw [h10]; decide) (by rw [h10]; rfl) (by decide) ?_
          refine r_iload (pc := 128) 0 dX2_reaches_128 rfl ?_
          exact r_zret (pc := 130) rfl rfl dX2_reaches_130
        refine r_ite (fun h11 => ?_) (fun h11 => ?_)
        · refine r_tableIn (pc := 76) 155 dX2_reaches_76 (by rw [h11]; decide) (by rw [h11]; decide) (by rw [h11]; rfl) (by decide) ?_
          refine r_iconst (pc := 155) dX2_reaches_155 kc_iconst_1 ?_
          exact r_zret (pc := 156) rfl rfl dX2_reaches_156
        refine r_ite (fun h12 => ?_) (fun h12 => ?_)
        · refine r_tableIn (pc := 76) 131 dX2_reaches_76 (by rw [h12]; decide) (by rw [h12]; decide) (by rw [h12]; rfl) (by decide) ?_
          refine r_iload (pc := 131) 2 dX2_reaches_131 rfl ?_
          exact r_zret (pc := 133) rfl rfl dX2_reaches_133
        refine r_ite (fun h13 => ?_) (fun h13 => ?_)
        · refine r_tableIn (pc := 76) 134 dX2_reaches_76 (by rw [h13]; decide) (by rw [h13]; decide) (by rw [h13]; rfl) (by decide) ?_
          refine r_iload (pc := 134) 0 dX2_reaches_134 rfl ?_
          refine r_if_eq_t (pc := 136) 153 dX2_reaches_136 (by decide) (by decide) ?_
          refine r_iconst (pc := 153) dX2_reaches_153 kc_iconst_0 ?_
          exact r_zret (pc := 154) rfl rfl dX2_reaches_154
        refine r_tableOut (pc := 76) 155 dX2_reaches_76 (sw_out (1) 5 (fun v hv => by rcases (show v = 0 ∨ v = 1 ∨ v = 2 ∨ v = 3 ∨ v = 4 by omega) with rfl | rfl | rfl | rfl | rfl <;> assumption)) (by decide) ?_
        refine r_iconst (pc := 155) dX2_reaches_155 kc_iconst_1 ?_
        exact r_zret (pc := 156) rfl rfl dX2_reaches_156
    · refine r_iload_n (pc := 38) 4 dX2_reaches_38 rfl rfl ?_
      refine r_aload_n (pc := 39) 1 dX2_reaches_39 rfl rfl ?_
      refine g_X2_top (pc := 40) hoi hoj lf_RX2_18 dX2_reaches_40 ?_
      refine r_aload_n (pc := 43) 1 dX2_reaches_43 rfl rfl ?_
      refine g_X2_high (pc := 44) hoi hoj lf_RX2_24 dX2_reaches_44 ?_
      refine r_iadd (pc := 47) dX2_reaches_47 ?_
      refine r_iconst (pc := 48) dX2_reaches_48 kc_iconst_1 ?_
      refine r_isub (pc := 49) dX2_reaches_49 ?_
      refine r_icmp_ne (pc := 50) 57 dX2_reaches_50 (by decide) (fun h14 => ?_) (fun h14 => ?_)
      · refine r_iconst (pc := 53) dX2_reaches_53 kc_iconst_1 ?_
        refine r_goto (pc := 54) 58 dX2_reaches_54 (by decide) ?_
        refine r_istore (pc := 58) [(5, .int (1 : Int32)), (4, .int (1 : Int32)), (0, .ref (ad en 9 oi oj)), (1, .int p0), (2, .int p1), (3, .int p2)] dX2_reaches_58 (by decide) rfl ?_
        refine r_iload_n (pc := 60) 4 dX2_reaches_60 rfl rfl ?_
        refine r_iload_n (pc := 61) 5 dX2_reaches_61 rfl rfl ?_
        refine r_iadd (pc := 62) dX2_reaches_62 ?_
        refine r_iconst (pc := 63) dX2_reaches_63 kc_iconst_2 ?_
        refine r_irem (pc := 64) dX2_reaches_64 (by decide) ?_
        refine r_if_ne (pc := 65) 72 dX2_reaches_65 (by decide) (fun h15 => ?_) (fun h15 => ?_)
        · refine r_iconst (pc := 68) dX2_reaches_68 kc_iconst_1 ?_
          refine r_goto (pc := 69) 73 dX2_reaches_69 (by decide) ?_
          refine r_istore (pc := 73) [(6, .int (1 : Int32)), (5, .int (1 : Int32)), (4, .int (1 : Int32)), (0, .ref (ad en 9 oi oj)), (1, .int p0), (2, .int p1), (3, .int p2)] dX2_reaches_73 (by decide) rfl ?_
          refine r_iload_n (pc := 75) 4 dX2_reaches_75 rfl rfl ?_
          refine r_ite (fun h16 => ?_) (fun h16 => ?_)
          · refine r_tableIn (pc := 76) 112 dX2_reaches_76 (by rw [h16]; decide) (by rw [h16]; decide) (by rw [h16]; rfl) (by decide) ?_
            refine r_iload (pc := 112) 2 dX2_reaches_112 rfl ?_
            refine r_if_ne_f (pc := 114) 122 dX2_reaches_114 (by decide) (by decide) ?_
            refine r_iconst (pc := 122) dX2_reaches_122 kc_iconst_1 ?_
            refine r_goto (pc := 123) 127 dX2_reaches_123 (by decide) ?_
            exact r_zret (pc := 127) rfl rfl dX2_reaches_127
          refine r_ite (fun h17 => ?_) (fun h17 => ?_)
          · refine r_tableIn (pc := 76) 128 dX2_reaches_76 (by rw [h17]; decide) (by rw [h17]; decide) (by rw [h17]; rfl) (by decide) ?_
            refine r_iload (pc := 128) 0 dX2_reaches_128 rfl ?_
            exact r_zret (pc := 130) rfl rfl dX2_reaches_130
          refine r_ite (fun h18 => ?_) (fun h18 => ?_)
          · refine r_tableIn (pc := 76) 155 dX2_reaches_76 (by rw [h18]; decide) (by rw [h18]; decide) (by rw [h18]; rfl) (by decide) ?_
            refine r_iconst (pc := 155) dX2_reaches_155 kc_iconst_1 ?_
            exact r_zret (pc := 156) rfl rfl dX2_reaches_156
          refine r_ite (fun h19 => ?_) (fun h19 => ?_)
          · refine r_tableIn (pc := 76) 131 dX2_reaches_76 (by rw [h19]; decide) (by rw [h19]; decide) (by rw [h19]; rfl) (by decide) ?_
            refine r_iload (pc := 131) 2 dX2_reaches_131 rfl ?_
            exact r_zret (pc := 133) rfl rfl dX2_reaches_133
          refine r_ite (fun h20 => ?_) (fun h20 => ?_)
          · refine r_tableIn (pc := 76) 134 dX2_reaches_76 (by rw [h20]; decide) (by rw [h20]; decide) (by rw [h20]; rfl) (by decide) ?_
            refine r_iload (pc := 134) 0 dX2_reaches_134 rfl ?_
            refine r_if_eq_f (pc := 136) 153 dX2_reaches_136 (by decide) (by decide) ?_
            refine r_iload (pc := 139) 2 dX2_reaches_139 rfl ?_
            refine r_if_ne_f (pc := 141) 153 dX2_reaches_141 (by decide) (by decide) ?_
            refine r_iconst (pc := 153) dX2_reaches_153 kc_iconst_0 ?_
            exact r_zret (pc := 154) rfl rfl dX2_reaches_154
          refine r_tableOut (pc := 76) 155 dX2_reaches_76 (sw_out (1) 5 (fun v hv => by rcases (show v = 0 ∨ v = 1 ∨ v = 2 ∨ v = 3 ∨ v = 4 by omega) with rfl | rfl | rfl | rfl | rfl <;> assumption)) (by decide) ?_
          refine r_iconst (pc := 155) dX2_reaches_155 kc_iconst_1 ?_
          exact r_zret (pc := 156) rfl rfl dX2_reaches_156
        · refine r_iconst (pc := 72) dX2_reaches_72 kc_iconst_0 ?_
          refine r_istore (pc := 73) [(6, .int (0 : Int32)), (5, .int (1 : Int32)), (4, .int (1 : Int32)), (0, .ref (ad en 9 oi oj)), (1, .int p0), (2, .int p1), (3, .int p2)] dX2_reaches_73 (by decide) rfl ?_
          refine r_iload_n (pc := 75) 4 dX2_reaches_75 rfl rfl ?_
          refine r_ite (fun h21 => ?_) (fun h21 => ?_)
          · refine r_tableIn (pc := 76) 112 dX2_reaches_76 (by rw [h21]; decide) (by rw [h21]; decide) (by rw [h21]; rfl) (by decide) ?_
            refine r_iload (pc := 112) 2 dX2_reaches_112 rfl ?_
            refine r_if_ne_f (pc := 114) 122 dX2_reaches_114 (by decide) (by decide) ?_
            refine r_iconst (pc := 122) dX2_reaches_122 kc_iconst_1 ?_
            refine r_goto (pc := 123) 127 dX2_reaches_123 (by decide) ?_
            exact r_zret (pc := 127) rfl rfl dX2_reaches_127
          refine r_ite (fun h22 => ?_) (fun h22 => ?_)
          · refine r_tableIn (pc := 76) 128 dX2_reaches_76 (by rw [h22]; decide) (by rw [h22]; decide) (by rw [h22]; rfl) (by decide) ?_
            refine r_iload (pc := 128) 0 dX2_reaches_128 rfl ?_
            exact r_zret (pc := 130) rfl rfl dX2_reaches_130
          refine r_ite (fun h23 => ?_) (fun h23 => ?_)
          · refine r_tableIn (pc := 76) 155 dX2_reaches_76 (by rw [h23]; decide) (by rw [h23]; decide) (by rw [h23]; rfl) (by decide) ?_
            refine r_iconst (pc := 155) dX2_reaches_155 kc_iconst_1 ?_
            exact r_zret (pc := 156) rfl rfl dX2_reaches_156
          refine r_ite (fun h24 => ?_) (fun h24 => ?_)
          · refine r_tableIn (pc := 76) 131 dX2_reaches_76 (by rw [h24]; decide) (by rw [h24]; decide) (by rw [h24]; rfl) (by decide) ?_
            refine r_iload (pc := 131) 2 dX2_reaches_131 rfl ?_
            exact r_zret (pc := 133) rfl rfl dX2_reaches_133
          refine r_ite (fun h25 => ?_) (fun h25 => ?_)
          · refine r_tableIn (pc := 76) 134 dX2_reaches_76 (by rw [h25]; decide) (by rw [h25]; decide) (by rw [h25]; rfl) (by decide) ?_
            refine r_iload (pc := 134) 0 dX2_reaches_134 rfl ?_
            refine r_if_eq_t (pc := 136) 153 dX2_reaches_136 (by decide) (by decide) ?_
            refine r_iconst (pc := 153) dX2_reaches_153 kc_iconst_0 ?_
            exact r_zret (pc := 154) rfl rfl dX2_reaches_154
          refine r_tableOut (pc := 76) 155 dX2_reaches_76 (sw_out (1) 5 (fun v hv => by rcases (show v = 0 ∨ v = 1 ∨ v = 2 ∨ v = 3 ∨ v = 4 by omega) with rfl | rfl | rfl | rfl | rfl <;> assumption)) (by decide) ?_
          refine r_iconst (pc := 155) dX2_reaches_155 kc_iconst_1 ?_
          exact r_zret (pc := 156) rfl rfl dX2_reaches_156
      · refine r_iconst (pc := 57) dX2_reaches_57 kc_iconst_0 ?_
        refine r_istore (pc := 58) [(5, .int (0 : Int32)), (4, .int (1 : Int32)), (0, .ref (ad en 9 oi oj)), (1, .int p0), (2, .int p1), (3, .int p2)] dX2_reaches_58 (by decide) rfl ?_
        refine r_iload_n (pc := 60) 4 dX2_reaches_60 rfl rfl ?_
        refine r_iload_n (pc := 61) 5 dX2_reaches_61 rfl rfl ?_
        refine r_iadd (pc := 62) dX2_reaches_62 ?_
        refine r_iconst (pc := 63) dX2_reaches_63 kc_iconst_2 ?_
        refine r_irem (pc := 64) dX2_reaches_64 (by decide) ?_
        refine r_if_ne (pc := 65) 72 dX2_reaches_65 (by decide) (fun h26 => ?_) (fun h26 => ?_)
        · refine r_iconst (pc := 68) dX2_reaches_68 kc_iconst_1 ?_
          refine r_goto (pc := 69) 73 dX2_reaches_69 (by decide) ?_
          refine r_istore (pc := 73) [(6, .int (1 : Int32)), (5, .int (0 : Int32)), (4, .int (1 : Int32)), (0, .ref (ad en 9 oi oj)), (1, .int p0), (2, .int p1), (3, .int p2)] dX2_reaches_73 (by decide) rfl ?_
          refine r_iload_n (pc := 75) 4 dX2_reaches_75 rfl rfl ?_
          refine r_ite (fun h27 => ?_) (fun h27 => ?_)
          · refine r_tableIn (pc := 76) 112 dX2_reaches_76 (by rw [h27]; decide) (by rw [h27]; decide) (by rw [h27]; rfl) (by decide) ?_
            refine r_iload (pc := 112) 2 dX2_reaches_112 rfl ?_
            refine r_if_ne_f (pc := 114) 122 dX2_reaches_114 (by decide) (by decide) ?_
            refine r_iconst (pc := 122) dX2_reaches_122 kc_iconst_1 ?_
            refine r_goto (pc := 123) 127 dX2_reaches_123 (by decide) ?_
            exact r_zret (pc := 127) rfl rfl dX2_reaches_127
          refine r_ite (fun h28 => ?_) (fun h28 => ?_)
          · refine r_tableIn (pc := 76) 128 dX2_reaches_76 (by rw [h28]; decide) (by rw [h28]; decide) (by rw [h28]; rfl) (by decide) ?_
            refine r_iload (pc := 128) 0 dX2_reaches_128 rfl ?_
            exact r_zret (pc := 130) rfl rfl dX2_reaches_130
          refine r_ite (fun h29 => ?_) (fun h29 => ?_)
          · refine r_tableIn (pc := 76) 155 dX2_reaches_76 (by rw [h29]; decide) (by rw [h29]; decide) (by rw [h29]; rfl) (by decide) ?_
            refine r_iconst (pc := 155) dX2_reaches_155 kc_iconst_1 ?_
            exact r_zret (pc := 156) rfl rfl dX2_reaches_156
          refine r_ite (fun h30 => ?_) (fun h30 => ?_)
          · refine r_tableIn (pc := 76) 131 dX2_reaches_76 (by rw [h30]; decide) (by rw [h30]; decide) (by rw [h30]; rfl) (by decide) ?_
            refine r_iload (pc := 131) 2 dX2_reaches_131 rfl ?_
            exact r_zret (pc := 133) rfl rfl dX2_reaches_133
          refine r_ite (fun h31 => ?_) (fun h31 => ?_)
          · refine r_tableIn (pc := 76) 134 dX2_reaches_76 (by rw [h31]; decide) (by rw [h31]; decide) (by rw [h31]; rfl) (by decide) ?_
            refine r_iload (pc := 134) 0 dX2_reaches_134 rfl ?_
            refine r_if_eq_f (pc := 136) 153 dX2_reaches_136 (by decide) (by decide) ?_
            refine r_iload (pc := 139) 2 dX2_reaches_139 rfl ?_
            refine r_if_ne_f (pc := 141) 153 dX2_reaches_141 (by decide) (by decide) ?_
            refine r_iconst (pc := 153) dX2_reaches_153 kc_iconst_0 ?_
            exact r_zret (pc := 154) rfl rfl dX2_reaches_154
          refine r_tableOut (pc := 76) 155 dX2_reaches_76 (sw_out (1) 5 (fun v hv => by rcases (show v = 0 ∨ v = 1 ∨ v = 2 ∨ v = 3 ∨ v = 4 by omega) with rfl | rfl | rfl | rfl | rfl <;> assumption)) (by decide) ?_
          refine r_iconst (pc := 155) dX2_reaches_155 kc_iconst_1 ?_
          exact r_zret (pc := 156) rfl rfl dX2_reaches_156
        · refine r_iconst (pc := 72) dX2_reaches_72 kc_iconst_0 ?_
          refine r_istore (pc := 73) [(6, .int (0 : Int32)), (5, .int (0 : Int32)), (4, .int (1 : Int32)), (0, .ref (ad en 9 oi oj)), (1, .int p0), (2, .int p1), (3, .int p2)] dX2_reaches_73 (by decide) rfl ?_
          refine r_iload_n (pc := 75) 4 dX2_reaches_75 rfl rfl ?_
          refine r_ite (fun h32 => ?_) (fun h32 => ?_)
          · refine r_tableIn (pc := 76) 112 dX2_reaches_76 (by rw [h32]; decide) (by rw [h32]; decide) (by rw [h32]; rfl) (by decide) ?_
            refine r_iload (pc := 112) 2 dX2_reaches_112 rfl ?_
            refine r_if_ne_f (pc := 114) 122 dX2_reaches_114 (by decide) (by decide) ?_
            refine r_iconst (pc := 122) dX2_reaches_122 kc_iconst_1 ?_
            refine r_goto (pc := 123) 127 dX2_reaches_123 (by decide) ?_
            exact r_zret (pc := 127) rfl rfl dX2_reaches_127
          refine r_ite (fun h33 => ?_) (fun h33 => ?_)
          · refine r_tableIn (pc := 76) 128 dX2_reaches_76 (by rw [h33]; decide) (by rw [h33]; decide) (by rw [h33]; rfl) (by decide) ?_
            refine r_iload (pc := 128) 0 dX2_reaches_128 rfl ?_
            exact r_zret (pc := 130) rfl rfl dX2_reaches_130
          refine r_ite (fun h34 => ?_) (fun h34 => ?_)
          · refine r_tableIn (pc := 76) 155 dX2_reaches_76 (by rw [h34]; decide) (by rw [h34]; decide) (by rw [h34]; rfl) (by decide) ?_
            refine r_iconst (pc := 155) dX2_reaches_155 kc_iconst_1 ?_
            exact r_zret (pc := 156) rfl rfl dX2_reaches_156
          refine r_ite (fun h35 => ?_) (fun h35 => ?_)
          · refine r_tableIn (pc := 76) 131 dX2_reaches_76 (by rw [h35]; decide) (by rw [h35]; decide) (by rw [h35]; rfl) (by decide) ?_
            refine r_iload (pc := 131) 2 dX2_reaches_131 rfl ?_
            exact r_zret (pc := 133) rfl rfl dX2_reaches_133
          refine r_ite (fun h36 => ?_) (fun h36 => ?_)
          · refine r_tableIn (pc := 76) 134 dX2_reaches_76 (by rw [h36]; decide) (by rw [h36]; decide) (by rw [h36]; rfl) (by decide) ?_
            refine r_iload (pc := 134) 0 dX2_reaches_134 rfl ?_
            refine r_if_eq_t (pc := 136) 153 dX2_reaches_136 (by decide) (by decide) ?_
            refine r_iconst (pc := 153) dX2_reaches_153 kc_iconst_0 ?_
            exact r_zret (pc := 154) rfl rfl dX2_reaches_154
          refine r_tableOut (pc := 76) 155 dX2_reaches_76 (sw_out (1) 5 (fun v hv => by rcases (show v = 0 ∨ v = 1 ∨ v = 2 ∨ v = 3 ∨ v = 4 by omega) with rfl | rfl | rfl | rfl | rfl <;> assumption)) (by decide) ?_
          refine r_iconst (pc := 155) dX2_reaches_155 kc_iconst_1 ?_
          exact r_zret (pc := 156) rfl rfl dX2_reaches_156
  · refine r_iload_n (pc := 8) 3 dX2_reaches_8 rfl rfl ?_
    refine r_aload_n (pc := 9) 0 dX2_reaches_9 rfl rfl ?_
    refine g_X2_top (pc := 10) hoi hoj lf_RX2_18 dX2_reaches_10 ?_
    refine r_icmp_ne (pc := 13) 20 dX2_reaches_13 (by decide) (fun h37 => ?_) (fun h37 => ?_)
    · refine r_iconst (pc := 16) dX2_reaches_16 kc_iconst_1 ?_
      refine r_goto (pc := 17) 21 dX2_reaches_17 (by decide) ?_
      refine r_istore (pc := 21) [(4, .int (1 : Int32)), (0, .ref (ad en 9 oi oj)), (1, .int p0), (2, .int p1), (3, .int p2)] dX2_reaches_21 (by decide) rfl ?_
      refine r_iload_n (pc := 23) 3 dX2_reaches_23 rfl rfl ?_
      refine r_aload_n (pc := 24) 1 dX2_reaches_24 rfl rfl ?_
      refine g_X2_left (pc := 25) hoi hoj lf_RX2_15 dX2_reaches_25 ?_
      refine r_aload_n (pc := 28) 1 dX2_reaches_28 rfl rfl ?_
      refine g_X2_wide (pc := 29) hoi hoj lf_RX2_21 dX2_reaches_29 ?_
      refine r_iadd (pc := 32) dX2_reaches_32 ?_
      refine r_iconst (pc := 33) dX2_reaches_33 kc_iconst_1 ?_
      refine r_isub (pc := 34) dX2_reaches_34 ?_
      refine r_icmp_eq (pc := 35) 53 dX2_reaches_35 (by decide) (fun h38 => ?_) (fun h38 => ?_)
      · refine r_iconst (pc := 53) dX2_reaches_53 kc_iconst_1 ?_
        refine r_goto (pc := 54) 58 dX2_reaches_54 (by decide) ?_
        refine r_istore (pc := 58) [(5, .int (1 : Int32)), (4, .int (1 : Int32)), (0, .ref (ad en 9 oi oj)), (1, .int p0), (2, .int p1), (3, .int p2)] dX2_reaches_58 (by decide) rfl ?_
        refine r_iload_n (pc := 60) 4 dX2_reaches_60 rfl rfl ?_
        refine r_iload_n (pc := 61) 5 dX2_reaches_61 rfl rfl ?_
        refine r_iadd (pc := 62) dX2_reaches_62 ?_
        refine r_iconst (pc := 63) dX2_reaches_63 kc_iconst_2 ?_
        refine r_irem (pc := 64) dX2_reaches_64 (by decide) ?_
        refine r_if_ne (pc := 65) 72 dX2_reaches_65 (by decide) (fun h39 => ?_) (fun h39 => ?_)
        · refine r_iconst (pc := 68) dX2_reaches_68 kc_iconst_1 ?_
          refine r_goto (pc := 69) 73 dX2_reaches_69 (by decide) ?_
          refine r_istore (pc := 73) [(6, .int (1 : Int32)), (5, .int (1 : Int32)), (4, .int (1 : Int32)), (0, .ref (ad en 9 oi oj)), (1, .int p0), (2, .int p1), (3, .int p2)] dX2_reaches_73 (by decide) rfl ?_
          refine r_iload_n (pc := 75) 4 dX2_reaches_75 rfl rfl ?_
          refine r_ite (fun h40 => ?_) (fun h40 => ?_)
          · refine r_tableIn (pc := 76) 112 dX2_reaches_76 (by rw [h40]; decide) (by rw [h40]; decide) (by rw [h40]; rfl) (by decide) ?_
            refine r_iload (pc := 112) 2 dX2_reaches_112 rfl ?_
            refine r_if_ne_f (pc := 114) 122 dX2_reaches_114 (by decide) (by decide) ?_
            refine r_iconst (pc := 122) dX2_reaches_122 kc_iconst_1 ?_
            refine r_goto (pc := 123) 127 dX2_reaches_123 (by decide) ?_
            exact r_zret (pc := 127) rfl rfl dX2_reaches_127
          refine r_ite (fun h41 => ?_) (fun h41 => ?_)
          · refine r_tableIn (pc := 76) 128 dX2_reaches_76 (by rw [h41]; decide) (by rw [h41]; decide) (by rw [h41]; rfl) (by decide) ?_
            refine r_iload (pc := 128) 0 dX2_reaches_128 rfl ?_
            exact r_zret (pc := 130) rfl rfl dX2_reaches_130
          refine r_ite (fun h42 => ?_) (fun h42 => ?_)
          · refine r_tableIn (pc := 76) 155 dX2_reaches_76 (by rw [h42]; decide) (by rw [h42]; decide) (by rw [h42]; rfl) (by decide) ?_
            refine r_iconst (pc := 155) dX2_reaches_155 kc_iconst_1 ?_
            exact r_zret (pc := 156) rfl rfl dX2_reaches_156
          refine r_ite (fun h43 => ?_) (fun h43 => ?_)
          · refine r_tableIn (pc := 76) 131 dX2_reaches_76 (by rw [h43]; decide) (by rw [h43]; decide) (by rw [h43]; rfl) (by decide) ?_
            refine r_iload (pc := 131) 2 dX2_reaches_131 rfl ?_
            exact r_zret (pc := 133) rfl rfl dX2_reaches_133
          refine r_ite (fun h44 => ?_) (fun h44 => ?_)
          · refine r_tableIn (pc := 76) 134 dX2_reaches_76 (by rw [h44]; decide) (by rw [h44]; decide) (by rw [h44]; rfl) (by decide) ?_
            refine r_iload (pc := 134) 0 dX2_reaches_134 rfl ?_
            refine r_if_eq_f (pc := 136) 153 dX2_reaches_136 (by decide) (by decide) ?_
            refine r_iload (pc := 139) 2 dX2_reaches_139 rfl ?_
            refine r_if_ne_f (pc := 141) 153 dX2_reaches_141 (by decide) (by decide) ?_
            refine r_iconst (pc := 153) dX2_reaches_153 kc_iconst_0 ?_
            exact r_zret (pc := 154) rfl rfl dX2_reaches_154
          refine r_tableOut (pc := 76) 155 dX2_reaches_76 (sw_out (1) 5 (fun v hv => by rcases (show v = 0 ∨ v = 1 ∨ v = 2 ∨ v = 3 ∨ v = 4 by omega) with rfl | rfl | rfl | rfl | rfl <;> assumption)) (by decide) ?_
          refine r_iconst (pc := 155) dX2_reaches_155 kc_iconst_1 ?_
          exact r_zret (pc := 156) rfl rfl dX2_reaches_156
        · refine r_iconst (pc := 72) dX2_reaches_72 kc_iconst_0 ?_
          refine r_istore (pc := 73) [(6, .int (0 : Int32)), (5, .int (1 : Int32)), (4, .int (1 : Int32)), (0, .ref (ad en 9 oi oj)), (1, .int p0), (2, .int p1), (3, .int p2)] dX2_reaches_73 (by decide) rfl ?_
          refine r_iload_n (pc := 75) 4 dX2_reaches_75 rfl rfl ?_
          refine r_ite (fun h45 => ?_) (fun h45 => ?_)
          · refine r_tableIn (pc := 76) 112 dX2_reaches_76 (by rw [h45]; decide) (by rw [h45]; decide) (by rw [h45]; rfl) (by decide) ?_
            refine r_iload (pc := 112) 2 dX2_reaches_112 rfl ?_
            refine r_if_ne_f (pc := 114) 122 dX2_reaches_114 (by decide) (by decide) ?_
            refine r_iconst (pc := 122) dX2_reaches_122 kc_iconst_1 ?_
            refine r_goto (pc := 123) 127 dX2_reaches_123 (by decide) ?_
            exact r_zret (pc := 127) rfl rfl dX2_reaches_127
          refine r_ite (fun h46 => ?_) (fun h46 => ?_)
          · refine r_tableIn (pc := 76) 128 dX2_reaches_76 (by rw [h46]; decide) (by rw [h46]; decide) (by rw [h46]; rfl) (by decide) ?_
            refine r_iload (pc := 128) 0 dX2_reaches_128 rfl ?_
            exact r_zret (pc := 130) rfl rfl dX2_reaches_130
          refine r_ite (fun h47 => ?_) (fun h47 => ?_)
          · refine r_tableIn (pc := 76) 155 dX2_reaches_76 (by rw [h47]; decide) (by rw [h47]; decide) (by rw [h47]; rfl) (by decide) ?_
            refine r_iconst (pc := 155) dX2_reaches_155 kc_iconst_1 ?_
            exact r_zret (pc := 156) rfl rfl dX2_reaches_156
          refine r_ite (fun h48 => ?_) (fun h48 => ?_)
          · refine r_tableIn (pc := 76) 131 dX2_reaches_76 (by rw [h48]; decide) (by rw [h48]; decide) (by rw [h48]; rfl) (by decide) ?_
            refine r_iload (pc := 131) 2 dX2_reaches_131 rfl ?_
            exact r_zret (pc := 133) rfl rfl dX2_reaches_133
          refine r_ite (fun h49 => ?_) (fun h49 => ?_)
          · refine r_tableIn (pc := 76) 134 dX2_reaches_76 (by rw [h49]; decide) (by rw [h49]; decide) (by rw [h49]; rfl) (by decide) ?_
            refine r_iload (pc := 134) 0 dX2_reaches_134 rfl ?_
            refine r_if_eq_t (pc := 136) 153 dX2_reaches_136 (by decide) (by decide) ?_
            refine r_iconst (pc := 153) dX2_reaches_153 kc_iconst_0 ?_
            exact r_zret (pc := 154) rfl rfl dX2_reaches_154
          refine r_tableOut (pc := 76) 155 dX2_reaches_76 (sw_out (1) 5 (fun v hv => by rcases (show v = 0 ∨ v = 1 ∨ v = 2 ∨ v = 3 ∨ v = 4 by omega) with rfl | rfl | rfl | rfl | rfl <;> assumption)) (by decide) ?_
          refine r_iconst (pc := 155) dX2_reaches_155 kc_iconst_1 ?_
          exact r_zret (pc := 156) rfl rfl dX2_reaches_156
      · refine r_iload_n (pc := 38) 4 dX2_reaches_38 rfl rfl ?_
        refine r_aload_n (pc := 39) 1 dX2_reaches_39 rfl rfl ?_
        refine g_X2_top (pc := 40) hoi hoj lf_RX2_18 dX2_reaches_40 ?_
        refine r_aload_n (pc := 43) 1 dX2_reaches_43 rfl rfl ?_
        refine g_X2_high (pc := 44) hoi hoj lf_RX2_24 dX2_reaches_44 ?_
        refine r_iadd (pc := 47) dX2_reaches_47 ?_
        refine r_iconst (pc := 48) dX2_reaches_48 kc_iconst_1 ?_
        refine r_isub (pc := 49) dX2_reaches_49 ?_
        refine r_icmp_ne (pc := 50) 57 dX2_reaches_50 (by decide) (fun h50 => ?_) (fun h50 => ?_)
        · refine r_iconst (pc := 53) dX2_reaches_53 kc_iconst_1 ?_
          refine r_goto (pc := 54) 58 dX2_reaches_54 (by decide) ?_
          refine r_istore (pc := 58) [(5, .int (1 : Int32)), (4, .int (1 : Int32)), (0, .ref (ad en 9 oi oj)), (1, .int p0), (2, .int p1), (3, .int p2)] dX2_reaches_58 (by decide) rfl ?_
          refine r_iload_n (pc := 60) 4 dX2_reaches_60 rfl rfl ?_
          refine r_iload_n (pc := 61) 5 dX2_reaches_61 rfl rfl ?_
          refine r_iadd (pc := 62) dX2_reaches_62 ?_
          refine r_iconst (pc := 63) dX2_reaches_63 kc_iconst_2 ?_
          refine r_irem (pc := 64) dX2_reaches_64 (by decide) ?_
          refine r_if_ne (pc := 65) 72 dX2_reaches_65 (by decide) (fun h51 => ?_) (fun h51 => ?_)
          · refine r_iconst (pc := 68) dX2_reaches_68 kc_iconst_1 ?_
            refine r_goto (pc := 69) 73 dX2_reaches_69 (by decide) ?_
            refine r_istore (pc := 73) [(6, .int (1 : Int32)), (5, .int (1 : Int32)), (4, .int (1 : Int32)), (0, .ref (ad en 9 oi oj)), (1, .int p0), (2, .int p1), (3, .int p2)] dX2_reaches_73 (by decide) rfl ?_
            refine r_iload_n (pc := 75) 4 dX2_reaches_75 rfl rfl ?_
            refine r_ite (fun h52 => ?_) (fun h52 => ?_)
            · refine r_tableIn (pc := 76) 112 dX2_reaches_76 (by rw [h52]; decide) (by rw [h52]; decide) (by rw [h52]; rfl) (by decide) ?_
              refine r_iload (pc := 112) 2 dX2_reaches_112 rfl ?_
              refine r_if_ne_f (pc := 114) 122 dX2_reaches_114 (by decide) (by decide) ?_
              refine r_iconst (pc := 122) dX2_reaches_122 kc_iconst_1 ?_
              refine r_goto (pc := 123) 127 dX2_reaches_123 (by decide) ?_
              exact r_zret (pc := 127) rfl rfl dX2_reaches_127
            refine r_ite (fun h53 => ?_) (fun h53 => ?_)
            · refine r_tableIn (pc := 76) 128 dX2_reaches_76 (by rw [h53]; decide) (by rw [h53]; decide) (by rw [h53]; rfl) (by decide) ?_
              refine r_iload (pc := 128) 0 dX2_reaches_128 rfl ?_
              exact r_zret (pc := 130) rfl rfl dX2_reaches_130
            refine r_ite (fun h54 => ?_) (fun h54 => ?_)
            · refine r_tableIn (pc := 76) 155 dX2_reaches_76 (by rw [h54]; decide) (by rw [h54]; decide) (by rw [h54]; rfl) (by decide) ?_
              refine r_iconst (pc := 155) dX2_reaches_155 kc_iconst_1 ?_
              exact r_zret (pc := 156) rfl rfl dX2_reaches_156
            refine r_ite (fun h55 => ?_) (fun h55 => ?_)
            · refine r_tableIn (pc := 76) 131 dX2_reaches_76 (by rw [h55]; decide) (by rw [h55]; decide) (by rw [h55]; rfl) (by decide) ?_
              refine r_iload (pc := 131) 2 dX2_reaches_131 rfl ?_
              exact r_zret (pc := 133) rfl rfl dX2_reaches_133
            refine r_ite (fun h56 => ?_) (fun h56 => ?_)
            · refine r_tableIn (pc := 76) 134 dX2_reaches_76 (by rw [h56]; decide) (by rw [h56]; decide) (by rw [h56]; rfl) (by decide) ?_
              refine r_iload (pc := 134) 0 dX2_reaches_134 rfl ?_
              refine r_if_eq_f (pc := 136) 153 dX2_reaches_136 (by decide) (by decide) ?_
              refine r_iload (pc := 139) 2 dX2_reaches_139 rfl ?_
              refine r_if_ne_f (pc := 141) 153 dX2_reaches_141 (by decide) (by decide) ?_
              refine r_iconst (pc := 153) dX2_reaches_153 kc_iconst_0 ?_
              exact r_zret (pc := 154) rfl rfl dX2_reaches_154
            refine r_tableOut (pc := 76) 155 dX2_reaches_76 (sw_out (1) 5 (fun v hv => by rcases (show v = 0 ∨ v = 1 ∨ v = 2 ∨ v = 3 ∨ v = 4 by omega) with rfl | rfl | rfl | rfl | rfl <;> assumption)) (by decide) ?_
            refine r_iconst (pc := 155) dX2_reaches_155 kc_iconst_1 ?_
            exact r_zret (pc := 156) rfl rfl dX2_reaches_156
          · refine r_iconst (pc := 72) dX2_reaches_72 kc_iconst_0 ?_
            refine r_istore (pc := 73) [(6, .int (0 : Int32)), (5, .int (1 : Int32)), (4, .int (1 : Int32)), (0, .ref (ad en 9 oi oj)), (1, .int p0), (2, .int p1), (3, .int p2)] dX2_reaches_73 (by decide) rfl ?_
            refine r_iload_n (pc := 75) 4 dX2_reaches_75 rfl rfl ?_
            refine r_ite (fun h57 => ?_) (fun h57 => ?_)
            · refine r_tableIn (pc := 76) 112 dX2_reaches_76 (by rw [h57]; decide) (by rw [h57]; decide) (by rw [h57]; rfl) (by decide) ?_
              refine r_iload (pc := 112) 2 dX2_reaches_112 rfl ?_
              refine r_if_ne_f (pc := 114) 122 dX2_reaches_114 (by decide) (by decide) ?_
              refine r_iconst (pc := 122) dX2_reaches_122 kc_iconst_1 ?_
              refine r_goto (pc := 123) 127 dX2_reaches_123 (by decide) ?_
              exact r_zret (pc := 127) rfl rfl dX2_reaches_127
            refine r_ite (fun h58 => ?_) (fun h58 => ?_)
            · refine r_tableIn (pc := 76) 128 dX2_reaches_76 (by rw [h58]; decide) (by rw [h58]; decide) (by rw [h58]; rfl) (by decide) ?_
              refine r_iload (pc := 128) 0 dX2_reaches_128 rfl ?_
              exact r_zret (pc := 130) rfl rfl dX2_reaches_130
            refine r_ite (fun h59 => ?_) (fun h59 => ?_)
            · refine r_tableIn (pc := 76) 155 dX2_reaches_76 (by rw [h59]; decide) (by rw [h59]; decide) (by rw [h59]; rfl) (by decide) ?_
              refine r_iconst (pc := 155) dX2_reaches_155 kc_iconst_1 ?_
              exact r_zret (pc := 156) rfl rfl dX2_reaches_156
            refine r_ite (fun h60 => ?_) (fun h60 => ?_)
            · refine r_tableIn (pc := 76) 131 dX2_reaches_76 (by rw [h60]; decide) (by rw [h60]; decide) (by rw [h60]; rfl) (by decide) ?_
              refine r_iload (pc := 131) 2 dX2_reaches_131 rfl ?_
              exact r_zret (pc := 133) rfl rfl dX2_reaches_133
            refine r_ite (fun h61 => ?_) (fun h61 => ?_)
            · refine r_tableIn (pc := 76) 134 dX2_reaches_76 (by rw [h61]; decide) (by rw [h61]; decide) (by rw [h61]; rfl) (by decide) ?_
              refine r_iload (pc := 134) 0 dX2_reaches_134 rfl ?_
              refine r_if_eq_t (pc := 136) 153 dX2_reaches_136 (by decide) (by decide) ?_
              refine r_iconst (pc := 153) dX2_reaches_153 kc_iconst_0 ?_
              exact r_zret (pc := 154) rfl rfl dX2_reaches_154
            refine r_tableOut (pc := 76) 155 dX2_reaches_76 (sw_out (1) 5 (fun v hv => by rcases (show v = 0 ∨ v = 1 ∨ v = 2 ∨ v = 3 ∨ v = 4 by omega) with rfl | rfl | rfl | rfl | rfl <;> assumption)) (by decide) ?_
            refine r_iconst (pc := 155) dX2_reaches_155 kc_iconst_1 ?_
            exact r_zret (pc := 156) rfl rfl dX2_reaches_156
        · refine r_iconst (pc := 57) dX2_reaches_57 kc_iconst_0 ?_
          refine r_istore (pc := 58) [(5, .int (0 : Int32)), (4, .int (1 : Int32)), (0, .ref (ad en 9 oi oj)), (1, .int p0), (2, .int p1), (3, .int p2)] dX2_reaches_58 (by decide) rfl ?_
          refine r_iload_n (pc := 60) 4 dX2_reaches_60 rfl rfl ?_
          refine r_iload_n (pc := 61) 5 dX2_reaches_61 rfl rfl ?_
          refine r_iadd (pc := 62) dX2_reaches_62 ?_
          refine r_iconst (pc := 63) dX2_reaches_63 kc_iconst_2 ?_
          refine r_irem (pc := 64) dX2_reaches_64 (by decide) ?_
          refine r_if_ne (pc := 65) 72 dX2_reaches_65 (by decide) (fun h62 => ?_) (fun h62 => ?_)
          · refine r_iconst (pc := 68) dX2_reaches_68 kc_iconst_1 ?_
            refine r_goto (pc := 69) 73 dX2_reaches_69 (by decide) ?_
            refine r_istore (pc := 73) [(6, .int (1 : Int32)), (5, .int (0 : Int32)), (4, .int (1 : Int32)), (0, .ref (ad en 9 oi oj)), (1, .int p0), (2, .int p1), (3, .int p2)] dX2_reaches_73 (by decide) rfl ?_
            refine r_iload_n (pc := 75) 4 dX2_reaches_75 rfl rfl ?_
            refine r_ite (fun h63 => ?_) (fun h63 => ?_)
            · refine r_tableIn (pc := 76) 112 dX2_reaches_76 (by rw [h63]; decide) (by rw [h63]; decide) (by rw [h63]; rfl) (by decide) ?_
              refine r_iload (pc := 112) 2 dX2_reaches_112 rfl ?_
              refine r_if_ne_f (pc := 114) 122 dX2_reaches_114 (by decide) (by decide) ?_
              refine r_iconst (pc := 122) dX2_reaches_122 kc_iconst_1 ?_
              refine r_goto (pc := 123) 127 dX2_reaches_123 (by decide) ?_
              exact r_zret (pc := 127) rfl rfl dX2_reaches_127
            refine r_ite (fun h64 => ?_) (fun h64 => ?_)
            · refine r_tableIn (pc := 76) 128 dX2_reaches_76 (by rw [h64]; decide) (by rw [h64]; decide) (by rw [h64]; rfl) (by decide) ?_
              refine r_iload (pc := 128) 0 dX2_reaches_128 rfl ?_
              exact r_zret (pc := 130) rfl rfl dX2_reaches_130
            refine r_ite (fun h65 => ?_) (fun h65 => ?_)
            · refine r_tableIn (pc := 76) 155 dX2_reaches_76 (by rw [h65]; decide) (by rw [h65]; decide) (by rw [h65]; rfl) (by decide) ?_
              refine r_iconst (pc := 155) dX2_reaches_155 kc_iconst_1 ?_
              exact r_zret (pc := 156) rfl rfl dX2_reaches_156
            refine r_ite (fun h66 => ?_) (fun h66 => ?_)
            · refine r_tableIn (pc := 76) 131 dX2_reaches_76 (by rw [h66]; decide) (by rw [h66]; decide) (by rw [h66]; rfl) (by decide) ?_
              refine r_iload (pc := 131) 2 dX2_reaches_131 rfl ?_
              exact r_zret (pc := 133) rfl rfl dX2_reaches_133
            refine r_ite (fun h67 => ?_) (fun h67 => ?_)
            · refine r_tableIn (pc := 76) 134 dX2_reaches_76 (by rw [h67]; decide) (by rw [h67]; decide) (by rw [h67]; rfl) (by decide) ?_
              refine r_iload (pc := 134) 0 dX2_reaches_134 rfl ?_
              refine r_if_eq_f (pc := 136) 153 dX2_reaches_136 (by decide) (by decide) ?_
              refine r_iload (pc := 139) 2 dX2_reaches_139 rfl ?_
              refine r_if_ne_f (pc := 141) 153 dX2_reaches_141 (by decide) (by decide) ?_
              refine r_iconst (pc := 153) dX2_reaches_153 kc_iconst_0 ?_
              exact r_zret (pc := 154) rfl rfl dX2_reaches_154
            refine r_tableOut (pc := 76) 155 dX2_reaches_76 (sw_out (1) 5 (fun v hv => by rcases (show v = 0 ∨ v = 1 ∨ v = 2 ∨ v = 3 ∨ v = 4 by omega) with rfl | rfl | rfl | rfl | rfl <;> assumption)) (by decide) ?_
            refine r_iconst (pc := 155) dX2_reaches_155 kc_iconst_1 ?_
            exact r_zret (pc := 156) rfl rfl dX2_reaches_156
          · refine r_iconst (pc := 72) dX2_reaches_72 kc_iconst_0 ?_
            refine r_istore (pc := 73) [(6, .int (0 : Int32)), (5, .int (0 : Int32)), (4, .int (1 : Int32)), (0, .ref (ad en 9 oi oj)), (1, .int p0), (2, .int p1), (3, .int p2)] dX2_reaches_73 (by decide) rfl ?_
            refine r_iload_n (pc := 75) 4 dX2_reaches_75 rfl rfl ?_
            refine r_ite (fun h68 => ?_) (fun h68 => ?_)
            · refine r_tableIn (pc := 76) 112 dX2_reaches_76 (by rw [h68]; decide) (by rw [h68]; decide) (by rw [h68]; rfl) (by decide) ?_
              refine r_iload (pc := 112) 2 dX2_reaches_112 rfl ?_
              refine r_if_ne_f (pc := 114) 122 dX2_reaches_114 (by decide) (by decide) ?_
              refine r_iconst (pc := 122) dX2_reaches_122 kc_iconst_1 ?_
              refine r_goto (pc := 123) 127 dX2_reaches_123 (by decide) ?_
              exact r_zret (pc := 127) rfl rfl dX2_reaches_127
            refine r_ite (fun h69 => ?_) (fun h69 => ?_)
            · refine r_tableIn (pc := 76) 128 dX2_reaches_76 (by rw [h69]; decide) (by rw [h69]; decide) (by rw [h69]; rfl) (by decide) ?_
              refine r_iload (pc := 128) 0 dX2_reaches_128 rfl ?_
              exact r_zret (pc := 130) rfl rfl dX2_reaches_130
            refine r_ite (fun h70 => ?_) (fun h70 => ?_)
            · refine r_tableIn (pc := 76) 155 dX2_reaches_76 (by rw [h70]; decide) (by rw [h70]; decide) (by rw [h70]; rfl) (by decide) ?_
              refine r_iconst (pc := 155) dX2_reaches_155 kc_iconst_1 ?_
              exact r_zret (pc := 156) rfl rfl dX2_reaches_156
            refine r_ite (fun h71 => ?_) (fun h71 => ?_)
            · refine r_tableIn (pc := 76) 131 dX2_reaches_76 (by rw [h71]; decide) (by rw [h71]; decide) (by rw [h71]; rfl) (by decide) ?_
              refine r_iload (pc := 131) 2 dX2_reaches_131 rfl ?_
              exact r_zret (pc := 133) rfl rfl dX2_reaches_133
            refine r_ite (fun h72 => ?_) (fun h72 => ?_)
            · refine r_tableIn (pc := 76) 134 dX2_reaches_76 (by rw [h72]; decide) (by rw [h72]; decide) (by rw [h72]; rfl) (by decide) ?_
              refine r_iload (pc := 134) 0 dX2_reaches_134 rfl ?_
              refine r_if_eq_t (pc := 136) 153 dX2_reaches_136 (by decide) (by decide) ?_
              refine r_iconst (pc := 153) dX2_reaches_153 kc_iconst_0 ?_
              exact r_zret (pc := 154) rfl rfl dX2_reaches_154
            refine r_tableOut (pc := 76) 155 dX2_reaches_76 (sw_out (1) 5 (fun v hv => by rcases (show v = 0 ∨ v = 1 ∨ v = 2 ∨ v = 3 ∨ v = 4 by omega) with rfl | rfl | rfl | rfl | rfl <;> assumption)) (by decide) ?_
            refine r_iconst (pc := 155) dX2_reaches_155 kc_iconst_1 ?_
            exact r_zret (pc := 156) rfl rfl dX2_reaches_156
    · refine r_iconst (pc := 20) dX2_reaches_20 kc_iconst_0 ?_
      refine r_istore (pc := 21) [(4, .int (0 : Int32)), (0, .ref (ad en 9 oi oj)), (1, .int p0), (2, .int p1), (3, .int p2)] dX2_reaches_21 (by decide) rfl ?_
      refine r_iload_n (pc := 23) 3 dX2_reaches_23 rfl rfl ?_
      refine r_aload_n (pc := 24) 1 dX2_reaches_24 rfl rfl ?_
      refine g_X2_left (pc := 25) hoi hoj lf_RX2_15 dX2_reaches_25 ?_
      refine r_aload_n (pc := 28) 1 dX2_reaches_28 rfl rfl ?_
      refine g_X2_wide (pc := 29) hoi hoj lf_RX2_21 dX2_reaches_29 ?_
      refine r_iadd (pc := 32) dX2_reaches_32 ?_
      refine r_iconst (pc := 33) dX2_reaches_33 kc_iconst_1 ?_
      refine r_isub (pc := 34) dX2_reaches_34 ?_
      refine r_icmp_eq (pc := 35) 53 dX2_reaches_35 (by decide) (fun h73 => ?_) (fun h73 => ?_)
      · refine r_iconst (pc := 53) dX2_reaches_53 kc_iconst_1 ?_
        refine r_goto (pc := 54) 58 dX2_reaches_54 (by decide) ?_
        refine r_istore (pc := 58) [(5, .int (1 : Int32)), (4, .int (0 : Int32)), (0, .ref (ad en 9 oi oj)), (1, .int p0), (2, .int p1), (3, .int p2)] dX2_reaches_58 (by decide) rfl ?_
        refine r_iload_n (pc := 60) 4 dX2_reaches_60 rfl rfl ?_
        refine r_iload_n (pc := 61) 5 dX2_reaches_61 rfl rfl ?_
        refine r_iadd (pc := 62) dX2_reaches_62 ?_
        refine r_iconst (pc := 63) dX2_reaches_63 kc_iconst_2 ?_
        refine r_irem (pc := 64) dX2_reaches_64 (by decide) ?_
        refine r_if_ne (pc := 65) 72 dX2_reaches_65 (by decide) (fun h74 => ?_) (fun h74 => ?_)
        · refine r_iconst (pc := 68) dX2_reaches_68 kc_iconst_1 ?_
          refine r_goto (pc := 69) 73 dX2_reaches_69 (by decide) ?_
          refine r_istore (pc := 73) [(6, .int (1 : Int32)), (5, .int (1 : Int32)), (4, .int (0 : Int32)), (0, .ref (ad en 9 oi oj)), (1, .int p0), (2, .int p1), (3, .int p2)] dX2_reaches_73 (by decide) rfl ?_
          refine r_iload_n (pc := 75) 4 dX2_reaches_75 rfl rfl ?_
          refine r_ite (fun h75 => ?_) (fun h75 => ?_)
          · refine r_tableIn (pc := 76) 112 dX2_reaches_76 (by rw [h75]; decide) (by rw [h75]; decide) (by rw [h75]; rfl) (by decide) ?_
            refine r_iload (pc := 112) 2 dX2_reaches_112 rfl ?_
            refine r_if_ne_t (pc := 114) 122 dX2_reaches_114 (by decide) (by decide) ?_
            refine r_iload (pc := 117) 1 dX2_reaches_117 rfl ?_
            refine r_if_eq_f (pc := 119) 126 dX2_reaches_119 (by decide) (by decide) ?_
            refine r_iconst (pc := 122) dX2_reaches_122 kc_iconst_1 ?_
            refine r_goto (pc := 123) 127 dX2_reaches_123 (by decide) ?_
            exact r_zret (pc := 127) rfl rfl dX2_reaches_127
          refine r_ite (fun h76 => ?_) (fun h76 => ?_)
          · refine r_tableIn (pc := 76) 128 dX2_reaches_76 (by rw [h76]; decide) (by rw [h76]; decide) (by rw [h76]; rfl) (by decide) ?_
            refine r_iload (pc := 128) 0 dX2_reaches_128 rfl ?_
            exact r_zret (pc := 130) rfl rfl dX2_reaches_130
          refine r_ite (fun h77 => ?_) (fun h77 => ?_)
          · refine r_tableIn (pc := 76) 155 dX2_reaches_76 (by rw [h77]; decide) (by rw [h77]; decide) (by rw [h77]; rfl) (by decide) ?_
            refine r_iconst (pc := 155) dX2_reaches_155 kc_iconst_1 ?_
            exact r_zret (pc := 156) rfl rfl dX2_reaches_156
          refine r_ite (fun h78 => ?_) (fun h78 => ?_)
          · refine r_tableIn (pc := 76) 131 dX2_reaches_76 (by rw [h78]; decide) (by rw [h78]; decide) (by rw [h78]; rfl) (by decide) ?_
            refine r_iload (pc := 131) 2 dX2_reaches_131 rfl ?_
            exact r_zret (pc := 133) rfl rfl dX2_reaches_133
          refine r_ite (fun h79 => ?_) (fun h79 => ?_)
          · refine r_tableIn (pc := 76) 134 dX2_reaches_76 (by rw [h79]; decide) (by rw [h79]; decide) (by rw [h79]; rfl) (by decide) ?_
            refine r_iload (pc := 134) 0 dX2_reaches_134 rfl ?_
            refine r_if_eq_f (pc := 136) 153 dX2_reaches_136 (by decide) (by decide) ?_
            refine r_iload (pc := 139) 2 dX2_reaches_139 rfl ?_
            refine r_if_ne_t (pc := 141) 153 dX2_reaches_141 (by decide) (by decide) ?_
            refine r_iload (pc := 144) 1 dX2_reaches_144 rfl ?_
            refine r_if_ne_f (pc := 146) 153 dX2_reaches_146 (by decide) (by decide) ?_
            refine r_iconst (pc := 153) dX2_reaches_153 kc_iconst_0 ?_
            exact r_zret (pc := 154) rfl rfl dX2_reaches_154
          refine r_tableOut (pc := 76) 155 dX2_reaches_76 (sw_out (1) 5 (fun v hv => by rcases (show v = 0 ∨ v = 1 ∨ v = 2 ∨ v = 3 ∨ v = 4 by omega) with rfl | rfl | rfl | rfl | rfl <;> assumption)) (by decide) ?_
          refine r_iconst (pc := 155) dX2_reaches_155 kc_iconst_1 ?_
          exact r_zret (pc := 156) rfl rfl dX2_reaches_156
        · refine r_iconst (pc := 72) dX2_reaches_72 kc_iconst_0 ?_
          refine r_istore (pc := 73) [(6, .int (0 : Int32)), (5, .int (1 : Int32)), (4, .int (0 : Int32)), (0, .ref (ad en 9 oi oj)), (1, .int p0), (2, .int p1), (3, .int p2)] dX2_reaches_73 (by decide) rfl ?_
          refine r_iload_n (pc := 75) 4 dX2_reaches_75 rfl rfl ?_
          refine r_ite (fun h80 => ?_) (fun h80 => ?_)
          · refine r_tableIn (pc := 76) 112 dX2_reaches_76 (by rw [h80]; decide) (by rw [h80]; decide) (by rw [h80]; rfl) (by decide) ?_
            refine r_iload (pc := 112) 2 dX2_reaches_112 rfl ?_
            refine r_if_ne_t (pc := 114) 122 dX2_reaches_114 (by decide) (by decide) ?_
            refine r_iload (pc := 117) 1 dX2_reaches_117 rfl ?_
            refine r_if_eq_f (pc := 119) 126 dX2_reaches_119 (by decide) (by decide) ?_
            refine r_iconst (pc := 122) dX2_reaches_122 kc_iconst_1 ?_
            refine r_goto (pc := 123) 127 dX2_reaches_123 (by decide) ?_
            exact r_zret (pc := 127) rfl rfl dX2_reaches_127
          refine r_ite (fun h81 => ?_) (fun h81 => ?_)
          · refine r_tableIn (pc := 76) 128 dX2_reaches_76 (by rw [h81]; decide) (by rw [h81]; decide) (by rw [h81]; rfl) (by decide) ?_
            refine r_iload (pc := 128) 0 dX2_reaches_128 rfl ?_
            exact r_zret (pc := 130) rfl rfl dX2_reaches_130
          refine r_ite (fun h82 => ?_) (fun h82 => ?_)
          · refine r_tableIn (pc := 76) 155 dX2_reaches_76 (by rw [h82]; decide) (by rw [h82]; decide) (by rw [h82]; rfl) (by decide) ?_
            refine r_iconst (pc := 155) dX2_reaches_155 kc_iconst_1 ?_
            exact r_zret (pc := 156) rfl rfl dX2_reaches_156
          refine r_ite (fun h83 => ?_) (fun h83 => ?_)
          · refine r_tableIn (pc := 76) 131 dX2_reaches_76 (by rw [h83]; decide) (by rw [h83]; decide) (by rw [h83]; rfl) (by decide) ?_
            refine r_iload (pc := 131) 2 dX2_reaches_131 rfl ?_
            exact r_zret (pc := 133) rfl rfl dX2_reaches_133
          refine r_ite (fun h84 => ?_) (fun h84 => ?_)
          · refine r_tableIn (pc := 76) 134 dX2_reaches_76 (by rw [h84]; decide) (by rw [h84]; decide) (by rw [h84]; rfl) (by decide) ?_
            refine r_iload (pc := 134) 0 dX2_reaches_134 rfl ?_
            refine r_if_eq_t (pc := 136) 153 dX2_reaches_136 (by decide) (by decide) ?_
            refine r_iconst (pc := 153) dX2_reaches_153 kc_iconst_0 ?_
            exact r_zret (pc := 154) rfl rfl dX2_reaches_154
          refine r_tableOut (pc := 76) 155 dX2_reaches_76 (sw_out (1) 5 (fun v hv => by rcases (show v = 0 ∨ v = 1 ∨ v = 2 ∨ v = 3 ∨ v = 4 by omega) with rfl | rfl | rfl | rfl | rfl <;> assumption)) (by decide) ?_
          refine r_iconst (pc := 155) dX2_reaches_155 kc_iconst_1 ?_
          exact r_zret (pc := 156) rfl rfl dX2_reaches_156
      · refine r_iload_n (pc := 38) 4 dX2_reaches_38 rfl rfl ?_
        refine r_aload_n (pc := 39) 1 dX2_reaches_39 rfl rfl ?_
        refine g_X2_top (pc := 40) hoi hoj lf_RX2_18 dX2_reaches_40 ?_
        refine r_aload_n (pc := 43) 1 dX2_reaches_43 rfl rfl ?_
        refine g_X2_high (pc := 44) hoi hoj lf_RX2_24 dX2_reaches_44 ?_
        refine r_iadd (pc := 47) dX2_reaches_47 ?_
        refine r_iconst (pc := 48) dX2_reaches_48 kc_iconst_1 ?_
        refine r_isub (pc := 49) dX2_reaches_49 ?_
        refine r_icmp_ne (pc := 50) 57 dX2_reaches_50 (by decide) (fun h85 => ?_) (fun h85 => ?_)
        · refine r_iconst (pc := 53) dX2_reaches_53 kc_iconst_1 ?_
          refine r_goto (pc := 54) 58 dX2_reaches_54 (by decide) ?_
          refine r_istore (pc := 58) [(5, .int (1 : Int32)), (4, .int (0 : Int32)), (0, .ref (ad en 9 oi oj)), (1, .int p0), (2, .int p1), (3, .int p2)] dX2_reaches_58 (by decide) rfl ?_
          refine r_iload_n (pc := 60) 4 dX2_reaches_60 rfl rfl ?_
          refine r_iload_n (pc := 61) 5 dX2_reaches_61 rfl rfl ?_
          refine r_iadd (pc := 62) dX2_reaches_62 ?_
          refine r_iconst (pc := 63) dX2_reaches_63 kc_iconst_2 ?_
          refine r_irem (pc := 64) dX2_reaches_64 (by decide) ?_
          refine r_if_ne (pc := 65) 72 dX2_reaches_65 (by decide) (fun h86 => ?_) (fun h86 => ?_)
          · refine r_iconst (pc := 68) dX2_reaches_68 kc_iconst_1 ?_
            refine r_goto (pc := 69) 73 dX2_reaches_69 (by decide) ?_
            refine r_istore (pc := 73) [(6, .int (1 : Int32)), (5, .int (1 : Int32)), (4, .int (0 : Int32)), (0, .ref (ad en 9 oi oj)), (1, .int p0), (2, .int p1), (3, .int p2)] dX2_reaches_73 (by decide) rfl ?_
            refine r_iload_n (pc := 75) 4 dX2_reaches_75 rfl rfl ?_
            refine r_ite (fun h87 => ?_) (fun h87 => ?_)
            · refine r_tableIn (pc := 76) 112 dX2_reaches_76 (by rw [h87]; decide) (by rw [h87]; decide) (by rw [h87]; rfl) (by decide) ?_
              refine r_iload (pc := 112) 2 dX2_reaches_112 rfl ?_
              refine r_if_ne_t (pc := 114) 122 dX2_reaches_114 (by decide) (by decide) ?_
              refine r_iload (pc := 117) 1 dX2_reaches_117 rfl ?_
              refine r_if_eq_f (pc := 119) 126 dX2_reaches_119 (by decide) (by decide) ?_
              refine r_iconst (pc := 122) dX2_reaches_122 kc_iconst_1 ?_
              refine r_goto (pc := 123) 127 dX2_reaches_123 (by decide) ?_
              exact r_zret (pc := 127) rfl rfl dX2_reaches_127
            refine r_ite (fun h88 => ?_) (fun h88 => ?_)
            · refine r_tableIn (pc := 76) 128 dX2_reaches_76 (by rw [h88]; decide) (by rw [h88]; decide) (by rw [h88]; rfl) (by decide) ?_
              refine r_iload (pc := 128) 0 dX2_reaches_128 rfl ?_
              exact r_zret (pc := 130) rfl rfl dX2_reaches_130
            refine r_ite (fun h89 => ?_) (fun h89 => ?_)
            · refine r_tableIn (pc := 76) 155 dX2_reaches_76 (by rw [h89]; decide) (by rw [h89]; decide) (by rw [h89]; rfl) (by decide) ?_
              refine r_iconst (pc := 155) dX2_reaches_155 kc_iconst_1 ?_
              exact r_zret (pc := 156) rfl rfl dX2_reaches_156
            refine r_ite (fun h90 => ?_) (fun h90 => ?_)
            · refine r_tableIn (pc := 76) 131 dX2_reaches_76 (by rw [h90]; decide) (by rw [h90]; decide) (by rw [h90]; rfl) (by decide) ?_
              refine r_iload (pc := 131) 2 dX2_reaches_131 rfl ?_
              exact r_zret (pc := 133) rfl rfl dX2_reaches_133
            refine r_ite (fun h91 => ?_) (fun h91 => ?_)
            · refine r_tableIn (pc := 76) 134 dX2_reaches_76 (by rw [h91]; decide) (by rw [h91]; decide) (by rw [h91]; rfl) (by decide) ?_
              refine r_iload (pc := 134) 0 dX2_reaches_134 rfl ?_
              refine r_if_eq_f (pc := 136) 153 dX2_reaches_136 (by decide) (by decide) ?_
              refine r_iload (pc := 139) 2 dX2_reaches_139 rfl ?_
              refine r_if_ne_t (pc := 141) 153 dX2_reaches_141 (by decide) (by decide) ?_
              refine r_iload (pc := 144) 1 dX2_reaches_144 rfl ?_
              refine r_if_ne_f (pc := 146) 153 dX2_reaches_146 (by decide) (by decide) ?_
              refine r_iconst (pc := 153) dX2_reaches_153 kc_iconst_0 ?_
              exact r_zret (pc := 154) rfl rfl dX2_reaches_154
            refine r_tableOut (pc := 76) 155 dX2_reaches_76 (sw_out (1) 5 (fun v hv => by rcases (show v = 0 ∨ v = 1 ∨ v = 2 ∨ v = 3 ∨ v = 4 by omega) with rfl | rfl | rfl | rfl | rfl <;> assumption)) (by decide) ?_
            refine r_iconst (pc := 155) dX2_reaches_155 kc_iconst_1 ?_
            exact r_zret (pc := 156) rfl rfl dX2_reaches_156
          · refine r_iconst (pc := 72) dX2_reaches_72 kc_iconst_0 ?_
            refine r_istore (pc := 73) [(6, .int (0 : Int32)), (5, .int (1 : Int32)), (4, .int (0 : Int32)), (0, .ref (ad en 9 oi oj)), (1, .int p0), (2, .int p1), (3, .int p2)] dX2_reaches_73 (by decide) rfl ?_
            refine r_iload_n (pc := 75) 4 dX2_reaches_75 rfl rfl ?_
            refine r_ite (fun h92 => ?_) (fun h92 => ?_)
            · refine r_tableIn (pc := 76) 112 dX2_reaches_76 (by rw [h92]; decide) (by rw [h92]; decide) (by rw [h92]; rfl) (by decide) ?_
              refine r_iload (pc := 112) 2 dX2_reaches_112 rfl ?_
              refine r_if_ne_t (pc := 114) 122 dX2_reaches_114 (by decide) (by decide) ?_
              refine r_iload (pc := 117) 1 dX2_reaches_117 rfl ?_
              refine r_if_eq_f (pc := 119) 126 dX2_reaches_119 (by decide) (by decide) ?_
              refine r_iconst (pc := 122) dX2_reaches_122 kc_iconst_1 ?_
              refine r_goto (pc := 123) 127 dX2_reaches_123 (by decide) ?_
              exact r_zret (pc := 127) rfl rfl dX2_reaches_127
            refine r_ite (fun h93 => ?_) (fun h93 => ?_)
            · refine r_tableIn (pc := 76) 128 dX2_reaches_76 (by rw [h93]; decide) (by rw [h93]; decide) (by rw [h93]; rfl) (by decide) ?_
              refine r_iload (pc := 128) 0 dX2_reaches_128 rfl ?_
              exact r_zret (pc := 130) rfl rfl dX2_reaches_130
            refine r_ite (fun h94 => ?_) (fun h94 => ?_)
            · refine r_tableIn (pc := 76) 155 dX2_reaches_76 (by rw [h94]; decide) (by rw [h94]; decide) (by rw [h94]; rfl) (by decide) ?_
              refine r_iconst (pc := 155) dX2_reaches_155 kc_iconst_1 ?_
              exact r_zret (pc := 156) rfl rfl dX2_reaches_156
            refine r_ite (fun h95 => ?_) (fun h95 => ?_)
            · refine r_tableIn (pc := 76) 131 dX2_reaches_76 (by rw [h95]; decide) (by rw [h95]; decide) (by rw [h95]; rfl) (by decide) ?_
              refine r_iload (pc := 131) 2 dX2_reaches_131 rfl ?_
              exact r_zret (pc := 133) rfl rfl dX2_reaches_133
            refine r_ite (fun h96 => ?_) (fun h96 => ?_)
            · refine r_tableIn (pc := 76) 134 dX2_reaches_76 (by rw [h96]; decide) (by rw [h96]; decide) (by rw [h96]; rfl) (by decide) ?_
              refine r_iload (pc := 134) 0 dX2_reaches_134 rfl ?_
              refine r_if_eq_t (pc := 136) 153 dX2_reaches_136 (by decide) (by decide) ?_
              refine r_iconst (pc := 153) dX2_reaches_153 kc_iconst_0 ?_
              exact r_zret (pc := 154) rfl rfl dX2_reaches_154
            refine r_tableOut (pc := 76) 155 dX2_reaches_76 (sw_out (1) 5 (fun v hv => by rcases (show v = 0 ∨ v = 1 ∨ v = 2 ∨ v = 3 ∨ v = 4 by omega) with rfl | rfl | rfl | rfl | rfl <;> assumption)) (by decide) ?_
            refine r_iconst (pc := 155) dX2_reaches_155 kc_iconst_1 ?_
            exact r_zret (pc := 156) rfl rfl dX2_reaches_156
        · refine r_iconst (pc := 57) dX2_reaches_57 kc_iconst_0 ?_
          refine r_istore (pc := 58) [(5, .int (0 : Int32)), (4, .int (0 : Int32)), (0, .ref (ad en 9 oi oj)), (1, .int p0), (2, .int p1), (3, .int p2)] dX2_reaches_58 (by decide) rfl ?_
          refine r_iload_n (pc := 60) 4 dX2_reaches_60 rfl rfl ?_
          refine r_iload_n (pc := 61) 5 dX2_reaches_61 rfl rfl ?_
          refine r_iadd (pc := 62) dX2_reaches_62 ?_
          refine r_iconst (pc := 63) dX2_reaches_63 kc_iconst_2 ?_
          refine r_irem (pc := 64) dX2_reaches_64 (by decide) ?_
          refine r_if_ne (pc := 65) 72 dX2_reaches_65 (by decide) (fun h97 => ?_) (fun h97 => ?_)
          · refine r_iconst (pc := 68) dX2_reaches_68 kc_iconst_1 ?_
            refine r_goto (pc := 69) 73 dX2_reaches_69 (by decide) ?_
            refine r_istore (pc := 73) [(6, .int (1 : Int32)), (5, .int (0 : Int32)), (4, .int (0 : Int32)), (0, .ref (ad en 9 oi oj)), (1, .int p0), (2, .int p1), (3, .int p2)] dX2_reaches_73 (by decide) rfl ?_
            refine r_iload_n (pc := 75) 4 dX2_reaches_75 rfl rfl ?_
            refine r_ite (fun h98 => ?_) (fun h98 => ?_)
            · refine r_tableIn (pc := 76) 112 dX2_reaches_76 (by rw [h98]; decide) (by rw [h98]; decide) (by rw [h98]; rfl) (by decide) ?_
              refine r_iload (pc := 112) 2 dX2_reaches_112 rfl ?_
              refine r_if_ne_t (pc := 114) 122 dX2_reaches_114 (by decide) (by decide) ?_
              refine r_iload (pc := 117) 1 dX2_reaches_117 rfl ?_
              refine r_if_eq_t (pc := 119) 126 dX2_reaches_119 (by decide) (by decide) ?_
              refine r_iconst (pc := 126) dX2_reaches_126 kc_iconst_0 ?_
              exact r_zret (pc := 127) rfl rfl dX2_reaches_127
            refine r_ite (fun h99 => ?_) (fun h99 => ?_)
            · refine r_tableIn (pc := 76) 128 dX2_reaches_76 (by rw [h99]; decide) (by rw [h99]; decide) (by rw [h99]; rfl) (by decide) ?_
              refine r_iload (pc := 128) 0 dX2_reaches_128 rfl ?_
              exact r_zret (pc := 130) rfl rfl dX2_reaches_130
            refine r_ite (fun h100 => ?_) (fun h100 => ?_)
            · refine r_tableIn (pc := 76) 155 dX2_reaches_76 (by rw [h100]; decide) (by rw [h100]; decide) (by rw [h100]; rfl) (by decide) ?_
              refine r_iconst (pc := 155) dX2_reaches_155 kc_iconst_1 ?_
              exact r_zret (pc := 156) rfl rfl dX2_reaches_156
            refine r_ite (fun h101 => ?_) (fun h101 => ?_)
            · refine r_tableIn (pc := 76) 131 dX2_reaches_76 (by rw [h101]; decide) (by rw [h101]; decide) (by rw [h101]; rfl) (by decide) ?_
              refine r_iload (pc := 131) 2 dX2_reaches_131 rfl ?_
              exact r_zret (pc := 133) rfl rfl dX2_reaches_133
            refine r_ite (fun h102 => ?_) (fun h102 => ?_)
            · refine r_tableIn (pc := 76) 134 dX2_reaches_76 (by rw [h102]; decide) (by rw [h102]; decide) (by rw [h102]; rfl) (by decide) ?_
              refine r_iload (pc := 134) 0 dX2_reaches_134 rfl ?_
              refine r_if_eq_f (pc := 136) 153 dX2_reaches_136 (by decide) (by decide) ?_
              refine r_iload (pc := 139) 2 dX2_reaches_139 rfl ?_
              refine r_if_ne_t (pc := 141) 153 dX2_reaches_141 (by decide) (by decide) ?_
              refine r_iload (pc := 144) 1 dX2_reaches_144 rfl ?_
              refine r_if_ne_t (pc := 146) 153 dX2_reaches_146 (by decide) (by decide) ?_
              refine r_iconst (pc := 149) dX2_reaches_149 kc_iconst_1 ?_
              refine r_goto (pc := 150) 154 dX2_reaches_150 (by decide) ?_
              exact r_zret (pc := 154) rfl rfl dX2_reaches_154
            refine r_tableOut (pc := 76) 155 dX2_reaches_76 (sw_out (1) 5 (fun v hv => by rcases (show v = 0 ∨ v = 1 ∨ v = 2 ∨ v = 3 ∨ v = 4 by omega) with rfl | rfl | rfl | rfl | rfl <;> assumption)) (by decide) ?_
            refine r_iconst (pc := 155) dX2_reaches_155 kc_iconst_1 ?_
            exact r_zret (pc := 156) rfl rfl dX2_reaches_156
          · refine r_iconst (pc := 72) dX2_reaches_72 kc_iconst_0 ?_
            refine r_istore (pc := 73) [(6, .int (0 : Int32)), (5, .int (0 : Int32)), (4, .int (0 : Int32)), (0, .ref (ad en 9 oi oj)), (1, .int p0), (2, .int p1), (3, .int p2)] dX2_reaches_73 (by decide) rfl ?_
            refine r_iload_n (pc := 75) 4 dX2_reaches_75 rfl rfl ?_
            refine r_ite (fun h103 => ?_) (fun h103 => ?_)
            · refine r_tableIn (pc := 76) 112 dX2_reaches_76 (by rw [h103]; decide) (by rw [h103]; decide) (by rw [h103]; rfl) (by decide) ?_
              refine r_iload (pc := 112) 2 dX2_reaches_112 rfl ?_
              refine r_if_ne_t (pc := 114) 122 dX2_reaches_114 (by decide) (by decide) ?_
              refine r_iload (pc := 117) 1 dX2_reaches_117 rfl ?_
              refine r_if_eq_t (pc := 119) 126 dX2_reaches_119 (by decide) (by decide) ?_
              refine r_iconst (pc := 126) dX2_reaches_126 kc_iconst_0 ?_
              exact r_zret (pc := 127) rfl rfl dX2_reaches_127
            refine r_ite (fun h104 => ?_) (fun h104 => ?_)
            · refine r_tableIn (pc := 76) 128 dX2_reaches_76 (by rw [h104]; decide) (by rw [h104]; decide) (by rw [h104]; rfl) (by decide) ?_
              refine r_iload (pc := 128) 0 dX2_reaches_128 rfl ?_
              exact r_zret (pc := 130) rfl rfl dX2_reaches_130
            refine r_ite (fun h105 => ?_) (fun h105 => ?_)
            · refine r_tableIn (pc := 76) 155 dX2_reaches_76 (by rw [h105]; decide) (by rw [h105]; decide) (by rw [h105]; rfl) (by decide) ?_
              refine r_iconst (pc := 155) dX2_reaches_155 kc_iconst_1 ?_
              exact r_zret (pc := 156) rfl rfl dX2_reaches_156
            refine r_ite (fun h106 => ?_) (fun h106 => ?_)
            · refine r_tableIn (pc := 76) 131 dX2_reaches_76 (by rw [h106]; decide) (by rw [h106]; decide) (by rw [h106]; rfl) (by decide) ?_
              refine r_iload (pc := 131) 2 dX2_reaches_131 rfl ?_
              exact r_zret (pc := 133) rfl rfl dX2_reaches_133
            refine r_ite (fun h107 => ?_) (fun h107 => ?_)
            · refine r_tableIn (pc := 76) 134 dX2_reaches_76 (by rw [h107]; decide) (by rw [h107]; decide) (by rw [h107]; rfl) (by decide) ?_
              refine r_iload (pc := 134) 0 dX2_reaches_134 rfl ?_
              refine r_if_eq_t (pc := 136) 153 dX2_reaches_136 (by decide) (by decide) ?_
              refine r_iconst (pc := 153) dX2_reaches_153 kc_iconst_0 ?_
              exact r_zret (pc := 154) rfl rfl dX2_reaches_154
            refine r_tableOut (pc := 76) 155 dX2_reaches_76 (sw_out (1) 5 (fun v hv => by rcases (show v = 0 ∨ v = 1 ∨ v = 2 ∨ v = 3 ∨ v = 4 by omega) with rfl | rfl | rfl | rfl | rfl <;> assumption)) (by decide) ?_
            refine r_iconst (pc := 155) dX2_reaches_155 kc_iconst_1 ?_
            exact r_zret (pc := 156) rfl rfl dX2_reaches_156
theorem ok_X2_reaches : yOk yX2_reaches cX2_reaches 7 (some .boolean) := ⟨in_lwG (by decide +kernel) rfl, in_lwG (by decide +kernel) rfl, by decide, by decide, by decide⟩
theorem k_X2_reaches {en : En} {Ex : (Nat → Prop) → State → Prop} {mi : Mi} {α : Type} {ev : α → Option Value × Sg} {pc index : Nat} {lv : List (Nat × Value)} {rest : List Value} {σ : Sg} {N : Nat} {k : (Int32 × Sg) → Option α} {oi : Nat} {oj : Nat} {p0 : Int32} {p1 : Int32} {p2 : Int32} (hlink : Cond.methodLink mi.1 index yX2_reaches ∈ lwG) (hroom : 1 + 1 ≤ mi.2.2.2.2) (hcat : (rest.map fun v => v.category).sum ≤ 8) (hd : decode mi.2.1 pc = .ok (.invokevirtual index, 3)) (hoi : oi < 5) (hoj : oj < 7) (h : ∀ w : Int32 × Sg, f_X2_reaches N oi oj p0 p1 p2 σ = some w → RR en Ex mi ev (pc + 3) lv (.int w.1 :: rest) w.2 (k w)) : RR en Ex mi ev pc lv (.int p2 :: .int p1 :: .int p0 :: .ref (ad en 9 oi oj) :: rest) σ ((f_X2_reaches N oi oj p0 p1 p2 σ).bind k) :=
  r_callV (n := 3) [.int p0, .int p1, .int p2] ok_X2_reaches hlink (in_lwG (by decide +kernel) rfl) (in_lwG (by decide +kernel) rfl) (by decide +kernel) rfl hroom (by decide) (o9 hoi hoj) rfl rfl hcat (R_X2_reaches en N oi oj p0 p1 p2 hoi hoj σ) (Nat.le_of_ble_eq_true rfl) hd h
set_option maxHeartbeats 4000000 in
theorem R_X2_addCell (en : En) (N : Nat) (oi : Nat) (oj : Nat) (p0 : Int32) (hoi : oi < 5) (hoj : oj < 7) (σ : Sg) : RR en ExT mi_X2_addCell evV 0 [(0, .ref (ad en 9 oi oj)), (1, .int p0)] [] σ (f_X2_addCell N oi oj p0 σ) := by
  unfold f_X2_addCell
  refine r_iload_n (pc := 0) 1 dX2_addCell_0 rfl rfl ?_
  refine r_bipush (pc := 1) dX2_addCell_1 kc_bipush_48 ?_
  refine r_icmp_ge (pc := 3) 21 dX2_addCell_3 (by decide) (fun h1 => ?_) (fun h1 => ?_)
  · refine r_aload_n (pc := 21) 0 dX2_addCell_21 rfl rfl ?_
    refine r_dup (pc := 22) dX2_addCell_22 rfl ?_
    refine g_X2_lowerHalf (pc := 23) hoi hoj lf_RX2_38 dX2_addCell_23 ?_
    refine r_lconst (pc := 26) (v := 1) dX2_addCell_26 rfl ?_
    refine r_iload_n (pc := 27) 1 dX2_addCell_27 rfl rfl ?_
    refine r_bipush (pc := 28) dX2_addCell_28 kc_bipush_48 ?_
    refine r_isub (pc := 30) dX2_addCell_30 ?_
    refine r_lshl (pc := 31) dX2_addCell_31 ?_
    refine r_lor (pc := 32) dX2_addCell_32 ?_
    refine p_X2_lowerHalf (pc := 33) hoi hoj lf_RX2_38 dX2_addCell_33 ?_
    exact r_vret (pc := 36) rfl dX2_addCell_36
  · refine r_aload_n (pc := 6) 0 dX2_addCell_6 rfl rfl ?_
    refine r_dup (pc := 7) dX2_addCell_7 rfl ?_
    refine g_X2_upperHalf (pc := 8) hoi hoj lf_RX2_34 dX2_addCell_8 ?_
    refine r_lconst (pc := 11) (v := 1) dX2_addCell_11 rfl ?_
    refine r_iload_n (pc := 12) 1 dX2_addCell_12 rfl rfl ?_
    refine r_lshl (pc := 13) dX2_addCell_13 ?_
    refine r_lor (pc := 14) dX2_addCell_14 ?_
    refine p_X2_upperHalf (pc := 15) hoi hoj lf_RX2_34 dX2_addCell_15 ?_
    refine r_goto (pc := 18) 36 dX2_addCell_18 (by decide) ?_
    exact r_vret (pc := 36) rfl dX2_addCell_36
theorem ok_X2_addCell : yOk yX2_addCell cX2_addCell 2 none := ⟨in_lwG (by decide +kernel) rfl, in_lwG (by decide +kernel) rfl, by decide, by decide, by decide⟩
theorem k_X2_addCell {en : En} {Ex : (Nat → Prop) → State → Prop} {mi : Mi} {α : Type} {ev : α → Option Value × Sg} {pc index : Nat} {lv : List (Nat × Value)} {rest : List Value} {σ : Sg} {N : Nat} {k : (Sg) → Option α} {oi : Nat} {oj : Nat} {p0 : Int32} (hlink : Cond.methodLink mi.1 index yX2_addCell ∈ lwG) (hroom : 1 + 1 ≤ mi.2.2.2.2) (hcat : (rest.map fun v => v.category).sum ≤ 8) (hd : decode mi.2.1 pc = .ok (.invokevirtual index, 3)) (hoi : oi < 5) (hoj : oj < 7) (h : ∀ w : Sg, f_X2_addCell N oi oj p0 σ = some w → RR en Ex mi ev (pc + 3) lv (rest) w (k w)) : RR en Ex mi ev pc lv (.int p0 :: .ref (ad en 9 oi oj) :: rest) σ ((f_X2_addCell N oi oj p0 σ).bind k) :=
  r_callV (n := 1) [.int p0] ok_X2_addCell hlink (in_lwG (by decide +kernel) rfl) (in_lwG (by decide +kernel) rfl) (by decide +kernel) rfl hroom (by decide) (o9 hoi hoj) rfl rfl hcat (R_X2_addCell en N oi oj p0 hoi hoj σ) (Nat.le_of_ble_eq_true rfl) hd h
set_option maxHeartbeats 4000000 in
theorem RL_X2_findCells_33 (en : En) (N : Nat) {k : Int32 → Sg → Option (Sg)} (a0i : Nat) (a0j : Nat) (a1 : Int32) (ha0i : a0i < 5) (ha0j : a0j < 7) (hk : ∀ (v2 : Int32) (σ : Sg), RR en ExT mi_X2_findCells evV 75 [(0, .ref (ad en 9 a0i a0j)), (1, .int a1)] [] σ (k v2 σ)) : ∀ (n : Nat) (v2 : Int32) (σ : Sg), RR en ExT mi_X2_findCells evV 33 [(0, .ref (ad en 9 a0i a0j)), (1, .int a1), (2, .int v2)] [] σ (L_X2_findCells_33 N k a0i a0j a1 n v2 σ) := by
  intro n
  induction n with
  | zero => intro v2 σ; exact r_none
  | succ n ih =>
    intro v2 σ
    rw [L_X2_findCells_33_s]
    refine r_iload_n (pc := 33) 2 dX2_findCells_33 rfl rfl ?_
    refine r_aload_n (pc := 34) 0 dX2_findCells_34 rfl rfl ?_
    refine g_X2_left (pc := 35) ha0i ha0j lf_RX2_15 dX2_findCells_35 ?_
    refine r_aload_n (pc := 38) 0 dX2_findCells_38 rfl rfl ?_
    refine g_X2_wide (pc := 39) ha0i ha0j lf_RX2_21 dX2_findCells_39 ?_
    refine r_iadd (pc := 42) dX2_findCells_42 ?_
    refine r_icmp_ge (pc := 43) 75 dX2_findCells_43 (by decide) (fun h2 => ?_) (fun h2 => ?_)
    · exact r_sub [0, 1] rfl (hk v2 σ)
    · refine r_aload_n (pc := 46) 0 dX2_findCells_46 rfl rfl ?_
      refine r_aload_n (pc := 47) 0 dX2_findCells_47 rfl rfl ?_
      refine g_X2_kind (pc := 48) ha0i ha0j lf_RX2_9 dX2_findCells_48 ?_
      refine r_iload_n (pc := 51) 2 dX2_findCells_51 rfl rfl ?_
      refine r_iload_n (pc := 52) 1 dX2_findCells_52 rfl rfl ?_
      refine k_X2_reaches (pc := 53) lm_RX2_44  (by decide) (Nat.le_of_ble_eq_true rfl) dX2_findCells_53 ha0i ha0j (fun w1 h3 => ?_)
      refine r_if_eq (pc := 56) 69 dX2_findCells_56 (by decide) (fun h4 => ?_) (fun h4 => ?_)
      · refine r_iinc (pc := 69) 2 [(2, .int (v2 + (1 : Int32))), (0, .ref (ad en 9 a0i a0j)), (1, .int a1)] dX2_findCells_69 rfl rfl (by decide) rfl ?_
        refine r_goto (pc := 72) 33 dX2_findCells_72 (by decide) ?_
        exact r_sub [1, 2, 0] rfl (ih (v2 + (1 : Int32)) w1.2)
      · refine r_aload_n (pc := 59) 0 dX2_findCells_59 rfl rfl ?_
        refine r_iload_n (pc := 60) 1 dX2_findCells_60 rfl rfl ?_
        refine r_bipush (pc := 61) dX2_findCells_61 kc_bipush_12 ?_
        refine r_imul (pc := 63) dX2_findCells_63 ?_
        refine r_iload_n (pc := 64) 2 dX2_findCells_64 rfl rfl ?_
        refine r_iadd (pc := 65) dX2_findCells_65 ?_
        refine k_X2_addCell (pc := 66) lm_RX2_48  (by decide) (Nat.le_of_ble_eq_true rfl) dX2_findCells_66 ha0i ha0j (fun w2 h5 => ?_)
        refine r_iinc (pc := 69) 2 [(2, .int (v2 + (1 : Int32))), (0, .ref (ad en 9 a0i a0j)), (1, .int a1)] dX2_findCells_69 rfl rfl (by decide) rfl ?_
        refine r_goto (pc := 72) 33 dX2_findCells_72 (by decide) ?_
        exact r_sub [1, 2, 0] rfl (ih (v2 + (1 : Int32)) w2)
set_option maxHeartbeats 4000000 in
theorem RL_X2_findCells_15 (en : En) (N : Nat) {k : Int32 → Sg → Option (Sg)} (a0i : Nat) (a0j : Nat) (ha0i : a0i < 5) (ha0j : a0j < 7) (hk : ∀ (v1 : Int32) (σ : Sg), RR en ExT mi_X2_findCells evV 81 [] [] σ (k v1 σ)) : ∀ (n : Nat) (v1 : Int32) (σ : Sg), RR en ExT mi_X2_findCells evV 15 [(0, .ref (ad en 9 a0i a0j)), (1, .int v1)] [] σ (L_X2_findCells_15 N k a0i a0j n v1 σ) := by
  intro n
  induction n with
  | zero => intro v1 σ; exact r_none
  | succ n ih =>
    intro v1 σ
    rw [L_X2_findCells_15_s]
    refine r_iload_n (pc := 15) 1 dX2_findCells_15 rfl rfl ?_
    refine r_aload_n (pc := 16) 0 dX2_findCells_16 rfl rfl ?_
    refine g_X2_top (pc := 17) ha0i ha0j lf_RX2_18 dX2_findCells_17 ?_
    refine r_aload_n (pc := 20) 0 dX2_findCells_20 rfl rfl ?_
    refine g_X2_high (pc := 21) ha0i ha0j lf_RX2_24 dX2_findCells_21 ?_
    refine r_iadd (pc := 24) dX2_findCells_24 ?_
    refine r_icmp_ge (pc := 25) 81 dX2_findCells_25 (by decide) (fun h1 => ?_) (fun h1 => ?_)
    · exact r_sub [] rfl (hk v1 σ)
    · refine r_aload_n (pc := 28) 0 dX2_findCells_28 rfl rfl ?_
      refine g_X2_left (pc := 29) ha0i ha0j lf_RX2_15 dX2_findCells_29 ?_
      refine r_istore_n (pc := 32) [(2, .int (rI σ 9 a0i a0j 1)), (0, .ref (ad en 9 a0i a0j)), (1, .int v1)] dX2_findCells_32 rfl (by decide) rfl ?_
      refine r_sub [1, 2, 0] rfl (RL_X2_findCells_33 en N a0i a0j v1 ha0i ha0j (fun v2_3 σ_3 => ?_) N (rI σ 9 a0i a0j 1) σ)
      refine r_iinc (pc := 75) 1 [(1, .int (v1 + (1 : Int32))), (0, .ref (ad en 9 a0i a0j))] dX2_findCells_75 rfl rfl (by decide) rfl ?_
      refine r_goto (pc := 78) 15 dX2_findCells_78 (by decide) ?_
      exact r_sub [1, 0] rfl (ih (v1 + (1 : Int32)) σ_3)
set_option maxHeartbeats 4000000 in
theorem R_X2_findCells (en : En) (N : Nat) (oi : Nat) (oj : Nat) (hoi : oi < 5) (hoj : oj < 7) (σ : Sg) : RR en ExT mi_X2_findCells evV 0 [(0, .ref (ad en 9 oi oj))] [] σ (f_X2_findCells N oi oj σ) := by
  unfold f_X2_findCells
  refine r_aload_n (pc := 0) 0 dX2_findCells_0 rfl rfl ?_
  refine r_lconst (pc := 1) (v := 0) dX2_findCells_1 rfl ?_
  refine p_X2_upperHalf (pc := 2) hoi hoj lf_RX2_34 dX2_findCells_2 ?_
  refine r_aload_n (pc := 5) 0 dX2_findCells_5 rfl rfl ?_
  refine r_lconst (pc := 6) (v := 0) dX2_findCells_6 rfl ?_
  refine p_X2_lowerHalf (pc := 7) hoi hoj lf_RX2_38 dX2_findCells_7 ?_
  refine r_aload_n (pc := 10) 0 dX2_findCells_10 rfl rfl ?_
  refine g_X2_top (pc := 11) hoi hoj lf_RX2_18 dX2_findCells_11 ?_
  refine r_istore_n (pc := 14) [(1, .int (rI (uL (uL σ 9 oi oj 7 (0 : Int64)) 9 oi oj 8 (0 : Int64)) 9 oi oj 2)), (0, .ref (ad en 9 oi oj))] dX2_findCells_14 rfl (by decide) rfl ?_
  refine r_sub [1, 0] rfl (RL_X2_findCells_15 en N oi oj hoi hoj (fun v1_4 σ_4 => ?_) N (rI (uL (uL σ 9 oi oj 7 (0 : Int64)) 9 oi oj 8 (0 : Int64)) 9 oi oj 2) (uL (uL σ 9 oi oj 7 (0 : Int64)) 9 oi oj 8 (0 : Int64)))
  exact r_vret (pc := 81) rfl dX2_findCells_81
theorem ok_X2_findCells : yOk yX2_findCells cX2_findCells 3 none := ⟨in_lwG (by decide +kernel) rfl, in_lwG (by decide +kernel) rfl, by decide, by decide, by decide⟩
theorem k_X2_findCells {en : En} {Ex : (Nat → Prop) → State → Prop} {mi : Mi} {α : Type} {ev : α → Option Value × Sg} {pc index : Nat} {lv : List (Nat × Value)} {rest : List Value} {σ : Sg} {N : Nat} {k : (Sg) → Option α} {oi : Nat} {oj : Nat} (hlink : Cond.methodLink mi.1 index yX2_findCells ∈ lwG) (hroom : 2 + 1 ≤ mi.2.2.2.2) (hcat : (rest.map fun v => v.category).sum ≤ 8) (hd : decode mi.2.1 pc = .ok (.invokevirtual index, 3)) (hoi : oi < 5) (hoj : oj < 7) (h : ∀ w : Sg, f_X2_findCells N oi oj σ = some w → RR en Ex mi ev (pc + 3) lv (rest) w (k w)) : RR en Ex mi ev pc lv (.ref (ad en 9 oi oj) :: rest) σ ((f_X2_findCells N oi oj σ).bind k) :=
  r_callV (n := 0) [] ok_X2_findCells hlink (in_lwG (by decide +kernel) rfl) (in_lwG (by decide +kernel) rfl) (by decide +kernel) rfl hroom (by decide) (o9 hoi hoj) rfl rfl hcat (R_X2_findCells en N oi oj hoi hoj σ) (Nat.le_of_ble_eq_true rfl) hd h
set_option maxHeartbeats 4000000 in
theorem R_X2_lieAt (en : En) (N : Nat) (oi : Nat) (oj : Nat) (p0 : Int32) (p1 : Int32) (hoi : oi < 5) (hoj : oj < 7) (σ : Sg) : RR en ExT mi_X2_lieAt evV 0 [(0, .ref (ad en 9 oi oj)), (1, .int p0), (2, .int p1)] [] σ (f_X2_lieAt N oi oj p0 p1 σ) := by
  unfold f_X2_lieAt
  refine r_aload_n (pc := 0) 0 dX2_lieAt_0 rfl rfl ?_
  refine r_iload_n (pc := 1) 1 dX2_lieAt_1 rfl rfl ?_
  refine p_X2_left (pc := 2) hoi hoj lf_RX2_15 dX2_lieAt_2 ?_
  refine r_aload_n (pc := 5) 0 dX2_lieAt_5 rfl rfl ?_
  refine r_iload_n (pc := 6) 2 dX2_lieAt_6 rfl rfl ?_
  refine p_X2_top (pc := 7) hoi hoj lf_RX2_18 dX2_lieAt_7 ?_
  refine r_aload_n (pc := 10) 0 dX2_lieAt_10 rfl rfl ?_
  refine k_X2_findCells (pc := 11) lm_RX2_41  (by decide) (Nat.le_of_ble_eq_true rfl) dX2_lieAt_11 hoi hoj (fun w1 h1 => ?_)
  exact r_vret (pc := 14) rfl dX2_lieAt_14
theorem ok_X2_lieAt : yOk yX2_lieAt cX2_lieAt 3 none := ⟨in_lwG (by decide +kernel) rfl, in_lwG (by decide +kernel) rfl, by decide, by decide, by decide⟩
theorem k_X2_lieAt {en : En} {Ex : (Nat → Prop) → State → Prop} {mi : Mi} {α : Type} {ev : α → Option Value × Sg} {pc index : Nat} {lv : List (Nat × Value)} {rest : List Value} {σ : Sg} {N : Nat} {k : (Sg) → Option α} {oi : Nat} {oj : Nat} {p0 : Int32} {p1 : Int32} (hlink : Cond.methodLink mi.1 index yX2_lieAt ∈ lwG) (hroom : 3 + 1 ≤ mi.2.2.2.2) (hcat : (rest.map fun v => v.category).sum ≤ 8) (hd : decode mi.2.1 pc = .ok (.invokevirtual index, 3)) (hoi : oi < 5) (hoj : oj < 7) (h : ∀ w : Sg, f_X2_lieAt N oi oj p0 p1 σ = some w → RR en Ex mi ev (pc + 3) lv (rest) w (k w)) : RR en Ex mi ev pc lv (.int p1 :: .int p0 :: .ref (ad en 9 oi oj) :: rest) σ ((f_X2_lieAt N oi oj p0 p1 σ).bind k) :=
  r_callV (n := 2) [.int p0, .int p1] ok_X2_lieAt hlink (in_lwG (by decide +kernel) rfl) (in_lwG (by decide +kernel) rfl) (by decide +kernel) rfl hroom (by decide) (o9 hoi hoj) rfl rfl hcat (R_X2_lieAt en N oi oj p0 p1 hoi hoj σ) (Nat.le_of_ble_eq_true rfl) hd h
set_option maxHeartbeats 4000000 in
theorem R_X1_takeBackLast (en : En) (N : Nat) (oi : Nat) (q0i : Nat) (hoi : oi < 4) (hq0i : q0i < 5) (σ : Sg) : RR en ExT mi_X1_takeBackLast evV 0 [(0, .ref (ad en 10 oi 0)), (1, .ref (ad en 7 q0i 0))] [] σ (f_X1_takeBackLast N oi q0i σ) := by
  unfold f_X1_takeBackLast
  refine r_aload_n (pc := 0) 0 dX1_takeBackLast_0 rfl rfl ?_
  refine g_X1_size (pc := 1) hoi lf_RX1_24 dX1_takeBackLast_1 ?_
  refine r_if_gt (pc := 4) 8 dX1_takeBackLast_4 (by decide) (fun h1 => ?_) (fun h1 => ?_)
  · refine r_aload_n (pc := 8) 0 dX1_takeBackLast_8 rfl rfl ?_
    refine r_dup (pc := 9) dX1_takeBackLast_9 rfl ?_
    refine g_X1_size (pc := 10) hoi lf_RX1_24 dX1_takeBackLast_10 ?_
    refine r_iconst (pc := 13) dX1_takeBackLast_13 kc_iconst_1 ?_
    refine r_isub (pc := 14) dX1_takeBackLast_14 ?_
    refine p_X1_size (pc := 15) hoi lf_RX1_24 dX1_takeBackLast_15 ?_
    refine r_aload_n (pc := 18) 0 dX1_takeBackLast_18 rfl rfl ?_
    refine g_X1_who (pc := 19) hoi lf_RX1_15 dX1_takeBackLast_19 ?_
    refine r_aload_n (pc := 22) 0 dX1_takeBackLast_22 rfl rfl ?_
    refine g_X1_size (pc := 23) hoi lf_RX1_24 dX1_takeBackLast_23 ?_
    refine r_iald (pc := 26) (n := 40) (o11 hoi (by decide)) rfl dX1_takeBackLast_26 (fun h2 => ?_)
    refine r_istore_n (pc := 27) [(2, .int (rI (uI σ 10 oi 0 4 ((rI σ 10 oi 0 4) - (1 : Int32))) 11 oi 1 (rI (uI σ 10 oi 0 4 ((rI σ 10 oi 0 4) - (1 : Int32))) 10 oi 0 4).toNatClampNeg)), (0, .ref (ad en 10 oi 0)), (1, .ref (ad en 7 q0i 0))] dX1_takeBackLast_27 rfl (by decide) rfl ?_
    refine r_aload_n (pc := 28) 2 dX1_takeBackLast_28 rfl rfl ?_
    refine g_X4_panes (pc := 29) hq0i lf_RX1_32 dX1_takeBackLast_29 ?_
    refine r_iload_n (pc := 32) 0 dX1_takeBackLast_32 rfl rfl ?_
    refine r_aald (pc := 33) (n := 7) (k := 7) (o8 hq0i) rfl rfl rfl dX1_takeBackLast_33 (fun h3 => ?_)
    refine r_astore_n (pc := 34) [(3, .ref (ad en 9 q0i ((rI (uI σ 10 oi 0 4 ((rI σ 10 oi 0 4) - (1 : Int32))) 11 oi 1 (rI (uI σ 10 oi 0 4 ((rI σ 10 oi 0 4) - (1 : Int32))) 10 oi 0 4).toNatClampNeg).toNatClampNeg))), (2, .int (rI (uI σ 10 oi 0 4 ((rI σ 10 oi 0 4) - (1 : Int32))) 11 oi 1 (rI (uI σ 10 oi 0 4 ((rI σ 10 oi 0 4) - (1 : Int32))) 10 oi 0 4).toNatClampNeg)), (0, .ref (ad en 10 oi 0)), (1, .ref (ad en 7 q0i 0))] dX1_takeBackLast_34 rfl (by decide) rfl ?_
    refine r_aload_n (pc := 35) 2 dX1_takeBackLast_35 rfl rfl ?_
    refine g_X1_what (pc := 36) hoi lf_RX1_9 dX1_takeBackLast_36 ?_
    refine r_aload_n (pc := 39) 2 dX1_takeBackLast_39 rfl rfl ?_
    refine g_X1_size (pc := 40) hoi lf_RX1_24 dX1_takeBackLast_40 ?_
    refine r_iald (pc := 43) (n := 40) (o11 hoi (by decide)) rfl dX1_takeBackLast_43 (fun h4 => ?_)
    refine r_ite (fun h5 => ?_) (fun h5 => ?_)
    · refine r_tableIn (pc := 44) 72 dX1_takeBackLast_44 (by rw [h5]; decide) (by rw [h5]; decide) (by rw [h5]; rfl) (by decide) ?_
      refine r_aload_n (pc := 72) 3 dX1_takeBackLast_72 rfl rfl ?_
      refine r_iload_n (pc := 73) 1 dX1_takeBackLast_73 rfl rfl ?_
      refine r_aload_n (pc := 74) 2 dX1_takeBackLast_74 rfl rfl ?_
      refine g_X1_first (pc := 75) hoi lf_RX1_18 dX1_takeBackLast_75 ?_
      refine r_aload_n (pc := 78) 2 dX1_takeBackLast_78 rfl rfl ?_
      refine g_X1_size (pc := 79) hoi lf_RX1_24 dX1_takeBackLast_79 ?_
      refine r_iald (pc := 82) (n := 40) (o11 hoi (by decide)) rfl dX1_takeBackLast_82 (fun h6 => ?_)
      refine k_X4_placeAt (pc := 83) lm_RX1_38  (by decide) (Nat.le_of_ble_eq_true rfl) dX1_takeBackLast_83 hq0i (fun w1 h7 => ?_)
      refine r_goto (pc := 86) 143 dX1_takeBackLast_86 (by decide) ?_
      exact r_vret (pc := 143) rfl dX1_takeBackLast_143
    refine r_ite (fun h8 => ?_) (fun h8 => ?_)
    · refine r_tableIn (pc := 44) 89 dX1_takeBackLast_44 (by rw [h8]; decide) (by rw [h8]; decide) (by rw [h8]; rfl) (by decide) ?_
      refine r_aload_n (pc := 89) 0 dX1_takeBackLast_89 rfl rfl ?_
      refine r_aload_n (pc := 90) 0 dX1_takeBackLast_90 rfl rfl ?_
      refine g_X2_left (pc := 91) hq0i (ib_lt h3) lf_RX1_42 dX1_takeBackLast_91 ?_
      refine r_aload_n (pc := 94) 2 dX1_takeBackLast_94 rfl rfl ?_
      refine g_X1_first (pc := 95) hoi lf_RX1_18 dX1_takeBackLast_95 ?_
      refine r_aload_n (pc := 98) 2 dX1_takeBackLast_98 rfl rfl ?_
      refine g_X1_size (pc := 99) hoi lf_RX1_24 dX1_takeBackLast_99 ?_
      refine r_iald (pc := 102) (n := 40) (o11 hoi (by decide)) rfl dX1_takeBackLast_102 (fun h9 => ?_)
      refine r_isub (pc := 103) dX1_takeBackLast_103 ?_
      refine r_aload_n (pc := 104) 0 dX1_takeBackLast_104 rfl rfl ?_
      refine g_X2_top (pc := 105) hq0i (ib_lt h3) lf_RX1_47 dX1_takeBackLast_105 ?_
      refine r_aload_n (pc := 108) 2 dX1_takeBackLast_108 rfl rfl ?_
      refine g_X1_second (pc := 109) hoi lf_RX1_21 dX1_takeBackLast_109 ?_
      refine r_aload_n (pc := 112) 2 dX1_takeBackLast_112 rfl rfl ?_
      refine g_X1_size (pc := 113) hoi lf_RX1_24 dX1_takeBackLast_113 ?_
      refine r_iald (pc := 116) (n := 40) (o11 hoi (by decide)) rfl dX1_takeBackLast_116 (fun h10 => ?_)
      refine r_isub (pc := 117) dX1_takeBackLast_117 ?_
      refine k_X2_lieAt (pc := 118) lm_RX1_50  (by decide) (Nat.le_of_ble_eq_true rfl) dX1_takeBackLast_118 hq0i (ib_lt h3) (fun w2 h11 => ?_)
      refine r_goto (pc := 121) 143 dX1_takeBackLast_121 (by decide) ?_
      exact r_vret (pc := 143) rfl dX1_takeBackLast_143
    refine r_ite (fun h12 => ?_) (fun h12 => ?_)
    · refine r_tableIn (pc := 44) 124 dX1_takeBackLast_44 (by rw [h12]; decide) (by rw [h12]; decide) (by rw [h12]; rfl) (by decide) ?_
      refine r_aload_n (pc := 124) 0 dX1_takeBackLast_124 rfl rfl ?_
      refine r_aload_n (pc := 125) 0 dX1_takeBackLast_125 rfl rfl ?_
      refine g_X2_open (pc := 126) hq0i (ib_lt h3) lf_RX1_53 dX1_takeBackLast_126 ?_
      refine r_if_ne (pc := 129) 136 dX1_takeBackLast_129 (by decide) (fun h13 => ?_) (fun h13 => ?_)
      · refine r_iconst (pc := 132) dX1_takeBackLast_132 kc_iconst_1 ?_
        refine r_goto (pc := 133) 137 dX1_takeBackLast_133 (by decide) ?_
        refine p_X2_open (pc := 137) hq0i (ib_lt h3) lf_RX1_53 rfl dX1_takeBackLast_137 ?_
        refine r_goto (pc := 140) 143 dX1_takeBackLast_140 (by decide) ?_
        exact r_vret (pc := 143) rfl dX1_takeBackLast_143
      · refine r_iconst (pc := 136) dX1_takeBackLast_136 kc_iconst_0 ?_
        refine p_X2_open (pc := 137) hq0i (ib_lt h3) lf_RX1_53 rfl dX1_takeBackLast_137 ?_
        refine r_goto (pc := 140) 143 dX1_takeBackLast_140 (by decide) ?_
        exact r_vret (pc := 143) rfl dX1_takeBackLast_143
    refine r_tableOut (pc := 44) 143 dX1_takeBackLast_44 (sw_out (0) 3 (fun v hv => by rcases (show v = 0 ∨ v = 1 ∨ v = 2 by omega) with rfl | rfl | rfl <;> assumption)) (by decide) ?_
    exact r_vret (pc := 143) rfl dX1_takeBackLast_143
  · exact r_vret (pc := 7) rfl dX1_takeBackLast_7
theorem ok_X1_takeBackLast : yOk yX1_takeBackLast cX1_takeBackLast 4 none := ⟨in_lwG (by decide +kernel) rfl, in_lwG (by decide +kernel) rfl, by decide, by decide, by decide⟩
theorem k_X1_takeBackLast {en : En} {Ex : (Nat → Prop) → State → Prop} {mi : Mi} {α : Type} {ev : α → Option Value × Sg} {pc index : Nat} {lv : List (Nat × Value)} {rest : List Value} {σ : Sg} {N : Nat} {k : (Sg) → Option α} {oi : Nat} {q0i : Nat} (hlink : Cond.methodLink mi.1 index yX1_takeBackLast ∈ lwG) (hroom : 4 + 1 ≤ mi.2.2.2.2) (hcat : (rest.map fun v => v.category).sum ≤ 8) (hd : decode mi.2.1 pc = .ok (.invokevirtual index, 3)) (hoi : oi < 4) (hq0i : q0i < 5) (h : ∀ w : Sg, f_X1_takeBackLast N oi q0i σ = some w → RR en Ex mi ev (pc + 3) lv (rest) w (k w)) : RR en Ex mi ev pc lv (.ref (ad en 7 q0i 0) :: .ref (ad en 10 oi 0) :: rest) σ ((f_X1_takeBackLast N oi q0i σ).bind k) :=
  r_callV (n := 1) [.ref (ad en 7 q0i 0)] ok_X1_takeBackLast hlink (in_lwG (by decide +kernel) rfl) (in_lwG (by decide +kernel) rfl) (by decide +kernel) rfl hroom (by decide) (o10 hoi) rfl rfl hcat (R_X1_takeBackLast en N oi q0i hoi hq0i σ) (Nat.le_of_ble_eq_true rfl) hd h
set_option maxHeartbeats 4000000 in
theorem R_X2_become (en : En) (N : Nat) (oi : Nat) (oj : Nat) (q0i : Nat) (q0j : Nat) (hoi : oi < 5) (hoj : oj < 7) (hq0i : q0i < 5) (hq0j : q0j < 7) (σ : Sg) : RR en ExT mi_X2_become evV 0 [(0, .ref (ad en 9 oi oj)), (1, .ref (ad en 9 q0i q0j))] [] σ (f_X2_become N oi oj q0i q0j σ) := by
  unfold f_X2_become
  refine r_aload_n (pc := 0) 0 dX2_become_0 rfl rfl ?_
  refine r_aload_n (pc := 1) 1 dX2_become_1 rfl rfl ?_
  refine g_X2_kind (pc := 2) hq0i hq0j lf_RX2_9 dX2_become_2 ?_
  refine p_X2_kind (pc := 5) hoi hoj lf_RX2_9 dX2_become_5 ?_
  refine r_aload_n (pc := 8) 0 dX2_become_8 rfl rfl ?_
  refine r_aload_n (pc := 9) 1 dX2_become_9 rfl rfl ?_
  refine g_X2_left (pc := 10) hq0i hq0j lf_RX2_15 dX2_become_10 ?_
  refine p_X2_left (pc := 13) hoi hoj lf_RX2_15 dX2_become_13 ?_
  refine r_aload_n (pc := 16) 0 dX2_become_16 rfl rfl ?_
  refine r_aload_n (pc := 17) 1 dX2_become_17 rfl rfl ?_
  refine g_X2_top (pc := 18) hq0i hq0j lf_RX2_18 dX2_become_18 ?_
  refine p_X2_top (pc := 21) hoi hoj lf_RX2_18 dX2_become_21 ?_
  refine r_aload_n (pc := 24) 0 dX2_become_24 rfl rfl ?_
  refine r_aload_n (pc := 25) 1 dX2_become_25 rfl rfl ?_
  refine g_X2_wide (pc := 26) hq0i hq0j lf_RX2_21 dX2_become_26 ?_
  refine p_X2_wide (pc := 29) hoi hoj lf_RX2_21 dX2_become_29 ?_
  refine r_aload_n (pc := 32) 0 dX2_become_32 rfl rfl ?_
  refine r_aload_n (pc := 33) 1 dX2_become_33 rfl rfl ?_
  refine g_X2_high (pc := 34) hq0i hq0j lf_RX2_24 dX2_become_34 ?_
  refine p_X2_high (pc := 37) hoi hoj lf_RX2_24 dX2_become_37 ?_
  refine r_aload_n (pc := 40) 0 dX2_become_40 rfl rfl ?_
  refine r_aload_n (pc := 41) 1 dX2_become_41 rfl rfl ?_
  refine g_X2_place (pc := 42) hq0i hq0j lf_RX2_27 dX2_become_42 ?_
  refine p_X2_place (pc := 45) hoi hoj lf_RX2_27 dX2_become_45 ?_
  refine r_aload_n (pc := 48) 0 dX2_become_48 rfl rfl ?_
  refine r_aload_n (pc := 49) 1 dX2_become_49 rfl rfl ?_
  refine g_X2_open (pc := 50) hq0i hq0j lf_RX2_30 dX2_become_50 ?_
  refine p_X2_open (pc := 53) hoi hoj lf_RX2_30 (nb_narrow _) dX2_become_53 ?_
  refine r_aload_n (pc := 56) 0 dX2_become_56 rfl rfl ?_
  refine r_aload_n (pc := 57) 1 dX2_become_57 rfl rfl ?_
  refine g_X2_upperHalf (pc := 58) hq0i hq0j lf_RX2_34 dX2_become_58 ?_
  refine p_X2_upperHalf (pc := 61) hoi hoj lf_RX2_34 dX2_become_61 ?_
  refine r_aload_n (pc := 64) 0 dX2_become_64 rfl rfl ?_
  refine r_aload_n (pc := 65) 1 dX2_become_65 rfl rfl ?_
  refine g_X2_lowerHalf (pc := 66) hq0i hq0j lf_RX2_38 dX2_become_66 ?_
  refine p_X2_lowerHalf (pc := 69) hoi hoj lf_RX2_38 dX2_become_69 ?_
  exact r_vret (pc := 72) rfl dX2_become_72
theorem ok_X2_become : yOk yX2_become cX2_become 2 none := ⟨in_lwG (by decide +kernel) rfl, in_lwG (by decide +kernel) rfl, by decide, by decide, by decide⟩
theorem k_X2_become {en : En} {Ex : (Nat → Prop) → State → Prop} {mi : Mi} {α : Type} {ev : α → Option Value × Sg} {pc index : Nat} {lv : List (Nat × Value)} {rest : List Value} {σ : Sg} {N : Nat} {k : (Sg) → Option α} {oi : Nat} {oj : Nat} {q0i : Nat} {q0j : Nat} (hlink : Cond.methodLink mi.1 index yX2_become ∈ lwG) (hroom : 1 + 1 ≤ mi.2.2.2.2) (hcat : (rest.map fun v => v.category).sum ≤ 8) (hd : decode mi.2.1 pc = .ok (.invokevirtual index, 3)) (hoi : oi < 5) (hoj : oj < 7) (hq0i : q0i < 5) (hq0j : q0j < 7) (h : ∀ w : Sg, f_X2_become N oi oj q0i q0j σ = some w → RR en Ex mi ev (pc + 3) lv (rest) w (k w)) : RR en Ex mi ev pc lv (.ref (ad en 9 q0i q0j) :: .ref (ad en 9 oi oj) :: rest) σ ((f_X2_become N oi oj q0i q0j σ).bind k) :=
  r_callV (n := 1) [.ref (ad en 9 q0i q0j)] ok_X2_become hlink (in_lwG (by decide +kernel) rfl) (in_lwG (by decide +kernel) rfl) (by decide +kernel) rfl hroom (by decide) (o9 hoi hoj) rfl rfl hcat (R_X2_become en N oi oj q0i q0j hoi hoj hq0i hq0j σ) (Nat.le_of_ble_eq_true rfl) hd h
set_option maxHeartbeats 4000000 in
theorem R_X2_cellsShared (en : En) (N : Nat) (oi : Nat) (oj : Nat) (q0i : Nat) (q0j : Nat) (hoi : oi < 5) (hoj : oj < 7) (hq0i : q0i < 5) (hq0j : q0j < 7) (σ : Sg) : RR en ExT mi_X2_cellsShared evI 0 [(0, .ref (ad en 9 oi oj)), (1, .ref (ad en 9 q0i q0j))] [] σ (f_X2_cellsShared N oi oj q0i q0j σ) := by
  unfold f_X2_cellsShared
  refine r_aload_n (pc := 0) 0 dX2_cellsShared_0 rfl rfl ?_
  refine g_X2_upperHalf (pc := 1) hoi hoj lf_RX2_34 dX2_cellsShared_1 ?_
  refine r_aload_n (pc := 4) 1 dX2_cellsShared_4 rfl rfl ?_
  refine g_X2_upperHalf (pc := 5) hq0i hq0j lf_RX2_34 dX2_cellsShared_5 ?_
  refine r_land (pc := 8) dX2_cellsShared_8 ?_
  refine k_J13_bitCount_95d88 (pc := 9) lm_RX2_52  (by decide) (Nat.le_of_ble_eq_true rfl) dX2_cellsShared_9 (fun w1 h1 => ?_)
  refine r_aload_n (pc := 12) 0 dX2_cellsShared_12 rfl rfl ?_
  refine g_X2_lowerHalf (pc := 13) hoi hoj lf_RX2_38 dX2_cellsShared_13 ?_
  refine r_aload_n (pc := 16) 1 dX2_cellsShared_16 rfl rfl ?_
  refine g_X2_lowerHalf (pc := 17) hq0i hq0j lf_RX2_38 dX2_cellsShared_17 ?_
  refine r_land (pc := 20) dX2_cellsShared_20 ?_
  refine k_J13_bitCount_95d88 (pc := 21) lm_RX2_52  (by decide) (Nat.le_of_ble_eq_true rfl) dX2_cellsShared_21 (fun w2 h2 => ?_)
  refine r_iadd (pc := 24) dX2_cellsShared_24 ?_
  exact r_iret (pc := 25) rfl dX2_cellsShared_25
theorem ok_X2_cellsShared : yOk yX2_cellsShared cX2_cellsShared 2 (some .int) := ⟨in_lwG (by decide +kernel) rfl, in_lwG (by decide +kernel) rfl, by decide, by decide, by decide⟩
theorem k_X2_cellsShared {en : En} {Ex : (Nat → Prop) → State → Prop} {mi : Mi} {α : Type} {ev : α → Option Value × Sg} {pc index : Nat} {lv : List (Nat × Value)} {rest : List Value} {σ : Sg} {N : Nat} {k : (Int32 × Sg) → Option α} {oi : Nat} {oj : Nat} {q0i : Nat} {q0j : Nat} (hlink : Cond.methodLink mi.1 index yX2_cellsShared ∈ lwG) (hroom : 2 + 1 ≤ mi.2.2.2.2) (hcat : (rest.map fun v => v.category).sum ≤ 8) (hd : decode mi.2.1 pc = .ok (.invokevirtual index, 3)) (hoi : oi < 5) (hoj : oj < 7) (hq0i : q0i < 5) (hq0j : q0j < 7) (h : ∀ w : Int32 × Sg, f_X2_cellsShared N oi oj q0i q0j σ = some w → RR en Ex mi ev (pc + 3) lv (.int w.1 :: rest) w.2 (k w)) : RR en Ex mi ev pc lv (.ref (ad en 9 q0i q0j) :: .ref (ad en 9 oi oj) :: rest) σ ((f_X2_cellsShared N oi oj q0i q0j σ).bind k) :=
  r_callV (n := 1) [.ref (ad en 9 q0i q0j)] ok_X2_cellsShared hlink (in_lwG (by decide +kernel) rfl) (in_lwG (by decide +kernel) rfl) (by decide +kernel) rfl hroom (by decide) (o9 hoi hoj) rfl rfl hcat (R_X2_cellsShared en N oi oj q0i q0j hoi hoj hq0i hq0j σ) (Nat.le_of_ble_eq_true rfl) hd h
set_option maxHeartbeats 4000000 in
theorem R_X2_covered (en : En) (N : Nat) (oi : Nat) (oj : Nat) (hoi : oi < 5) (hoj : oj < 7) (σ : Sg) : RR en ExT mi_X2_covered evI 0 [(0, .ref (ad en 9 oi oj))] [] σ (f_X2_covered N oi oj σ) := by
  unfold f_X2_covered
  refine r_aload_n (pc := 0) 0 dX2_covered_0 rfl rfl ?_
  refine g_X2_upperHalf (pc := 1) hoi hoj lf_RX2_34 dX2_covered_1 ?_
  refine k_J13_bitCount_95d88 (pc := 4) lm_RX2_52  (by decide) (Nat.le_of_ble_eq_true rfl) dX2_covered_4 (fun w1 h1 => ?_)
  refine r_aload_n (pc := 7) 0 dX2_covered_7 rfl rfl ?_
  refine g_X2_lowerHalf (pc := 8) hoi hoj lf_RX2_38 dX2_covered_8 ?_
  refine k_J13_bitCount_95d88 (pc := 11) lm_RX2_52  (by decide) (Nat.le_of_ble_eq_true rfl) dX2_covered_11 (fun w2 h2 => ?_)
  refine r_iadd (pc := 14) dX2_covered_14 ?_
  exact r_iret (pc := 15) rfl dX2_covered_15
theorem ok_X2_covered : yOk yX2_covered cX2_covered 1 (some .int) := ⟨in_lwG (by decide +kernel) rfl, in_lwG (by decide +kernel) rfl, by decide, by decide, by decide⟩
theorem k_X2_covered {en : En} {Ex : (Nat → Prop) → State → Prop} {mi : Mi} {α : Type} {ev : α → Option Value × Sg} {pc index : Nat} {lv : List (Nat × Value)} {rest : List Value} {σ : Sg} {N : Nat} {k : (Int32 × Sg) → Option α} {oi : Nat} {oj : Nat} (hlink : Cond.methodLink mi.1 index yX2_covered ∈ lwG) (hroom : 2 + 1 ≤ mi.2.2.2.2) (hcat : (rest.map fun v => v.category).sum ≤ 8) (hd : decode mi.2.1 pc = .ok (.invokevirtual index, 3)) (hoi : oi < 5) (hoj : oj < 7) (h : ∀ w : Int32 × Sg, f_X2_covered N oi oj σ = some w → RR en Ex mi ev (pc + 3) lv (.int w.1 :: rest) w.2 (k w)) : RR en Ex mi ev pc lv (.ref (ad en 9 oi oj) :: rest) σ ((f_X2_covered N oi oj σ).bind k) :=
  r_callV (n := 0) [] ok_X2_covered hlink (in_lwG (by decide +kernel) rfl) (in_lwG (by decide +kernel) rfl) (by decide +kernel) rfl hroom (by decide) (o9 hoi hoj) rfl rfl hcat (R_X2_covered en N oi oj hoi hoj σ) (Nat.le_of_ble_eq_true rfl) hd h
set_option maxHeartbeats 4000000 in
theorem RL_X2_coveredAs_26 (en : En) (N : Nat) {k : Int32 → Int32 → Sg → Option (Int32 × Sg)} (a0i : Nat) (a0j : Nat) (a1 : Int32) (a3 : Int32) (ha0i : a0i < 5) (ha0j : a0j < 7) (hk : ∀ (v2 : Int32) (v4 : Int32) (σ : Sg), RR en ExT mi_X2_coveredAs evI 65 [(0, .ref (ad en 9 a0i a0j)), (1, .int a1), (2, .int v2), (3, .int a3)] [] σ (k v2 v4 σ)) : ∀ (n : Nat) (v2 : Int32) (v4 : Int32) (σ : Sg), RR en ExT mi_X2_coveredAs evI 26 [(0, .ref (ad en 9 a0i a0j)), (1, .int a1), (2, .int v2), (3, .int a3), (4, .int v4)] [] σ (L_X2_coveredAs_26 N k a0i a0j a1 a3 n v2 v4 σ) := by
  intro n
  induction n with
  | zero => intro v2 v4 σ; exact r_none
  | succ n ih =>
    intro v2 v4 σ
    rw [L_X2_coveredAs_26_s]
    refine r_iload (pc := 26) 4 dX2_coveredAs_26 rfl ?_
    refine r_aload_n (pc := 28) 0 dX2_coveredAs_28 rfl rfl ?_
    refine g_X2_left (pc := 29) ha0i ha0j lf_RX2_15 dX2_coveredAs_29 ?_
    refine r_aload_n (pc := 32) 0 dX2_coveredAs_32 rfl rfl ?_
    refine g_X2_wide (pc := 33) ha0i ha0j lf_RX2_21 dX2_coveredAs_33 ?_
    refine r_iadd (pc := 36) dX2_coveredAs_36 ?_
    refine r_icmp_ge (pc := 37) 65 dX2_coveredAs_37 (by decide) (fun h2 => ?_) (fun h2 => ?_)
    · exact r_sub [0, 1, 2, 3] rfl (hk v2 v4 σ)
    · refine r_iload_n (pc := 40) 2 dX2_coveredAs_40 rfl rfl ?_
      refine r_aload_n (pc := 41) 0 dX2_coveredAs_41 rfl rfl ?_
      refine r_iload_n (pc := 42) 1 dX2_coveredAs_42 rfl rfl ?_
      refine r_iload (pc := 43) 4 dX2_coveredAs_43 rfl ?_
      refine r_iload_n (pc := 45) 3 dX2_coveredAs_45 rfl rfl ?_
      refine k_X2_reaches (pc := 46) lm_RX2_44  (by decide) (Nat.le_of_ble_eq_true rfl) dX2_coveredAs_46 ha0i ha0j (fun w1 h3 => ?_)
      refine r_if_eq (pc := 49) 56 dX2_coveredAs_49 (by decide) (fun h4 => ?_) (fun h4 => ?_)
      · refine r_iconst (pc := 56) dX2_coveredAs_56 kc_iconst_0 ?_
        refine r_iadd (pc := 57) dX2_coveredAs_57 ?_
        refine r_istore_n (pc := 58) [(2, .int (v2 + (0 : Int32))), (0, .ref (ad en 9 a0i a0j)), (1, .int a1), (3, .int a3), (4, .int v4)] dX2_coveredAs_58 rfl (by decide) rfl ?_
        refine r_iinc (pc := 59) 4 [(4, .int (v4 + (1 : Int32))), (2, .int (v2 + (0 : Int32))), (0, .ref (ad en 9 a0i a0j)), (1, .int a1), (3, .int a3)] dX2_coveredAs_59 rfl rfl (by decide) rfl ?_
        refine r_goto (pc := 62) 26 dX2_coveredAs_62 (by decide) ?_
        exact r_sub [2, 3, 1, 4, 0] rfl (ih (v2 + (0 : Int32)) (v4 + (1 : Int32)) w1.2)
      · refine r_iconst (pc := 52) dX2_coveredAs_52 kc_iconst_1 ?_
        refine r_goto (pc := 53) 57 dX2_coveredAs_53 (by decide) ?_
        refine r_iadd (pc := 57) dX2_coveredAs_57 ?_
        refine r_istore_n (pc := 58) [(2, .int (v2 + (1 : Int32))), (0, .ref (ad en 9 a0i a0j)), (1, .int a1), (3, .int a3), (4, .int v4)] dX2_coveredAs_58 rfl (by decide) rfl ?_
        refine r_iinc (pc := 59) 4 [(4, .int (v4 + (1 : Int32))), (2, .int (v2 + (1 : Int32))), (0, .ref (ad en 9 a0i a0j)), (1, .int a1), (3, .int a3)] dX2_coveredAs_59 rfl rfl (by decide) rfl ?_
        refine r_goto (pc := 62) 26 dX2_coveredAs_62 (by decide) ?_
        exact r_sub [2, 3, 1, 4, 0] rfl (ih (v2 + (1 : Int32)) (v4 + (1 : Int32)) w1.2)
set_option maxHeartbeats 4000000 in
theorem RL_X2_coveredAs_7 (en : En) (N : Nat) {k : Int32 → Int32 → Sg → Option (Int32 × Sg)} (a0i : Nat) (a0j : Nat) (a1 : Int32) (ha0i : a0i < 5) (ha0j : a0j < 7) (hk : ∀ (v2 : Int32) (v3 : Int32) (σ : Sg), RR en ExT mi_X2_coveredAs evI 71 [(2, .int v2)] [] σ (k v2 v3 σ)) : ∀ (n : Nat) (v2 : Int32) (v3 : Int32) (σ : Sg), RR en ExT mi_X2_coveredAs evI 7 [(0, .ref (ad en 9 a0i a0j)), (1, .int a1), (2, .int v2), (3, .int v3)] [] σ (L_X2_coveredAs_7 N k a0i a0j a1 n v2 v3 σ) := by
  intro n
  induction n with
  | zero => intro v2 v3 σ; exact r_none
  | succ n ih =>
    intro v2 v3 σ
    rw [L_X2_coveredAs_7_s]
    refine r_iload_n (pc := 7) 3 dX2_coveredAs_7 rfl rfl ?_
    refine r_aload_n (pc := 8) 0 dX2_coveredAs_8 rfl rfl ?_
    refine g_X2_top (pc := 9) ha0i ha0j lf_RX2_18 dX2_coveredAs_9 ?_
    refine r_aload_n (pc := 12) 0 dX2_coveredAs_12 rfl rfl ?_
    refine g_X2_high (pc := 13) ha0i ha0j lf_RX2_24 dX2_coveredAs_13 ?_
    refine r_iadd (pc := 16) dX2_coveredAs_16 ?_
    refine r_icmp_ge (pc := 17) 71 dX2_coveredAs_17 (by decide) (fun h1 => ?_) (fun h1 => ?_)
    · exact r_sub [2] rfl (hk v2 v3 σ)
    · refine r_aload_n (pc := 20) 0 dX2_coveredAs_20 rfl rfl ?_
      refine g_X2_left (pc := 21) ha0i ha0j lf_RX2_15 dX2_coveredAs_21 ?_
      refine r_istore (pc := 24) [(4, .int (rI σ 9 a0i a0j 1)), (0, .ref (ad en 9 a0i a0j)), (1, .int a1), (2, .int v2), (3, .int v3)] dX2_coveredAs_24 (by decide) rfl ?_
      refine r_sub [1, 2, 3, 4, 0] rfl (RL_X2_coveredAs_26 en N a0i a0j a1 v3 ha0i ha0j (fun v2_2 v4_2 σ_2 => ?_) N v2 (rI σ 9 a0i a0j 1) σ)
      refine r_iinc (pc := 65) 3 [(3, .int (v3 + (1 : Int32))), (0, .ref (ad en 9 a0i a0j)), (1, .int a1), (2, .int v2_2)] dX2_coveredAs_65 rfl rfl (by decide) rfl ?_
      refine r_goto (pc := 68) 7 dX2_coveredAs_68 (by decide) ?_
      exact r_sub [1, 2, 3, 0] rfl (ih v2_2 (v3 + (1 : Int32)) σ_2)
set_option maxHeartbeats 4000000 in
theorem R_X2_coveredAs (en : En) (N : Nat) (oi : Nat) (oj : Nat) (p0 : Int32) (hoi : oi < 5) (hoj : oj < 7) (σ : Sg) : RR en ExT mi_X2_coveredAs evI 0 [(0, .ref (ad en 9 oi oj)), (1, .int p0)] [] σ (f_X2_coveredAs N oi oj p0 σ) := by
  unfold f_X2_coveredAs
  refine r_iconst (pc := 0) dX2_coveredAs_0 kc_iconst_0 ?_
  refine r_istore_n (pc := 1) [(2, .int (0 : Int32)), (0, .ref (ad en 9 oi oj)), (1, .int p0)] dX2_coveredAs_1 rfl (by decide) rfl ?_
  refine r_aload_n (pc := 2) 1 dX2_coveredAs_2 rfl rfl ?_
  refine g_X2_top (pc := 3) hoi hoj lf_RX2_18 dX2_coveredAs_3 ?_
  refine r_istore_n (pc := 6) [(3, .int (rI σ 9 oi oj 2)), (2, .int (0 : Int32)), (0, .ref (ad en 9 oi oj)), (1, .int p0)] dX2_coveredAs_6 rfl (by decide) rfl ?_
  refine r_sub [2, 3, 1, 0] rfl (RL_X2_coveredAs_7 en N oi oj p0 hoi hoj (fun v2_3 v3_3 σ_3 => ?_) N (0 : Int32) (rI σ 9 oi oj 2) σ)
  refine r_iload_n (pc := 71) 0 dX2_coveredAs_71 rfl rfl ?_
  exact r_iret (pc := 72) rfl dX2_coveredAs_72
theorem ok_X2_coveredAs : yOk yX2_coveredAs cX2_coveredAs 5 (some .int) := ⟨in_lwG (by decide +kernel) rfl, in_lwG (by decide +kernel) rfl, by decide, by decide, by decide⟩
theorem k_X2_coveredAs {en : En} {Ex : (Nat → Prop) → State → Prop} {mi : Mi} {α : Type} {ev : α → Option Value × Sg} {pc index : Nat} {lv : List (Nat × Value)} {rest : List Value} {σ : Sg} {N : Nat} {k : (Int32 × Sg) → Option α} {oi : Nat} {oj : Nat} {p0 : Int32} (hlink : Cond.methodLink mi.1 index yX2_coveredAs ∈ lwG) (hroom : 2 + 1 ≤ mi.2.2.2.2) (hcat : (rest.map fun v => v.category).sum ≤ 8) (hd : decode mi.2.1 pc = .ok (.invokevirtual index, 3)) (hoi : oi < 5) (hoj : oj < 7) (h : ∀ w : Int32 × Sg, f_X2_coveredAs N oi oj p0 σ = some w → RR en Ex mi ev (pc + 3) lv (.int w.1 :: rest) w.2 (k w)) : RR en Ex mi ev pc lv (.int p0 :: .ref (ad en 9 oi oj) :: rest) σ ((f_X2_coveredAs N oi oj p0 σ).bind k) :=
  r_callV (n := 1) [.int p0] ok_X2_coveredAs hlink (in_lwG (by decide +kernel) rfl) (in_lwG (by decide +kernel) rfl) (by decide +kernel) rfl hroom (by decide) (o9 hoi hoj) rfl rfl hcat (R_X2_coveredAs en N oi oj p0 hoi hoj σ) (Nat.le_of_ble_eq_true rfl) hd h
set_option maxHeartbeats 4000000 in
theorem R_X2_fitsAt (en : En) (N : Nat) (oi : Nat) (oj : Nat) (p0 : Int32) (p1 : Int32) (hoi : oi < 5) (hoj : oj < 7) (σ : Sg) : RR en ExT mi_X2_fitsAt evI 0 [(0, .ref (ad en 9 oi oj)), (1, .int p0), (2, .int p1)] [] σ (f_X2_fitsAt N oi oj p0 p1 σ) := by
  unfold f_X2_fitsAt
  refine r_iload_n (pc := 0) 1 dX2_fitsAt_0 rfl rfl ?_
  refine r_if_lt (pc := 1) 34 dX2_fitsAt_1 (by decide) (fun h1 => ?_) (fun h1 => ?_)
  · refine r_iconst (pc := 34) dX2_fitsAt_34 kc_iconst_0 ?_
    exact r_zret (pc := 35) rfl rfl dX2_fitsAt_35
  · refine r_iload_n (pc := 4) 1 dX2_fitsAt_4 rfl rfl ?_
    refine r_aload_n (pc := 5) 0 dX2_fitsAt_5 rfl rfl ?_
    refine g_X2_wide (pc := 6) hoi hoj lf_RX2_21 dX2_fitsAt_6 ?_
    refine r_iadd (pc := 9) dX2_fitsAt_9 ?_
    refine r_bipush (pc := 10) dX2_fitsAt_10 kc_bipush_12 ?_
    refine r_icmp_gt (pc := 12) 34 dX2_fitsAt_12 (by decide) (fun h2 => ?_) (fun h2 => ?_)
    · refine r_iconst (pc := 34) dX2_fitsAt_34 kc_iconst_0 ?_
      exact r_zret (pc := 35) rfl rfl dX2_fitsAt_35
    · refine r_iload_n (pc := 15) 2 dX2_fitsAt_15 rfl rfl ?_
      refine r_if_lt (pc := 16) 34 dX2_fitsAt_16 (by decide) (fun h3 => ?_) (fun h3 => ?_)
      · refine r_iconst (pc := 34) dX2_fitsAt_34 kc_iconst_0 ?_
        exact r_zret (pc := 35) rfl rfl dX2_fitsAt_35
      · refine r_iload_n (pc := 19) 2 dX2_fitsAt_19 rfl rfl ?_
        refine r_aload_n (pc := 20) 0 dX2_fitsAt_20 rfl rfl ?_
        refine g_X2_high (pc := 21) hoi hoj lf_RX2_24 dX2_fitsAt_21 ?_
        refine r_iadd (pc := 24) dX2_fitsAt_24 ?_
        refine r_bipush (pc := 25) dX2_fitsAt_25 kc_bipush_8 ?_
        refine r_icmp_gt (pc := 27) 34 dX2_fitsAt_27 (by decide) (fun h4 => ?_) (fun h4 => ?_)
        · refine r_iconst (pc := 34) dX2_fitsAt_34 kc_iconst_0 ?_
          exact r_zret (pc := 35) rfl rfl dX2_fitsAt_35
        · refine r_iconst (pc := 30) dX2_fitsAt_30 kc_iconst_1 ?_
          refine r_goto (pc := 31) 35 dX2_fitsAt_31 (by decide) ?_
          exact r_zret (pc := 35) rfl rfl dX2_fitsAt_35
theorem ok_X2_fitsAt : yOk yX2_fitsAt cX2_fitsAt 3 (some .boolean) := ⟨in_lwG (by decide +kernel) rfl, in_lwG (by decide +kernel) rfl, by decide, by decide, by decide⟩
theorem k_X2_fitsAt {en : En} {Ex : (Nat → Prop) → State → Prop} {mi : Mi} {α : Type} {ev : α → Option Value × Sg} {pc index : Nat} {lv : List (Nat × Value)} {rest : List Value} {σ : Sg} {N : Nat} {k : (Int32 × Sg) → Option α} {oi : Nat} {oj : Nat} {p0 : Int32} {p1 : Int32} (hlink : Cond.methodLink mi.1 index yX2_fitsAt ∈ lwG) (hroom : 1 + 1 ≤ mi.2.2.2.2) (hcat : (rest.map fun v => v.category).sum ≤ 8) (hd : decode mi.2.1 pc = .ok (.invokevirtual index, 3)) (hoi : oi < 5) (hoj : oj < 7) (h : ∀ w : Int32 × Sg, f_X2_fitsAt N oi oj p0 p1 σ = some w → RR en Ex mi ev (pc + 3) lv (.int w.1 :: rest) w.2 (k w)) : RR en Ex mi ev pc lv (.int p1 :: .int p0 :: .ref (ad en 9 oi oj) :: rest) σ ((f_X2_fitsAt N oi oj p0 p1 σ).bind k) :=
  r_callV (n := 2) [.int p0, .int p1] ok_X2_fitsAt hlink (in_lwG (by decide +kernel) rfl) (in_lwG (by decide +kernel) rfl) (by decide +kernel) rfl hroom (by decide) (o9 hoi hoj) rfl rfl hcat (R_X2_fitsAt en N oi oj p0 p1 hoi hoj σ) (Nat.le_of_ble_eq_true rfl) hd h
set_option maxHeartbeats 4000000 in
theorem R_X2_hasCell (en : En) (N : Nat) (oi : Nat) (oj : Nat) (p0 : Int32) (hoi : oi < 5) (hoj : oj < 7) (σ : Sg) : RR en ExT mi_X2_hasCell evI 0 [(0, .ref (ad en 9 oi oj)), (1, .int p0)] [] σ (f_X2_hasCell N oi oj p0 σ) := by
  unfold f_X2_hasCell
  refine r_iload_n (pc := 0) 1 dX2_hasCell_0 rfl rfl ?_
  refine r_bipush (pc := 1) dX2_hasCell_1 kc_bipush_48 ?_
  refine r_icmp_ge (pc := 3) 15 dX2_hasCell_3 (by decide) (fun h1 => ?_) (fun h1 => ?_)
  · refine r_aload_n (pc := 15) 0 dX2_hasCell_15 rfl rfl ?_
    refine g_X2_lowerHalf (pc := 16) hoi hoj lf_RX2_38 dX2_hasCell_16 ?_
    refine r_iload_n (pc := 19) 1 dX2_hasCell_19 rfl rfl ?_
    refine r_bipush (pc := 20) dX2_hasCell_20 kc_bipush_48 ?_
    refine r_isub (pc := 22) dX2_hasCell_22 ?_
    refine r_lushr (pc := 23) dX2_hasCell_23 ?_
    refine r_lconst (pc := 24) (v := 1) dX2_hasCell_24 rfl ?_
    refine r_land (pc := 25) dX2_hasCell_25 ?_
    refine r_lconst (pc := 26) (v := 0) dX2_hasCell_26 rfl ?_
    refine r_lcmp (pc := 27) dX2_hasCell_27 ?_
    refine r_if_eq (pc := 28) 35 dX2_hasCell_28 (by decide) (fun h2 => ?_) (fun h2 => ?_)
    · refine r_iconst (pc := 35) dX2_hasCell_35 kc_iconst_0 ?_
      exact r_zret (pc := 36) rfl rfl dX2_hasCell_36
    · refine r_iconst (pc := 31) dX2_hasCell_31 kc_iconst_1 ?_
      refine r_goto (pc := 32) 36 dX2_hasCell_32 (by decide) ?_
      exact r_zret (pc := 36) rfl rfl dX2_hasCell_36
  · refine r_aload_n (pc := 6) 0 dX2_hasCell_6 rfl rfl ?_
    refine g_X2_upperHalf (pc := 7) hoi hoj lf_RX2_34 dX2_hasCell_7 ?_
    refine r_iload_n (pc := 10) 1 dX2_hasCell_10 rfl rfl ?_
    refine r_lushr (pc := 11) dX2_hasCell_11 ?_
    refine r_goto (pc := 12) 24 dX2_hasCell_12 (by decide) ?_
    refine r_lconst (pc := 24) (v := 1) dX2_hasCell_24 rfl ?_
    refine r_land (pc := 25) dX2_hasCell_25 ?_
    refine r_lconst (pc := 26) (v := 0) dX2_hasCell_26 rfl ?_
    refine r_lcmp (pc := 27) dX2_hasCell_27 ?_
    refine r_if_eq (pc := 28) 35 dX2_hasCell_28 (by decide) (fun h3 => ?_) (fun h3 => ?_)
    · refine r_iconst (pc := 35) dX2_hasCell_35 kc_iconst_0 ?_
      exact r_zret (pc := 36) rfl rfl dX2_hasCell_36
    · refine r_iconst (pc := 31) dX2_hasCell_31 kc_iconst_1 ?_
      refine r_goto (pc := 32) 36 dX2_hasCell_32 (by decide) ?_
      exact r_zret (pc := 36) rfl rfl dX2_hasCell_36
theorem ok_X2_hasCell : yOk yX2_hasCell cX2_hasCell 2 (some .boolean) := ⟨in_lwG (by decide +kernel) rfl, in_lwG (by decide +kernel) rfl, by decide, by decide, by decide⟩
theorem k_X2_hasCell {en : En} {Ex : (Nat → Prop) → State → Prop} {mi : Mi} {α : Type} {ev : α → Option Value × Sg} {pc index : Nat} {lv : List (Nat × Value)} {rest : List Value} {σ : Sg} {N : Nat} {k : (Int32 × Sg) → Option α} {oi : Nat} {oj : Nat} {p0 : Int32} (hlink : Cond.methodLink mi.1 index yX2_hasCell ∈ lwG) (hroom : 1 + 1 ≤ mi.2.2.2.2) (hcat : (rest.map fun v => v.category).sum ≤ 8) (hd : decode mi.2.1 pc = .ok (.invokevirtual index, 3)) (hoi : oi < 5) (hoj : oj < 7) (h : ∀ w : Int32 × Sg, f_X2_hasCell N oi oj p0 σ = some w → RR en Ex mi ev (pc + 3) lv (.int w.1 :: rest) w.2 (k w)) : RR en Ex mi ev pc lv (.int p0 :: .ref (ad en 9 oi oj) :: rest) σ ((f_X2_hasCell N oi oj p0 σ).bind k) :=
  r_callV (n := 1) [.int p0] ok_X2_hasCell hlink (in_lwG (by decide +kernel) rfl) (in_lwG (by decide +kernel) rfl) (by decide +kernel) rfl hroom (by decide) (o9 hoi hoj) rfl rfl hcat (R_X2_hasCell en N oi oj p0 hoi hoj σ) (Nat.le_of_ble_eq_true rfl) hd h
set_option maxHeartbeats 4000000 in
theorem R_X2_rank (en : En) (N : Nat) (oi : Nat) (oj : Nat) (hoi : oi < 5) (hoj : oj < 7) (σ : Sg) : RR en ExT mi_X2_rank evI 0 [(0, .ref (ad en 9 oi oj))] [] σ (f_X2_rank N oi oj σ) := by
  unfold f_X2_rank
  refine r_aload_n (pc := 0) 0 dX2_rank_0 rfl rfl ?_
  refine g_X2_kind (pc := 1) hoi hoj lf_RX2_9 dX2_rank_1 ?_
  refine r_iconst (pc := 4) dX2_rank_4 kc_iconst_3 ?_
  refine r_icmp_ne (pc := 5) 18 dX2_rank_5 (by decide) (fun h1 => ?_) (fun h1 => ?_)
  · refine r_bipush (pc := 8) dX2_rank_8 kc_bipush_7 ?_
    refine r_aload_n (pc := 10) 0 dX2_rank_10 rfl rfl ?_
    refine g_X2_place (pc := 11) hoi hoj lf_RX2_27 dX2_rank_11 ?_
    refine r_iadd (pc := 14) dX2_rank_14 ?_
    refine r_goto (pc := 15) 22 dX2_rank_15 (by decide) ?_
    exact r_iret (pc := 22) rfl dX2_rank_22
  · refine r_aload_n (pc := 18) 0 dX2_rank_18 rfl rfl ?_
    refine g_X2_place (pc := 19) hoi hoj lf_RX2_27 dX2_rank_19 ?_
    exact r_iret (pc := 22) rfl dX2_rank_22
theorem ok_X2_rank : yOk yX2_rank cX2_rank 1 (some .int) := ⟨in_lwG (by decide +kernel) rfl, in_lwG (by decide +kernel) rfl, by decide, by decide, by decide⟩
theorem k_X2_rank {en : En} {Ex : (Nat → Prop) → State → Prop} {mi : Mi} {α : Type} {ev : α → Option Value × Sg} {pc index : Nat} {lv : List (Nat × Value)} {rest : List Value} {σ : Sg} {N : Nat} {k : (Int32 × Sg) → Option α} {oi : Nat} {oj : Nat} (hlink : Cond.methodLink mi.1 index yX2_rank ∈ lwG) (hroom : 1 + 1 ≤ mi.2.2.2.2) (hcat : (rest.map fun v => v.category).sum ≤ 8) (hd : decode mi.2.1 pc = .ok (.invokevirtual index, 3)) (hoi : oi < 5) (hoj : oj < 7) (h : ∀ w : Int32 × Sg, f_X2_rank N oi oj σ = some w → RR en Ex mi ev (pc + 3) lv (.int w.1 :: rest) w.2 (k w)) : RR en Ex mi ev pc lv (.ref (ad en 9 oi oj) :: rest) σ ((f_X2_rank N oi oj σ).bind k) :=
  r_callV (n := 0) [] ok_X2_rank hlink (in_lwG (by decide +kernel) rfl) (in_lwG (by decide +kernel) rfl) (by decide +kernel) rfl hroom (by decide) (o9 hoi hoj) rfl rfl hcat (R_X2_rank en N oi oj hoi hoj σ) (Nat.le_of_ble_eq_true rfl) hd h
set_option maxHeartbeats 4000000 in
theorem R_X2_turnInto (en : En) (N : Nat) (oi : Nat) (oj : Nat) (p0 : Int32) (hoi : oi < 5) (hoj : oj < 7) (σ : Sg) : RR en ExT mi_X2_turnInto evV 0 [(0, .ref (ad en 9 oi oj)), (1, .int p0)] [] σ (f_X2_turnInto N oi oj p0 σ) := by
  unfold f_X2_turnInto
  refine r_aload_n (pc := 0) 0 dX2_turnInto_0 rfl rfl ?_
  refine r_iload_n (pc := 1) 1 dX2_turnInto_1 rfl rfl ?_
  refine p_X2_kind (pc := 2) hoi hoj lf_RX2_9 dX2_turnInto_2 ?_
  refine r_aload_n (pc := 5) 0 dX2_turnInto_5 rfl rfl ?_
  refine k_X2_findCells (pc := 6) lm_RX2_41  (by decide) (Nat.le_of_ble_eq_true rfl) dX2_turnInto_6 hoi hoj (fun w1 h1 => ?_)
  exact r_vret (pc := 9) rfl dX2_turnInto_9
theorem ok_X2_turnInto : yOk yX2_turnInto cX2_turnInto 2 none := ⟨in_lwG (by decide +kernel) rfl, in_lwG (by decide +kernel) rfl, by decide, by decide, by decide⟩
theorem k_X2_turnInto {en : En} {Ex : (Nat → Prop) → State → Prop} {mi : Mi} {α : Type} {ev : α → Option Value × Sg} {pc index : Nat} {lv : List (Nat × Value)} {rest : List Value} {σ : Sg} {N : Nat} {k : (Sg) → Option α} {oi : Nat} {oj : Nat} {p0 : Int32} (hlink : Cond.methodLink mi.1 index yX2_turnInto ∈ lwG) (hroom : 3 + 1 ≤ mi.2.2.2.2) (hcat : (rest.map fun v => v.category).sum ≤ 8) (hd : decode mi.2.1 pc = .ok (.invokevirtual index, 3)) (hoi : oi < 5) (hoj : oj < 7) (h : ∀ w : Sg, f_X2_turnInto N oi oj p0 σ = some w → RR en Ex mi ev (pc + 3) lv (rest) w (k w)) : RR en Ex mi ev pc lv (.int p0 :: .ref (ad en 9 oi oj) :: rest) σ ((f_X2_turnInto N oi oj p0 σ).bind k) :=
  r_callV (n := 1) [.int p0] ok_X2_turnInto hlink (in_lwG (by decide +kernel) rfl) (in_lwG (by decide +kernel) rfl) (by decide +kernel) rfl hroom (by decide) (o9 hoi hoj) rfl rfl hcat (R_X2_turnInto en N oi oj p0 hoi hoj σ) (Nat.le_of_ble_eq_true rfl) hd h
set_option maxHeartbeats 4000000 in
theorem RL_X3_digestFrom_15 (en : En) (N : Nat) {k : Int64 → Int32 → Option (Int64 × Sg)} (a0i : Nat) (σ : Sg) (ha0i : a0i < 6) (hk : ∀ (v3 : Int64) (v5 : Int32), RR en ExT mi_X3_digestFrom evL 45 [(3, .long v3)] [] σ (k v3 v5)) : ∀ (n : Nat) (v3 : Int64) (v5 : Int32), RR en ExT mi_X3_digestFrom evL 15 [(0, .ref (ad en 2 a0i 0)), (3, .long v3), (5, .int v5)] [] σ (L_X3_digestFrom_15 N k a0i σ n v3 v5) := by
  intro n
  induction n with
  | zero => intro v3 v5; exact r_none
  | succ n ih =>
    intro v3 v5
    rw [L_X3_digestFrom_15_s]
    refine r_iload (pc := 15) 2 dX3_digestFrom_15 rfl ?_
    refine r_aload_n (pc := 17) 0 dX3_digestFrom_17 rfl rfl ?_
    refine g_X3_size (pc := 18) ha0i lf_RX3_15 dX3_digestFrom_18 ?_
    refine r_icmp_ge (pc := 21) 45 dX3_digestFrom_21 (by decide) (fun h1 => ?_) (fun h1 => ?_)
    · exact r_sub [1] rfl (hk v3 v5)
    · refine r_ldc2 (pc := 24) lj_RX3_25 dX3_digestFrom_24 ?_
      refine r_lload_n (pc := 27) 1 dX3_digestFrom_27 rfl rfl ?_
      refine r_lmul (pc := 28) dX3_digestFrom_28 ?_
      refine r_aload_n (pc := 29) 0 dX3_digestFrom_29 rfl rfl ?_
      refine g_X3_ints (pc := 30) ha0i lf_RX3_9 dX3_digestFrom_30 ?_
      refine r_iload (pc := 33) 2 dX3_digestFrom_33 rfl ?_
      refine r_iald (pc := 35) (n := 40) (o3 ha0i) rfl dX3_digestFrom_35 (fun h2 => ?_)
      refine r_i2l (pc := 36) dX3_digestFrom_36 ?_
      refine r_ladd (pc := 37) dX3_digestFrom_37 ?_
      refine r_lstore_n (pc := 38) [(3, .long (((31 : Int64) * v3) + ((rI σ 3 a0i 0 v5.toNatClampNeg).toInt64))), (0, .ref (ad en 2 a0i 0)), (5, .int v5)] dX3_digestFrom_38 rfl (by decide) rfl ?_
      refine r_iinc (pc := 39) 2 [(5, .int (v5 + (1 : Int32))), (3, .long (((31 : Int64) * v3) + ((rI σ 3 a0i 0 v5.toNatClampNeg).toInt64))), (0, .ref (ad en 2 a0i 0))] dX3_digestFrom_39 rfl rfl (by decide) rfl ?_
      refine r_goto (pc := 42) 15 dX3_digestFrom_42 (by decide) ?_
      exact r_sub [2, 1, 0] rfl (ih (((31 : Int64) * v3) + ((rI σ 3 a0i 0 v5.toNatClampNeg).toInt64)) (v5 + (1 : Int32)))
set_option maxHeartbeats 4000000 in
theorem R_X3_digestFrom (en : En) (N : Nat) (oi : Nat) (p0 : Int64) (hoi : oi < 6) (σ : Sg) : RR en ExT mi_X3_digestFrom evL 0 [(0, .ref (ad en 2 oi 0)), (1, .long p0)] [] σ (f_X3_digestFrom N oi p0 σ) := by
  unfold f_X3_digestFrom
  refine r_ldc2 (pc := 0) lj_RX3_25 dX3_digestFrom_0 ?_
  refine r_lload_n (pc := 3) 1 dX3_digestFrom_3 rfl rfl ?_
  refine r_lmul (pc := 4) dX3_digestFrom_4 ?_
  refine r_aload_n (pc := 5) 0 dX3_digestFrom_5 rfl rfl ?_
  refine g_X3_size (pc := 6) hoi lf_RX3_15 dX3_digestFrom_6 ?_
  refine r_i2l (pc := 9) dX3_digestFrom_9 ?_
  refine r_ladd (pc := 10) dX3_digestFrom_10 ?_
  refine r_lstore_n (pc := 11) [(3, .long (((31 : Int64) * p0) + ((rI σ 2 oi 0 1).toInt64))), (0, .ref (ad en 2 oi 0)), (1, .long p0)] dX3_digestFrom_11 rfl (by decide) rfl ?_
  refine r_iconst (pc := 12) dX3_digestFrom_12 kc_iconst_0 ?_
  refine r_istore (pc := 13) [(5, .int (0 : Int32)), (3, .long (((31 : Int64) * p0) + ((rI σ 2 oi 0 1).toInt64))), (0, .ref (ad en 2 oi 0)), (1, .long p0)] dX3_digestFrom_13 (by decide) rfl ?_
  refine r_sub [2, 1, 0] rfl (RL_X3_digestFrom_15 en N oi σ hoi (fun v3_1 v5_1 => ?_) N (((31 : Int64) * p0) + ((rI σ 2 oi 0 1).toInt64)) (0 : Int32))
  refine r_lload_n (pc := 45) 0 dX3_digestFrom_45 rfl rfl ?_
  exact r_lret (pc := 46) rfl dX3_digestFrom_46
theorem ok_X3_digestFrom : yOk yX3_digestFrom cX3_digestFrom 6 (some .long) := ⟨in_lwG (by decide +kernel) rfl, in_lwG (by decide +kernel) rfl, by decide, by decide, by decide⟩
theorem k_X3_digestFrom {en : En} {Ex : (Nat → Prop) → State → Prop} {mi : Mi} {α : Type} {ev : α → Option Value × Sg} {pc index : Nat} {lv : List (Nat × Value)} {rest : List Value} {σ : Sg} {N : Nat} {k : (Int64 × Sg) → Option α} {oi : Nat} {p0 : Int64} (hlink : Cond.methodLink mi.1 index yX3_digestFrom ∈ lwG) (hroom : 1 + 1 ≤ mi.2.2.2.2) (hcat : (rest.map fun v => v.category).sum ≤ 8) (hd : decode mi.2.1 pc = .ok (.invokevirtual index, 3)) (hoi : oi < 6) (h : ∀ w : Int64 × Sg, f_X3_digestFrom N oi p0 σ = some w → RR en Ex mi ev (pc + 3) lv (.long w.1 :: rest) w.2 (k w)) : RR en Ex mi ev pc lv (.long p0 :: .ref (ad en 2 oi 0) :: rest) σ ((f_X3_digestFrom N oi p0 σ).bind k) :=
  r_callV (n := 1) [.long p0] ok_X3_digestFrom hlink (in_lwG (by decide +kernel) rfl) (in_lwG (by decide +kernel) rfl) (by decide +kernel) rfl hroom (by decide) (o2 hoi) rfl rfl hcat (R_X3_digestFrom en N oi p0 hoi σ) (Nat.le_of_ble_eq_true rfl) hd h
set_option maxHeartbeats 4000000 in
theorem R_X3_hasPlaces (en : En) (N : Nat) (oi : Nat) (p0 : Int32) (p1 : Int32) (hoi : oi < 6) (σ : Sg) : RR en ExT mi_X3_hasPlaces evI 0 [(0, .ref (ad en 2 oi 0)), (1, .int p0), (2, .int p1)] [] σ (f_X3_hasPlaces N oi p0 p1 σ) := by
  unfold f_X3_hasPlaces
  refine r_iload_n (pc := 0) 1 dX3_hasPlaces_0 rfl rfl ?_
  refine r_if_lt (pc := 1) 18 dX3_hasPlaces_1 (by decide) (fun h1 => ?_) (fun h1 => ?_)
  · refine r_iconst (pc := 18) dX3_hasPlaces_18 kc_iconst_0 ?_
    exact r_zret (pc := 19) rfl rfl dX3_hasPlaces_19
  · refine r_iload_n (pc := 4) 1 dX3_hasPlaces_4 rfl rfl ?_
    refine r_aload_n (pc := 5) 0 dX3_hasPlaces_5 rfl rfl ?_
    refine g_X3_size (pc := 6) hoi lf_RX3_15 dX3_hasPlaces_6 ?_
    refine r_iload_n (pc := 9) 2 dX3_hasPlaces_9 rfl rfl ?_
    refine r_isub (pc := 10) dX3_hasPlaces_10 ?_
    refine r_icmp_gt (pc := 11) 18 dX3_hasPlaces_11 (by decide) (fun h2 => ?_) (fun h2 => ?_)
    · refine r_iconst (pc := 18) dX3_hasPlaces_18 kc_iconst_0 ?_
      exact r_zret (pc := 19) rfl rfl dX3_hasPlaces_19
    · refine r_iconst (pc := 14) dX3_hasPlaces_14 kc_iconst_1 ?_
      refine r_goto (pc := 15) 19 dX3_hasPlaces_15 (by decide) ?_
      exact r_zret (pc := 19) rfl rfl dX3_hasPlaces_19
theorem ok_X3_hasPlaces : yOk yX3_hasPlaces cX3_hasPlaces 3 (some .boolean) := ⟨in_lwG (by decide +kernel) rfl, in_lwG (by decide +kernel) rfl, by decide, by decide, by decide⟩
theorem k_X3_hasPlaces {en : En} {Ex : (Nat → Prop) → State → Prop} {mi : Mi} {α : Type} {ev : α → Option Value × Sg} {pc index : Nat} {lv : List (Nat × Value)} {rest : List Value} {σ : Sg} {N : Nat} {k : (Int32 × Sg) → Option α} {oi : Nat} {p0 : Int32} {p1 : Int32} (hlink : Cond.methodLink mi.1 index yX3_hasPlaces ∈ lwG) (hroom : 1 + 1 ≤ mi.2.2.2.2) (hcat : (rest.map fun v => v.category).sum ≤ 8) (hd : decode mi.2.1 pc = .ok (.invokevirtual index, 3)) (hoi : oi < 6) (h : ∀ w : Int32 × Sg, f_X3_hasPlaces N oi p0 p1 σ = some w → RR en Ex mi ev (pc + 3) lv (.int w.1 :: rest) w.2 (k w)) : RR en Ex mi ev pc lv (.int p1 :: .int p0 :: .ref (ad en 2 oi 0) :: rest) σ ((f_X3_hasPlaces N oi p0 p1 σ).bind k) :=
  r_callV (n := 2) [.int p0, .int p1] ok_X3_hasPlaces hlink (in_lwG (by decide +kernel) rfl) (in_lwG (by decide +kernel) rfl) (by decide +kernel) rfl hroom (by decide) (o2 hoi) rfl rfl hcat (R_X3_hasPlaces en N oi p0 p1 hoi σ) (Nat.le_of_ble_eq_true rfl) hd h
set_option maxHeartbeats 4000000 in
theorem R_X3_renew (en : En) (N : Nat) (oi : Nat) (p0 : Int32) (hoi : oi < 6) (σ : Sg) : RR en ExT mi_X3_renew evV 0 [(0, .ref (ad en 2 oi 0)), (1, .int p0)] [] σ (f_X3_renew N oi p0 σ) := by
  unfold f_X3_renew
  refine r_aload_n (pc := 0) 0 dX3_renew_0 rfl rfl ?_
  refine g_X3_ints (pc := 1) hoi lf_RX3_9 dX3_renew_1 ?_
  refine r_iconst (pc := 4) dX3_renew_4 kc_iconst_0 ?_
  refine k_J7_fill_53178 (pc := 5) lm_RX3_19  (by decide) (Nat.le_of_ble_eq_true rfl) dX3_renew_5 (o3 hoi) (fun _ _ => rfl) (fun w1 h1 => ?_)
  refine r_aload_n (pc := 8) 0 dX3_renew_8 rfl rfl ?_
  refine r_iload_n (pc := 9) 1 dX3_renew_9 rfl rfl ?_
  refine p_X3_size (pc := 10) hoi lf_RX3_15 dX3_renew_10 ?_
  exact r_vret (pc := 13) rfl dX3_renew_13
theorem ok_X3_renew : yOk yX3_renew cX3_renew 2 none := ⟨in_lwG (by decide +kernel) rfl, in_lwG (by decide +kernel) rfl, by decide, by decide, by decide⟩
theorem k_X3_renew {en : En} {Ex : (Nat → Prop) → State → Prop} {mi : Mi} {α : Type} {ev : α → Option Value × Sg} {pc index : Nat} {lv : List (Nat × Value)} {rest : List Value} {σ : Sg} {N : Nat} {k : (Sg) → Option α} {oi : Nat} {p0 : Int32} (hlink : Cond.methodLink mi.1 index yX3_renew ∈ lwG) (hroom : 2 + 1 ≤ mi.2.2.2.2) (hcat : (rest.map fun v => v.category).sum ≤ 8) (hd : decode mi.2.1 pc = .ok (.invokevirtual index, 3)) (hoi : oi < 6) (h : ∀ w : Sg, f_X3_renew N oi p0 σ = some w → RR en Ex mi ev (pc + 3) lv (rest) w (k w)) : RR en Ex mi ev pc lv (.int p0 :: .ref (ad en 2 oi 0) :: rest) σ ((f_X3_renew N oi p0 σ).bind k) :=
  r_callV (n := 1) [.int p0] ok_X3_renew hlink (in_lwG (by decide +kernel) rfl) (in_lwG (by decide +kernel) rfl) (by decide +kernel) rfl hroom (by decide) (o2 hoi) rfl rfl hcat (R_X3_renew en N oi p0 hoi σ) (Nat.le_of_ble_eq_true rfl) hd h
set_option maxHeartbeats 4000000 in
theorem RL_X3_sum_4 (en : En) (N : Nat) {k : Int64 → Int32 → Option (Int64 × Sg)} (a0i : Nat) (σ : Sg) (ha0i : a0i < 6) (hk : ∀ (v1 : Int64) (v3 : Int32), RR en ExT mi_X3_sum evL 28 [(1, .long v1)] [] σ (k v1 v3)) : ∀ (n : Nat) (v1 : Int64) (v3 : Int32), RR en ExT mi_X3_sum evL 4 [(0, .ref (ad en 2 a0i 0)), (1, .long v1), (3, .int v3)] [] σ (L_X3_sum_4 N k a0i σ n v1 v3) := by
  intro n
  induction n with
  | zero => intro v1 v3; exact r_none
  | succ n ih =>
    intro v1 v3
    rw [L_X3_sum_4_s]
    refine r_iload_n (pc := 4) 2 dX3_sum_4 rfl rfl ?_
    refine r_aload_n (pc := 5) 0 dX3_sum_5 rfl rfl ?_
    refine g_X3_size (pc := 6) ha0i lf_RX3_15 dX3_sum_6 ?_
    refine r_icmp_ge (pc := 9) 28 dX3_sum_9 (by decide) (fun h1 => ?_) (fun h1 => ?_)
    · exact r_sub [1] rfl (hk v1 v3)
    · refine r_lload_n (pc := 12) 1 dX3_sum_12 rfl rfl ?_
      refine r_aload_n (pc := 13) 0 dX3_sum_13 rfl rfl ?_
      refine g_X3_ints (pc := 14) ha0i lf_RX3_9 dX3_sum_14 ?_
      refine r_iload_n (pc := 17) 2 dX3_sum_17 rfl rfl ?_
      refine r_iald (pc := 18) (n := 40) (o3 ha0i) rfl dX3_sum_18 (fun h2 => ?_)
      refine r_i2l (pc := 19) dX3_sum_19 ?_
      refine r_ladd (pc := 20) dX3_sum_20 ?_
      refine r_lstore_n (pc := 21) [(1, .long (v1 + ((rI σ 3 a0i 0 v3.toNatClampNeg).toInt64))), (0, .ref (ad en 2 a0i 0)), (3, .int v3)] dX3_sum_21 rfl (by decide) rfl ?_
      refine r_iinc (pc := 22) 2 [(3, .int (v3 + (1 : Int32))), (1, .long (v1 + ((rI σ 3 a0i 0 v3.toNatClampNeg).toInt64))), (0, .ref (ad en 2 a0i 0))] dX3_sum_22 rfl rfl (by decide) rfl ?_
      refine r_goto (pc := 25) 4 dX3_sum_25 (by decide) ?_
      exact r_sub [2, 1, 0] rfl (ih (v1 + ((rI σ 3 a0i 0 v3.toNatClampNeg).toInt64)) (v3 + (1 : Int32)))
set_option maxHeartbeats 4000000 in
theorem R_X3_sum (en : En) (N : Nat) (oi : Nat) (hoi : oi < 6) (σ : Sg) : RR en ExT mi_X3_sum evL 0 [(0, .ref (ad en 2 oi 0))] [] σ (f_X3_sum N oi σ) := by
  unfold f_X3_sum
  refine r_lconst (pc := 0) (v := 0) dX3_sum_0 rfl ?_
  refine r_lstore_n (pc := 1) [(1, .long (0 : Int64)), (0, .ref (ad en 2 oi 0))] dX3_sum_1 rfl (by decide) rfl ?_
  refine r_iconst (pc := 2) dX3_sum_2 kc_iconst_0 ?_
  refine r_istore_n (pc := 3) [(3, .int (0 : Int32)), (1, .long (0 : Int64)), (0, .ref (ad en 2 oi 0))] dX3_sum_3 rfl (by decide) rfl ?_
  refine r_sub [2, 1, 0] rfl (RL_X3_sum_4 en N oi σ hoi (fun v1_1 v3_1 => ?_) N (0 : Int64) (0 : Int32))
  refine r_lload_n (pc := 28) 0 dX3_sum_28 rfl rfl ?_
  exact r_lret (pc := 29) rfl dX3_sum_29
theorem ok_X3_sum : yOk yX3_sum cX3_sum 4 (some .long) := ⟨in_lwG (by decide +kernel) rfl, in_lwG (by decide +kernel) rfl, by decide, by decide, by decide⟩
theorem k_X3_sum {en : En} {Ex : (Nat → Prop) → State → Prop} {mi : Mi} {α : Type} {ev : α → Option Value × Sg} {pc index : Nat} {lv : List (Nat × Value)} {rest : List Value} {σ : Sg} {N : Nat} {k : (Int64 × Sg) → Option α} {oi : Nat} (hlink : Cond.methodLink mi.1 index yX3_sum ∈ lwG) (hroom : 1 + 1 ≤ mi.2.2.2.2) (hcat : (rest.map fun v => v.category).sum ≤ 8) (hd : decode mi.2.1 pc = .ok (.invokevirtual index, 3)) (hoi : oi < 6) (h : ∀ w : Int64 × Sg, f_X3_sum N oi σ = some w → RR en Ex mi ev (pc + 3) lv (.long w.1 :: rest) w.2 (k w)) : RR en Ex mi ev pc lv (.ref (ad en 2 oi 0) :: rest) σ ((f_X3_sum N oi σ).bind k) :=
  r_callV (n := 0) [] ok_X3_sum hlink (in_lwG (by decide +kernel) rfl) (in_lwG (by decide +kernel) rfl) (by decide +kernel) rfl hroom (by decide) (o2 hoi) rfl rfl hcat (R_X3_sum en N oi hoi σ) (Nat.le_of_ble_eq_true rfl) hd h
set_option maxHeartbeats 4000000 in
theorem RL_X4_after_4 (en : En) (N : Nat) {k : Int32 → Int32 → Option (Int32 × Sg)} (a0i : Nat) (a1 : Int32) (σ : Sg) (ha0i : a0i < 5) (hk : ∀ (v2 : Int32) (v3 : Int32), RR en ExT mi_X4_after evI 45 [(2, .int v2)] [] σ (k v2 v3)) : ∀ (n : Nat) (v2 : Int32) (v3 : Int32), RR en ExT mi_X4_after evI 4 [(0, .ref (ad en 7 a0i 0)), (1, .int a1), (2, .int v2), (3, .int v3)] [] σ (L_X4_after_4 N k a0i a1 σ n v2 v3) := by
  intro n
  induction n with
  | zero => intro v2 v3; exact r_none
  | succ n ih =>
    intro v2 v3
    rw [L_X4_after_4_s]
    refine r_iload_n (pc := 4) 3 dX4_after_4 rfl rfl ?_
    refine r_aload_n (pc := 5) 0 dX4_after_5 rfl rfl ?_
    refine g_X4_size (pc := 6) ha0i lf_RX4_17 dX4_after_6 ?_
    refine r_icmp_ge (pc := 9) 45 dX4_after_9 (by decide) (fun h1 => ?_) (fun h1 => ?_)
    · exact r_sub [2] rfl (hk v2 v3)
    · refine r_aload_n (pc := 12) 0 dX4_after_12 rfl rfl ?_
      refine g_X4_panes (pc := 13) ha0i lf_RX4_11 dX4_after_13 ?_
      refine r_iload_n (pc := 16) 3 dX4_after_16 rfl rfl ?_
      refine r_aald (pc := 17) (n := 7) (k := 7) (o8 ha0i) rfl rfl rfl dX4_after_17 (fun h2 => ?_)
      refine g_X2_place (pc := 18) ha0i (ib_lt h2) lf_RX4_26 dX4_after_18 ?_
      refine r_aload_n (pc := 21) 0 dX4_after_21 rfl rfl ?_
      refine g_X4_panes (pc := 22) ha0i lf_RX4_11 dX4_after_22 ?_
      refine r_iload_n (pc := 25) 1 dX4_after_25 rfl rfl ?_
      refine r_aald (pc := 26) (n := 7) (k := 7) (o8 ha0i) rfl rfl rfl dX4_after_26 (fun h3 => ?_)
      refine g_X2_place (pc := 27) ha0i (ib_lt h3) lf_RX4_26 dX4_after_27 ?_
      refine r_icmp_le (pc := 30) 39 dX4_after_30 (by decide) (fun h4 => ?_) (fun h4 => ?_)
      · refine r_iinc (pc := 39) 3 [(3, .int (v3 + (1 : Int32))), (0, .ref (ad en 7 a0i 0)), (1, .int a1), (2, .int v2)] dX4_after_39 rfl rfl (by decide) rfl ?_
        refine r_goto (pc := 42) 4 dX4_after_42 (by decide) ?_
        exact r_sub [1, 2, 3, 0] rfl (ih v2 (v3 + (1 : Int32)))
      · refine r_iload_n (pc := 33) 2 dX4_after_33 rfl rfl ?_
        refine r_iconst (pc := 34) dX4_after_34 kc_iconst_1 ?_
        refine r_iload_n (pc := 35) 3 dX4_after_35 rfl rfl ?_
        refine r_ishl (pc := 36) dX4_after_36 ?_
        refine r_ior (pc := 37) dX4_after_37 ?_
        refine r_istore_n (pc := 38) [(2, .int (v2 ||| ((1 : Int32) <<< (v3 &&& 31)))), (0, .ref (ad en 7 a0i 0)), (1, .int a1), (3, .int v3)] dX4_after_38 rfl (by decide) rfl ?_
        refine r_iinc (pc := 39) 3 [(3, .int (v3 + (1 : Int32))), (2, .int (v2 ||| ((1 : Int32) <<< (v3 &&& 31)))), (0, .ref (ad en 7 a0i 0)), (1, .int a1)] dX4_after_39 rfl rfl (by decide) rfl ?_
        refine r_goto (pc := 42) 4 dX4_after_42 (by decide) ?_
        exact r_sub [2, 3, 1, 0] rfl (ih (v2 ||| ((1 : Int32) <<< (v3 &&& 31))) (v3 + (1 : Int32)))
set_option maxHeartbeats 4000000 in
theorem R_X4_after (en : En) (N : Nat) (oi : Nat) (p0 : Int32) (hoi : oi < 5) (σ : Sg) : RR en ExT mi_X4_after evI 0 [(0, .ref (ad en 7 oi 0)), (1, .int p0)] [] σ (f_X4_after N oi p0 σ) := by
  unfold f_X4_after
  refine r_iconst (pc := 0) dX4_after_0 kc_iconst_0 ?_
  refine r_istore_n (pc := 1) [(2, .int (0 : Int32)), (0, .ref (ad en 7 oi 0)), (1, .int p0)] dX4_after_1 rfl (by decide) rfl ?_
  refine r_iconst (pc := 2) dX4_after_2 kc_iconst_0 ?_
  refine r_istore_n (pc := 3) [(3, .int (0 : Int32)), (2, .int (0 : Int32)), (0, .ref (ad en 7 oi 0)), (1, .int p0)] dX4_after_3 rfl (by decide) rfl ?_
  refine r_sub [2, 3, 1, 0] rfl (RL_X4_after_4 en N oi p0 σ hoi (fun v2_1 v3_1 => ?_) N (0 : Int32) (0 : Int32))
  refine r_iload_n (pc := 45) 0 dX4_after_45 rfl rfl ?_
  exact r_iret (pc := 46) rfl dX4_after_46
theorem ok_X4_after : yOk yX4_after cX4_after 4 (some .int) := ⟨in_lwG (by decide +kernel) rfl, in_lwG (by decide +kernel) rfl, by decide, by decide, by decide⟩
theorem k_X4_after {en : En} {Ex : (Nat → Prop) → State → Prop} {mi : Mi} {α : Type} {ev : α → Option Value × Sg} {pc index : Nat} {lv : List (Nat × Value)} {rest : List Value} {σ : Sg} {N : Nat} {k : (Int32 × Sg) → Option α} {oi : Nat} {p0 : Int32} (hlink : Cond.methodLink mi.1 index yX4_after ∈ lwG) (hroom : 1 + 1 ≤ mi.2.2.2.2) (hcat : (rest.map fun v => v.category).sum ≤ 8) (hd : decode mi.2.1 pc = .ok (.invokevirtual index, 3)) (hoi : oi < 5) (h : ∀ w : Int32 × Sg, f_X4_after N oi p0 σ = some w → RR en Ex mi ev (pc + 3) lv (.int w.1 :: rest) w.2 (k w)) : RR en Ex mi ev pc lv (.int p0 :: .ref (ad en 7 oi 0) :: rest) σ ((f_X4_after N oi p0 σ).bind k) :=
  r_callV (n := 1) [.int p0] ok_X4_after hlink (in_lwG (by decide +kernel) rfl) (in_lwG (by decide +kernel) rfl) (by decide +kernel) rfl hroom (by decide) (o7 hoi) rfl rfl hcat (R_X4_after en N oi p0 hoi σ) (Nat.le_of_ble_eq_true rfl) hd h
set_option maxHeartbeats 4000000 in
theorem RL_X4_whoAt_7 (en : En) (N : Nat) {k : Int32 → Int32 → Int32 → Sg → Option (Int32 × Sg)} (a0i : Nat) (a1 : Int32) (ha0i : a0i < 5) (hk : ∀ (v2 : Int32) (v3 : Int32) (v4 : Int32) (σ : Sg), RR en ExT mi_X4_whoAt evI 66 [(2, .int v2)] [] σ (k v2 v3 v4 σ)) : ∀ (n : Nat) (v2 : Int32) (v3 : Int32) (v4 : Int32) (σ : Sg), RR en ExT mi_X4_whoAt evI 7 [(0, .ref (ad en 7 a0i 0)), (1, .int a1), (2, .int v2), (3, .int v3), (4, .int v4)] [] σ (L_X4_whoAt_7 N k a0i a1 n v2 v3 v4 σ) := by
  intro n
  induction n with
  | zero => intro v2 v3 v4 σ; exact r_none
  | succ n ih =>
    intro v2 v3 v4 σ
    rw [L_X4_whoAt_7_s]
    refine r_iload (pc := 7) 4 dX4_whoAt_7 rfl ?_
    refine r_aload_n (pc := 9) 0 dX4_whoAt_9 rfl rfl ?_
    refine g_X4_size (pc := 10) ha0i lf_RX4_17 dX4_whoAt_10 ?_
    refine r_icmp_ge (pc := 13) 66 dX4_whoAt_13 (by decide) (fun h1 => ?_) (fun h1 => ?_)
    · exact r_sub [2] rfl (hk v2 v3 v4 σ)
    · refine r_aload_n (pc := 16) 0 dX4_whoAt_16 rfl rfl ?_
      refine g_X4_panes (pc := 17) ha0i lf_RX4_11 dX4_whoAt_17 ?_
      refine r_iload (pc := 20) 4 dX4_whoAt_20 rfl ?_
      refine r_aald (pc := 22) (n := 7) (k := 7) (o8 ha0i) rfl rfl rfl dX4_whoAt_22 (fun h2 => ?_)
      refine r_astore (pc := 23) [(5, .ref (ad en 9 a0i v4.toNatClampNeg)), (0, .ref (ad en 7 a0i 0)), (1, .int a1), (2, .int v2), (3, .int v3), (4, .int v4)] dX4_whoAt_23 (by decide) rfl ?_
      refine r_aload (pc := 25) 0 dX4_whoAt_25 rfl ?_
      refine g_X2_open (pc := 27) ha0i (ib_lt h2) lf_RX4_40 dX4_whoAt_27 ?_
      refine r_if_eq (pc := 30) 60 dX4_whoAt_30 (by decide) (fun h3 => ?_) (fun h3 => ?_)
      · refine r_iinc (pc := 60) 5 [(4, .int (v4 + (1 : Int32))), (5, .ref (ad en 9 a0i v4.toNatClampNeg)), (0, .ref (ad en 7 a0i 0)), (1, .int a1), (2, .int v2), (3, .int v3)] dX4_whoAt_60 rfl rfl (by decide) rfl ?_
        refine r_goto (pc := 63) 7 dX4_whoAt_63 (by decide) ?_
        exact r_sub [2, 3, 4, 5, 0] rfl (ih v2 v3 (v4 + (1 : Int32)) σ)
      · refine r_aload (pc := 33) 0 dX4_whoAt_33 rfl ?_
        refine k_X2_rank (pc := 35) lm_RX4_63  (by decide) (Nat.le_of_ble_eq_true rfl) dX4_whoAt_35 ha0i (ib_lt h2) (fun w1 h4 => ?_)
        refine r_iload_n (pc := 38) 4 dX4_whoAt_38 rfl rfl ?_
        refine r_icmp_le (pc := 39) 60 dX4_whoAt_39 (by decide) (fun h5 => ?_) (fun h5 => ?_)
        · refine r_iinc (pc := 60) 5 [(4, .int (v4 + (1 : Int32))), (5, .ref (ad en 9 a0i v4.toNatClampNeg)), (0, .ref (ad en 7 a0i 0)), (1, .int a1), (2, .int v2), (3, .int v3)] dX4_whoAt_60 rfl rfl (by decide) rfl ?_
          refine r_goto (pc := 63) 7 dX4_whoAt_63 (by decide) ?_
          exact r_sub [2, 3, 4, 5, 0] rfl (ih v2 v3 (v4 + (1 : Int32)) w1.2)
        · refine r_aload (pc := 42) 0 dX4_whoAt_42 rfl ?_
          refine r_iload_n (pc := 44) 2 dX4_whoAt_44 rfl rfl ?_
          refine k_X2_hasCell (pc := 45) lm_RX4_67  (by decide) (Nat.le_of_ble_eq_true rfl) dX4_whoAt_45 ha0i (ib_lt h2) (fun w2 h6 => ?_)
          refine r_if_eq (pc := 48) 60 dX4_whoAt_48 (by decide) (fun h7 => ?_) (fun h7 => ?_)
          · refine r_iinc (pc := 60) 5 [(4, .int (v4 + (1 : Int32))), (5, .ref (ad en 9 a0i v4.toNatClampNeg)), (0, .ref (ad en 7 a0i 0)), (1, .int a1), (2, .int v2), (3, .int v3)] dX4_whoAt_60 rfl rfl (by decide) rfl ?_
            refine r_goto (pc := 63) 7 dX4_whoAt_63 (by decide) ?_
            exact r_sub [2, 3, 4, 5, 0] rfl (ih v2 v3 (v4 + (1 : Int32)) w2.2)
          · refine r_iload (pc := 51) 5 dX4_whoAt_51 rfl ?_
            refine r_istore_n (pc := 53) [(2, .int v4), (5, .ref (ad en 9 a0i v4.toNatClampNeg)), (0, .ref (ad en 7 a0i 0)), (1, .int a1), (3, .int v3), (4, .int v4)] dX4_whoAt_53 rfl (by decide) rfl ?_
            refine r_aload (pc := 54) 1 dX4_whoAt_54 rfl ?_
            refine k_X2_rank (pc := 56) lm_RX4_63  (by decide) (Nat.le_of_ble_eq_true rfl) dX4_whoAt_56 ha0i (ib_lt h2) (fun w3 h8 => ?_)
            refine r_istore_n (pc := 59) [(3, .int w3.1), (2, .int v4), (5, .ref (ad en 9 a0i v4.toNatClampNeg)), (0, .ref (ad en 7 a0i 0)), (1, .int a1), (4, .int v4)] dX4_whoAt_59 rfl (by decide) rfl ?_
            refine r_iinc (pc := 60) 5 [(4, .int (v4 + (1 : Int32))), (3, .int w3.1), (2, .int v4), (5, .ref (ad en 9 a0i v4.toNatClampNeg)), (0, .ref (ad en 7 a0i 0)), (1, .int a1)] dX4_whoAt_60 rfl rfl (by decide) rfl ?_
            refine r_goto (pc := 63) 7 dX4_whoAt_63 (by decide) ?_
            exact r_sub [4, 5, 2, 1, 0] rfl (ih v4 w3.1 (v4 + (1 : Int32)) w3.2)
set_option maxHeartbeats 4000000 in
theorem R_X4_whoAt (en : En) (N : Nat) (oi : Nat) (p0 : Int32) (hoi : oi < 5) (σ : Sg) : RR en ExT mi_X4_whoAt evI 0 [(0, .ref (ad en 7 oi 0)), (1, .int p0)] [] σ (f_X4_whoAt N oi p0 σ) := by
  unfold f_X4_whoAt
  refine r_iconst (pc := 0) dX4_whoAt_0 kc_iconst_m1 ?_
  refine r_istore_n (pc := 1) [(2, .int (-1 : Int32)), (0, .ref (ad en 7 oi 0)), (1, .int p0)] dX4_whoAt_1 rfl (by decide) rfl ?_
  refine r_iconst (pc := 2) dX4_whoAt_2 kc_iconst_m1 ?_
  refine r_istore_n (pc := 3) [(3, .int (-1 : Int32)), (2, .int (-1 : Int32)), (0, .ref (ad en 7 oi 0)), (1, .int p0)] dX4_whoAt_3 rfl (by decide) rfl ?_
  refine r_iconst (pc := 4) dX4_whoAt_4 kc_iconst_0 ?_
  refine r_istore (pc := 5) [(4, .int (0 : Int32)), (3, .int (-1 : Int32)), (2, .int (-1 : Int32)), (0, .ref (ad en 7 oi 0)), (1, .int p0)] dX4_whoAt_5 (by decide) rfl ?_
  refine r_sub [3, 4, 2, 1, 0] rfl (RL_X4_whoAt_7 en N oi p0 hoi (fun v2_4 v3_4 v4_4 σ_4 => ?_) N (-1 : Int32) (-1 : Int32) (0 : Int32) σ)
  refine r_iload_n (pc := 66) 0 dX4_whoAt_66 rfl rfl ?_
  exact r_iret (pc := 67) rfl dX4_whoAt_67
theorem ok_X4_whoAt : yOk yX4_whoAt cX4_whoAt 6 (some .int) := ⟨in_lwG (by decide +kernel) rfl, in_lwG (by decide +kernel) rfl, by decide, by decide, by decide⟩
theorem k_X4_whoAt {en : En} {Ex : (Nat → Prop) → State → Prop} {mi : Mi} {α : Type} {ev : α → Option Value × Sg} {pc index : Nat} {lv : List (Nat × Value)} {rest : List Value} {σ : Sg} {N : Nat} {k : (Int32 × Sg) → Option α} {oi : Nat} {p0 : Int32} (hlink : Cond.methodLink mi.1 index yX4_whoAt ∈ lwG) (hroom : 2 + 1 ≤ mi.2.2.2.2) (hcat : (rest.map fun v => v.category).sum ≤ 8) (hd : decode mi.2.1 pc = .ok (.invokevirtual index, 3)) (hoi : oi < 5) (h : ∀ w : Int32 × Sg, f_X4_whoAt N oi p0 σ = some w → RR en Ex mi ev (pc + 3) lv (.int w.1 :: rest) w.2 (k w)) : RR en Ex mi ev pc lv (.int p0 :: .ref (ad en 7 oi 0) :: rest) σ ((f_X4_whoAt N oi p0 σ).bind k) :=
  r_callV (n := 1) [.int p0] ok_X4_whoAt hlink (in_lwG (by decide +kernel) rfl) (in_lwG (by decide +kernel) rfl) (by decide +kernel) rfl hroom (by decide) (o7 hoi) rfl rfl hcat (R_X4_whoAt en N oi p0 hoi σ) (Nat.le_of_ble_eq_true rfl) hd h
set_option maxHeartbeats 4000000 in
theorem RL_X4_agreesWith_2 (en : En) (N : Nat) {k : Int32 → Sg → Option (Int32 × Sg)} (a0i : Nat) (a1i : Nat) (ha0i : a0i < 5) (ha1i : a1i < 6) (hk : ∀ (v2 : Int32) (σ : Sg), RR en ExT mi_X4_agreesWith evI 41 [] [] σ (k v2 σ)) : ∀ (n : Nat) (v2 : Int32) (σ : Sg), RR en ExT mi_X4_agreesWith evI 2 [(0, .ref (ad en 7 a0i 0)), (1, .ref (ad en 2 a1i 0)), (2, .int v2)] [] σ (L_X4_agreesWith_2 N k a0i a1i n v2 σ) := by
  intro n
  induction n with
  | zero => intro v2 σ; exact r_none
  | succ n ih =>
    intro v2 σ
    rw [L_X4_agreesWith_2_s]
    refine r_iload_n (pc := 2) 2 dX4_agreesWith_2 rfl rfl ?_
    refine r_iconst (pc := 3) dX4_agreesWith_3 kc_iconst_1 ?_
    refine r_iadd (pc := 4) dX4_agreesWith_4 ?_
    refine r_aload_n (pc := 5) 1 dX4_agreesWith_5 rfl rfl ?_
    refine g_X3_size (pc := 6) ha1i lf_RX4_95 dX4_agreesWith_6 ?_
    refine r_icmp_ge (pc := 9) 41 dX4_agreesWith_9 (by decide) (fun h1 => ?_) (fun h1 => ?_)
    · exact r_sub [] rfl (hk v2 σ)
    · refine r_aload_n (pc := 12) 0 dX4_agreesWith_12 rfl rfl ?_
      refine r_aload_n (pc := 13) 1 dX4_agreesWith_13 rfl rfl ?_
      refine g_X3_ints (pc := 14) ha1i lf_RX4_98 dX4_agreesWith_14 ?_
      refine r_iload_n (pc := 17) 2 dX4_agreesWith_17 rfl rfl ?_
      refine r_iald (pc := 18) (n := 40) (o3 ha1i) rfl dX4_agreesWith_18 (fun h2 => ?_)
      refine k_X4_whoAt (pc := 19) lm_RX4_102  (by decide) (Nat.le_of_ble_eq_true rfl) dX4_agreesWith_19 ha0i (fun w1 h3 => ?_)
      refine r_aload_n (pc := 22) 1 dX4_agreesWith_22 rfl rfl ?_
      refine g_X3_ints (pc := 23) ha1i lf_RX4_98 dX4_agreesWith_23 ?_
      refine r_iload_n (pc := 26) 2 dX4_agreesWith_26 rfl rfl ?_
      refine r_iconst (pc := 27) dX4_agreesWith_27 kc_iconst_1 ?_
      refine r_iadd (pc := 28) dX4_agreesWith_28 ?_
      refine r_iald (pc := 29) (n := 40) (o3 ha1i) rfl dX4_agreesWith_29 (fun h4 => ?_)
      refine r_icmp_eq (pc := 30) 35 dX4_agreesWith_30 (by decide) (fun h5 => ?_) (fun h5 => ?_)
      · refine r_iinc (pc := 35) 2 [(2, .int (v2 + (2 : Int32))), (0, .ref (ad en 7 a0i 0)), (1, .ref (ad en 2 a1i 0))] dX4_agreesWith_35 rfl rfl (by decide) rfl ?_
        refine r_goto (pc := 38) 2 dX4_agreesWith_38 (by decide) ?_
        exact r_sub [1, 2, 0] rfl (ih (v2 + (2 : Int32)) w1.2)
      · refine r_iconst (pc := 33) dX4_agreesWith_33 kc_iconst_0 ?_
        exact r_zret (pc := 34) rfl rfl dX4_agreesWith_34
set_option maxHeartbeats 4000000 in
theorem R_X4_agreesWith (en : En) (N : Nat) (oi : Nat) (q0i : Nat) (hoi : oi < 5) (hq0i : q0i < 6) (σ : Sg) : RR en ExT mi_X4_agreesWith evI 0 [(0, .ref (ad en 7 oi 0)), (1, .ref (ad en 2 q0i 0))] [] σ (f_X4_agreesWith N oi q0i σ) := by
  unfold f_X4_agreesWith
  refine r_iconst (pc := 0) dX4_agreesWith_0 kc_iconst_0 ?_
  refine r_istore_n (pc := 1) [(2, .int (0 : Int32)), (0, .ref (ad en 7 oi 0)), (1, .ref (ad en 2 q0i 0))] dX4_agreesWith_1 rfl (by decide) rfl ?_
  refine r_sub [1, 2, 0] rfl (RL_X4_agreesWith_2 en N oi q0i hoi hq0i (fun v2_2 σ_2 => ?_) N (0 : Int32) σ)
  refine r_iconst (pc := 41) dX4_agreesWith_41 kc_iconst_1 ?_
  exact r_zret (pc := 42) rfl rfl dX4_agreesWith_42
theorem ok_X4_agreesWith : yOk yX4_agreesWith cX4_agreesWith 3 (some .boolean) := ⟨in_lwG (by decide +kernel) rfl, in_lwG (by decide +kernel) rfl, by decide, by decide, by decide⟩
theorem k_X4_agreesWith {en : En} {Ex : (Nat → Prop) → State → Prop} {mi : Mi} {α : Type} {ev : α → Option Value × Sg} {pc index : Nat} {lv : List (Nat × Value)} {rest : List Value} {σ : Sg} {N : Nat} {k : (Int32 × Sg) → Option α} {oi : Nat} {q0i : Nat} (hlink : Cond.methodLink mi.1 index yX4_agreesWith ∈ lwG) (hroom : 3 + 1 ≤ mi.2.2.2.2) (hcat : (rest.map fun v => v.category).sum ≤ 8) (hd : decode mi.2.1 pc = .ok (.invokevirtual index, 3)) (hoi : oi < 5) (hq0i : q0i < 6) (h : ∀ w : Int32 × Sg, f_X4_agreesWith N oi q0i σ = some w → RR en Ex mi ev (pc + 3) lv (.int w.1 :: rest) w.2 (k w)) : RR en Ex mi ev pc lv (.ref (ad en 2 q0i 0) :: .ref (ad en 7 oi 0) :: rest) σ ((f_X4_agreesWith N oi q0i σ).bind k) :=
  r_callV (n := 1) [.ref (ad en 2 q0i 0)] ok_X4_agreesWith hlink (in_lwG (by decide +kernel) rfl) (in_lwG (by decide +kernel) rfl) (by decide +kernel) rfl hroom (by decide) (o7 hoi) rfl rfl hcat (R_X4_agreesWith en N oi q0i hoi hq0i σ) (Nat.le_of_ble_eq_true rfl) hd h
set_option maxHeartbeats 4000000 in
theorem RL_X4_become_10 (en : En) (N : Nat) {k : Int32 → Sg → Option (Sg)} (a0i : Nat) (a1i : Nat) (ha0i : a0i < 5) (ha1i : a1i < 5) (hk : ∀ (v2 : Int32) (σ : Sg), RR en ExT mi_X4_become evV 39 [] [] σ (k v2 σ)) : ∀ (n : Nat) (v2 : Int32) (σ : Sg), RR en ExT mi_X4_become evV 10 [(0, .ref (ad en 7 a0i 0)), (1, .ref (ad en 7 a1i 0)), (2, .int v2)] [] σ (L_X4_become_10 N k a0i a1i n v2 σ) := by
  intro n
  induction n with
  | zero => intro v2 σ; exact r_none
  | succ n ih =>
    intro v2 σ
    rw [L_X4_become_10_s]
    refine r_iload_n (pc := 10) 2 dX4_become_10 rfl rfl ?_
    refine r_aload_n (pc := 11) 0 dX4_become_11 rfl rfl ?_
    refine g_X4_size (pc := 12) ha0i lf_RX4_17 dX4_become_12 ?_
    refine r_icmp_ge (pc := 15) 39 dX4_become_15 (by decide) (fun h1 => ?_) (fun h1 => ?_)
    · exact r_sub [] rfl (hk v2 σ)
    · refine r_aload_n (pc := 18) 0 dX4_become_18 rfl rfl ?_
      refine g_X4_panes (pc := 19) ha0i lf_RX4_11 dX4_become_19 ?_
      refine r_iload_n (pc := 22) 2 dX4_become_22 rfl rfl ?_
      refine r_aald (pc := 23) (n := 7) (k := 7) (o8 ha0i) rfl rfl rfl dX4_become_23 (fun h2 => ?_)
      refine r_aload_n (pc := 24) 1 dX4_become_24 rfl rfl ?_
      refine g_X4_panes (pc := 25) ha1i lf_RX4_11 dX4_become_25 ?_
      refine r_iload_n (pc := 28) 2 dX4_become_28 rfl rfl ?_
      refine r_aald (pc := 29) (n := 7) (k := 7) (o8 ha1i) rfl rfl rfl dX4_become_29 (fun h3 => ?_)
      refine k_X2_become (pc := 30) lm_RX4_22  (by decide) (Nat.le_of_ble_eq_true rfl) dX4_become_30 ha0i (ib_lt h2) ha1i (ib_lt h3) (fun w1 h4 => ?_)
      refine r_iinc (pc := 33) 2 [(2, .int (v2 + (1 : Int32))), (0, .ref (ad en 7 a0i 0)), (1, .ref (ad en 7 a1i 0))] dX4_become_33 rfl rfl (by decide) rfl ?_
      refine r_goto (pc := 36) 10 dX4_become_36 (by decide) ?_
      exact r_sub [1, 2, 0] rfl (ih (v2 + (1 : Int32)) w1)
set_option maxHeartbeats 4000000 in
theorem R_X4_become (en : En) (N : Nat) (oi : Nat) (q0i : Nat) (hoi : oi < 5) (hq0i : q0i < 5) (σ : Sg) : RR en ExT mi_X4_become evV 0 [(0, .ref (ad en 7 oi 0)), (1, .ref (ad en 7 q0i 0))] [] σ (f_X4_become N oi q0i σ) := by
  unfold f_X4_become
  refine r_aload_n (pc := 0) 0 dX4_become_0 rfl rfl ?_
  refine r_aload_n (pc := 1) 1 dX4_become_1 rfl rfl ?_
  refine g_X4_size (pc := 2) hq0i lf_RX4_17 dX4_become_2 ?_
  refine p_X4_size (pc := 5) hoi lf_RX4_17 dX4_become_5 ?_
  refine r_iconst (pc := 8) dX4_become_8 kc_iconst_0 ?_
  refine r_istore_n (pc := 9) [(2, .int (0 : Int32)), (0, .ref (ad en 7 oi 0)), (1, .ref (ad en 7 q0i 0))] dX4_become_9 rfl (by decide) rfl ?_
  refine r_sub [1, 2, 0] rfl (RL_X4_become_10 en N oi q0i hoi hq0i (fun v2_2 σ_2 => ?_) N (0 : Int32) (uI σ 7 oi 0 1 (rI σ 7 q0i 0 1)))
  exact r_vret (pc := 39) rfl dX4_become_39
theorem ok_X4_become : yOk yX4_become cX4_become 3 none := ⟨in_lwG (by decide +kernel) rfl, in_lwG (by decide +kernel) rfl, by decide, by decide, by decide⟩
theorem k_X4_become {en : En} {Ex : (Nat → Prop) → State → Prop} {mi : Mi} {α : Type} {ev : α → Option Value × Sg} {pc index : Nat} {lv : List (Nat × Value)} {rest : List Value} {σ : Sg} {N : Nat} {k : (Sg) → Option α} {oi : Nat} {q0i : Nat} (hlink : Cond.methodLink mi.1 index yX4_become ∈ lwG) (hroom : 2 + 1 ≤ mi.2.2.2.2) (hcat : (rest.map fun v => v.category).sum ≤ 8) (hd : decode mi.2.1 pc = .ok (.invokevirtual index, 3)) (hoi : oi < 5) (hq0i : q0i < 5) (h : ∀ w : Sg, f_X4_become N oi q0i σ = some w → RR en Ex mi ev (pc + 3) lv (rest) w (k w)) : RR en Ex mi ev pc lv (.ref (ad en 7 q0i 0) :: .ref (ad en 7 oi 0) :: rest) σ ((f_X4_become N oi q0i σ).bind k) :=
  r_callV (n := 1) [.ref (ad en 7 q0i 0)] ok_X4_become hlink (in_lwG (by decide +kernel) rfl) (in_lwG (by decide +kernel) rfl) (by decide +kernel) rfl hroom (by decide) (o7 hoi) rfl rfl hcat (R_X4_become en N oi q0i hoi hq0i σ) (Nat.le_of_ble_eq_true rfl) hd h
set_option maxHeartbeats 4000000 in
theorem RL_X4_cellsThatShowOne_7 (en : En) (N : Nat) {k : Int64 → Int64 → Int32 → Option (Int32 × Sg)} (a0i : Nat) (σ : Sg) (ha0i : a0i < 5) (hk : ∀ (v1 : Int64) (v3 : Int64) (v5 : Int32), RR en ExT mi_X4_cellsThatShowOne evI 61 [(1, .long v1), (3, .long v3)] [] σ (k v1 v3 v5)) : ∀ (n : Nat) (v1 : Int64) (v3 : Int64) (v5 : Int32), RR en ExT mi_X4_cellsThatShowOne evI 7 [(0, .ref (ad en 7 a0i 0)), (1, .long v1), (3, .long v3), (5, .int v5)] [] σ (L_X4_cellsThatShowOne_7 N k a0i σ n v1 v3 v5) := by
  intro n
  induction n with
  | zero => intro v1 v3 v5; exact r_none
  | succ n ih =>
    intro v1 v3 v5
    rw [L_X4_cellsThatShowOne_7_s]
    refine r_iload (pc := 7) 3 dX4_cellsThatShowOne_7 rfl ?_
    refine r_aload_n (pc := 9) 0 dX4_cellsThatShowOne_9 rfl rfl ?_
    refine g_X4_size (pc := 10) ha0i lf_RX4_17 dX4_cellsThatShowOne_10 ?_
    refine r_icmp_ge (pc := 13) 61 dX4_cellsThatShowOne_13 (by decide) (fun h1 => ?_) (fun h1 => ?_)
    · exact r_sub [1, 2] rfl (hk v1 v3 v5)
    · refine r_aload_n (pc := 16) 0 dX4_cellsThatShowOne_16 rfl rfl ?_
      refine g_X4_panes (pc := 17) ha0i lf_RX4_11 dX4_cellsThatShowOne_17 ?_
      refine r_iload (pc := 20) 3 dX4_cellsThatShowOne_20 rfl ?_
      refine r_aald (pc := 22) (n := 7) (k := 7) (o8 ha0i) rfl rfl rfl dX4_cellsThatShowOne_22 (fun h2 => ?_)
      refine g_X2_open (pc := 23) ha0i (ib_lt h2) lf_RX4_40 dX4_cellsThatShowOne_23 ?_
      refine r_if_eq (pc := 26) 55 dX4_cellsThatShowOne_26 (by decide) (fun h3 => ?_) (fun h3 => ?_)
      · refine r_iinc (pc := 55) 3 [(5, .int (v5 + (1 : Int32))), (0, .ref (ad en 7 a0i 0)), (1, .long v1), (3, .long v3)] dX4_cellsThatShowOne_55 rfl rfl (by decide) rfl ?_
        refine r_goto (pc := 58) 7 dX4_cellsThatShowOne_58 (by decide) ?_
        exact r_sub [1, 2, 3, 0] rfl (ih v1 v3 (v5 + (1 : Int32)))
      · refine r_lload_n (pc := 29) 1 dX4_cellsThatShowOne_29 rfl rfl ?_
        refine r_aload_n (pc := 30) 0 dX4_cellsThatShowOne_30 rfl rfl ?_
        refine g_X4_panes (pc := 31) ha0i lf_RX4_11 dX4_cellsThatShowOne_31 ?_
        refine r_iload (pc := 34) 3 dX4_cellsThatShowOne_34 rfl ?_
        refine r_aald (pc := 36) (n := 7) (k := 7) (o8 ha0i) rfl rfl rfl dX4_cellsThatShowOne_36 (fun h4 => ?_)
        refine g_X2_upperHalf (pc := 37) ha0i (ib_lt h4) lf_RX4_44 dX4_cellsThatShowOne_37 ?_
        refine r_lor (pc := 40) dX4_cellsThatShowOne_40 ?_
        refine r_lstore_n (pc := 41) [(1, .long (v1 ||| (rL σ 9 a0i v5.toNatClampNeg 7))), (0, .ref (ad en 7 a0i 0)), (3, .long v3), (5, .int v5)] dX4_cellsThatShowOne_41 rfl (by decide) rfl ?_
        refine r_lload_n (pc := 42) 2 dX4_cellsThatShowOne_42 rfl rfl ?_
        refine r_aload_n (pc := 43) 1 dX4_cellsThatShowOne_43 rfl rfl ?_
        refine g_X4_panes (pc := 44) ha0i lf_RX4_11 dX4_cellsThatShowOne_44 ?_
        refine r_iload (pc := 47) 3 dX4_cellsThatShowOne_47 rfl ?_
        refine r_aald (pc := 49) (n := 7) (k := 7) (o8 ha0i) rfl rfl rfl dX4_cellsThatShowOne_49 (fun h5 => ?_)
        refine g_X2_lowerHalf (pc := 50) ha0i (ib_lt h5) lf_RX4_48 dX4_cellsThatShowOne_50 ?_
        refine r_lor (pc := 53) dX4_cellsThatShowOne_53 ?_
        refine r_lstore_n (pc := 54) [(3, .long (v3 ||| (rL σ 9 a0i v5.toNatClampNeg 8))), (1, .long (v1 ||| (rL σ 9 a0i v5.toNatClampNeg 7))), (0, .ref (ad en 7 a0i 0)), (5, .int v5)] dX4_cellsThatShowOne_54 rfl (by decide) rfl ?_
        refine r_iinc (pc := 55) 3 [(5, .int (v5 + (1 : Int32))), (3, .long (v3 ||| (rL σ 9 a0i v5.toNatClampNeg 8))), (1, .long (v1 ||| (rL σ 9 a0i v5.toNatClampNeg 7))), (0, .ref (ad en 7 a0i 0))] dX4_cellsThatShowOne_55 rfl rfl (by decide) rfl ?_
        refine r_goto (pc := 58) 7 dX4_cellsThatShowOne_58 (by decide) ?_
        exact r_sub [3, 2, 1, 0] rfl (ih (v1 ||| (rL σ 9 a0i v5.toNatClampNeg 7)) (v3 ||| (rL σ 9 a0i v5.toNatClampNeg 8)) (v5 + (1 : Int32)))
set_option maxHeartbeats 4000000 in
theorem R_X4_cellsThatShowOne (en : En) (N : Nat) (oi : Nat) (hoi : oi < 5) (σ : Sg) : RR en ExT mi_X4_cellsThatShowOne evI 0 [(0, .ref (ad en 7 oi 0))] [] σ (f_X4_cellsThatShowOne N oi σ) := by
  unfold f_X4_cellsThatShowOne
  refine r_lconst (pc := 0) (v := 0) dX4_cellsThatShowOne_0 rfl ?_
  refine r_lstore_n (pc := 1) [(1, .long (0 : Int64)), (0, .ref (ad en 7 oi 0))] dX4_cellsThatShowOne_1 rfl (by decide) rfl ?_
  refine r_lconst (pc := 2) (v := 0) dX4_cellsThatShowOne_2 rfl ?_
  refine r_lstore_n (pc := 3) [(3, .long (0 : Int64)), (1, .long (0 : Int64)), (0, .ref (ad en 7 oi 0))] dX4_cellsThatShowOne_3 rfl (by decide) rfl ?_
  refine r_iconst (pc := 4) dX4_cellsThatShowOne_4 kc_iconst_0 ?_
  refine r_istore (pc := 5) [(5, .int (0 : Int32)), (3, .long (0 : Int64)), (1, .long (0 : Int64)), (0, .ref (ad en 7 oi 0))] dX4_cellsThatShowOne_5 (by decide) rfl ?_
  refine r_sub [3, 2, 1, 0] rfl (RL_X4_cellsThatShowOne_7 en N oi σ hoi (fun v1_1 v3_1 v5_1 => ?_) N (0 : Int64) (0 : Int64) (0 : Int32))
  refine r_lload_n (pc := 61) 0 dX4_cellsThatShowOne_61 rfl rfl ?_
  refine k_J13_bitCount_95d88 (pc := 62) lm_RX4_57  (by decide) (Nat.le_of_ble_eq_true rfl) dX4_cellsThatShowOne_62 (fun w2 h6 => ?_)
  refine r_lload_n (pc := 65) 1 dX4_cellsThatShowOne_65 rfl rfl ?_
  refine k_J13_bitCount_95d88 (pc := 66) lm_RX4_57  (by decide) (Nat.le_of_ble_eq_true rfl) dX4_cellsThatShowOne_66 (fun w3 h7 => ?_)
  refine r_iadd (pc := 69) dX4_cellsThatShowOne_69 ?_
  exact r_iret (pc := 70) rfl dX4_cellsThatShowOne_70
theorem ok_X4_cellsThatShowOne : yOk yX4_cellsThatShowOne cX4_cellsThatShowOne 6 (some .int) := ⟨in_lwG (by decide +kernel) rfl, in_lwG (by decide +kernel) rfl, by decide, by decide, by decide⟩
theorem k_X4_cellsThatShowOne {en : En} {Ex : (Nat → Prop) → State → Prop} {mi : Mi} {α : Type} {ev : α → Option Value × Sg} {pc index : Nat} {lv : List (Nat × Value)} {rest : List Value} {σ : Sg} {N : Nat} {k : (Int32 × Sg) → Option α} {oi : Nat} (hlink : Cond.methodLink mi.1 index yX4_cellsThatShowOne ∈ lwG) (hroom : 2 + 1 ≤ mi.2.2.2.2) (hcat : (rest.map fun v => v.category).sum ≤ 8) (hd : decode mi.2.1 pc = .ok (.invokevirtual index, 3)) (hoi : oi < 5) (h : ∀ w : Int32 × Sg, f_X4_cellsThatShowOne N oi σ = some w → RR en Ex mi ev (pc + 3) lv (.int w.1 :: rest) w.2 (k w)) : RR en Ex mi ev pc lv (.ref (ad en 7 oi 0) :: rest) σ ((f_X4_cellsThatShowOne N oi σ).bind k) :=
  r_callV (n := 0) [] ok_X4_cellsThatShowOne hlink (in_lwG (by decide +kernel) rfl) (in_lwG (by decide +kernel) rfl) (by decide +kernel) rfl hroom (by decide) (o7 hoi) rfl rfl hcat (R_X4_cellsThatShowOne en N oi hoi σ) (Nat.le_of_ble_eq_true rfl) hd h
set_option maxHeartbeats 4000000 in
theorem R_X4_has (en : En) (N : Nat) (oi : Nat) (p0 : Int32) (hoi : oi < 5) (σ : Sg) : RR en ExT mi_X4_has evI 0 [(0, .ref (ad en 7 oi 0)), (1, .int p0)] [] σ (f_X4_has N oi p0 σ) := by
  unfold f_X4_has
  refine r_iload_n (pc := 0) 1 dX4_has_0 rfl rfl ?_
  refine r_if_lt (pc := 1) 16 dX4_has_1 (by decide) (fun h1 => ?_) (fun h1 => ?_)
  · refine r_iconst (pc := 16) dX4_has_16 kc_iconst_0 ?_
    exact r_zret (pc := 17) rfl rfl dX4_has_17
  · refine r_iload_n (pc := 4) 1 dX4_has_4 rfl rfl ?_
    refine r_aload_n (pc := 5) 0 dX4_has_5 rfl rfl ?_
    refine g_X4_size (pc := 6) hoi lf_RX4_17 dX4_has_6 ?_
    refine r_icmp_ge (pc := 9) 16 dX4_has_9 (by decide) (fun h2 => ?_) (fun h2 => ?_)
    · refine r_iconst (pc := 16) dX4_has_16 kc_iconst_0 ?_
      exact r_zret (pc := 17) rfl rfl dX4_has_17
    · refine r_iconst (pc := 12) dX4_has_12 kc_iconst_1 ?_
      refine r_goto (pc := 13) 17 dX4_has_13 (by decide) ?_
      exact r_zret (pc := 17) rfl rfl dX4_has_17
theorem ok_X4_has : yOk yX4_has cX4_has 2 (some .boolean) := ⟨in_lwG (by decide +kernel) rfl, in_lwG (by decide +kernel) rfl, by decide, by decide, by decide⟩
theorem k_X4_has {en : En} {Ex : (Nat → Prop) → State → Prop} {mi : Mi} {α : Type} {ev : α → Option Value × Sg} {pc index : Nat} {lv : List (Nat × Value)} {rest : List Value} {σ : Sg} {N : Nat} {k : (Int32 × Sg) → Option α} {oi : Nat} {p0 : Int32} (hlink : Cond.methodLink mi.1 index yX4_has ∈ lwG) (hroom : 1 + 1 ≤ mi.2.2.2.2) (hcat : (rest.map fun v => v.category).sum ≤ 8) (hd : decode mi.2.1 pc = .ok (.invokevirtual index, 3)) (hoi : oi < 5) (h : ∀ w : Int32 × Sg, f_X4_has N oi p0 σ = some w → RR en Ex mi ev (pc + 3) lv (.int w.1 :: rest) w.2 (k w)) : RR en Ex mi ev pc lv (.int p0 :: .ref (ad en 7 oi 0) :: rest) σ ((f_X4_has N oi p0 σ).bind k) :=
  r_callV (n := 1) [.int p0] ok_X4_has hlink (in_lwG (by decide +kernel) rfl) (in_lwG (by decide +kernel) rfl) (by decide +kernel) rfl hroom (by decide) (o7 hoi) rfl rfl hcat (R_X4_has en N oi p0 hoi σ) (Nat.le_of_ble_eq_true rfl) hd h
set_option maxHeartbeats 4000000 in
theorem R_X7_isOf (en : En) (N : Nat) (p0 : Int32) (p1 : Int32)  (σ : Sg) : RR en ExT mi_X7_isOf evI 0 [(0, .int p0), (1, .int p1)] [] σ (f_X7_isOf N p0 p1 σ) := by
  unfold f_X7_isOf
  refine r_iload_n (pc := 0) 0 dX7_isOf_0 rfl rfl ?_
  refine r_iload_n (pc := 1) 1 dX7_isOf_1 rfl rfl ?_
  refine r_icmp_eq (pc := 2) 29 dX7_isOf_2 (by decide) (fun h1 => ?_) (fun h1 => ?_)
  · refine r_iconst (pc := 29) dX7_isOf_29 kc_iconst_1 ?_
    refine r_goto (pc := 30) 34 dX7_isOf_30 (by decide) ?_
    exact r_zret (pc := 34) rfl rfl dX7_isOf_34
  · refine r_iload_n (pc := 5) 1 dX7_isOf_5 rfl rfl ?_
    refine r_if_eq (pc := 6) 29 dX7_isOf_6 (by decide) (fun h2 => ?_) (fun h2 => ?_)
    · refine r_iconst (pc := 29) dX7_isOf_29 kc_iconst_1 ?_
      refine r_goto (pc := 30) 34 dX7_isOf_30 (by decide) ?_
      exact r_zret (pc := 34) rfl rfl dX7_isOf_34
    · refine r_iload_n (pc := 9) 0 dX7_isOf_9 rfl rfl ?_
      refine r_iconst (pc := 10) dX7_isOf_10 kc_iconst_4 ?_
      refine r_icmp_ne (pc := 11) 19 dX7_isOf_11 (by decide) (fun h3 => ?_) (fun h3 => ?_)
      · refine r_iload_n (pc := 14) 1 dX7_isOf_14 rfl rfl ?_
        refine r_iconst (pc := 15) dX7_isOf_15 kc_iconst_1 ?_
        refine r_icmp_eq (pc := 16) 29 dX7_isOf_16 (by decide) (fun h4 => ?_) (fun h4 => ?_)
        · refine r_iconst (pc := 29) dX7_isOf_29 kc_iconst_1 ?_
          refine r_goto (pc := 30) 34 dX7_isOf_30 (by decide) ?_
          exact r_zret (pc := 34) rfl rfl dX7_isOf_34
        · refine r_iload_n (pc := 19) 0 dX7_isOf_19 rfl rfl ?_
          refine r_iconst (pc := 20) dX7_isOf_20 kc_iconst_5 ?_
          refine r_icmp_ne (pc := 21) 33 dX7_isOf_21 (by decide) (fun h5 => ?_) (fun h5 => ?_)
          · refine r_iload_n (pc := 24) 1 dX7_isOf_24 rfl rfl ?_
            refine r_iconst (pc := 25) dX7_isOf_25 kc_iconst_2 ?_
            refine r_icmp_ne (pc := 26) 33 dX7_isOf_26 (by decide) (fun h6 => ?_) (fun h6 => ?_)
            · refine r_iconst (pc := 29) dX7_isOf_29 kc_iconst_1 ?_
              refine r_goto (pc := 30) 34 dX7_isOf_30 (by decide) ?_
              exact r_zret (pc := 34) rfl rfl dX7_isOf_34
            · refine r_iconst (pc := 33) dX7_isOf_33 kc_iconst_0 ?_
              exact r_zret (pc := 34) rfl rfl dX7_isOf_34
          · refine r_iconst (pc := 33) dX7_isOf_33 kc_iconst_0 ?_
            exact r_zret (pc := 34) rfl rfl dX7_isOf_34
      · refine r_iload_n (pc := 19) 0 dX7_isOf_19 rfl rfl ?_
        refine r_iconst (pc := 20) dX7_isOf_20 kc_iconst_5 ?_
        refine r_icmp_ne (pc := 21) 33 dX7_isOf_21 (by decide) (fun h7 => ?_) (fun h7 => ?_)
        · refine r_iload_n (pc := 24) 1 dX7_isOf_24 rfl rfl ?_
          refine r_iconst (pc := 25) dX7_isOf_25 kc_iconst_2 ?_
          refine r_icmp_ne (pc := 26) 33 dX7_isOf_26 (by decide) (fun h8 => ?_) (fun h8 => ?_)
          · refine r_iconst (pc := 29) dX7_isOf_29 kc_iconst_1 ?_
            refine r_goto (pc := 30) 34 dX7_isOf_30 (by decide) ?_
            exact r_zret (pc := 34) rfl rfl dX7_isOf_34
          · refine r_iconst (pc := 33) dX7_isOf_33 kc_iconst_0 ?_
            exact r_zret (pc := 34) rfl rfl dX7_isOf_34
        · refine r_iconst (pc := 33) dX7_isOf_33 kc_iconst_0 ?_
          exact r_zret (pc := 34) rfl rfl dX7_isOf_34
theorem ok_X7_isOf : yOk yX7_isOf cX7_isOf 2 (some .boolean) := ⟨in_lwG (by decide +kernel) rfl, in_lwG (by decide +kernel) rfl, by decide, by decide, by decide⟩
theorem k_X7_isOf {en : En} {Ex : (Nat → Prop) → State → Prop} {mi : Mi} {α : Type} {ev : α → Option Value × Sg} {pc index : Nat} {lv : List (Nat × Value)} {rest : List Value} {σ : Sg} {N : Nat} {k : (Int32 × Sg) → Option α} {p0 : Int32} {p1 : Int32} (hlink : Cond.methodLink mi.1 index yX7_isOf ∈ lwG) (hroom : 1 + 1 ≤ mi.2.2.2.2) (hcat : (rest.map fun v => v.category).sum ≤ 8) (hd : decode mi.2.1 pc = .ok (.invokestatic index, 3))  (h : ∀ w : Int32 × Sg, f_X7_isOf N p0 p1 σ = some w → RR en Ex mi ev (pc + 3) lv (.int w.1 :: rest) w.2 (k w)) : RR en Ex mi ev pc lv (.int p1 :: .int p0 :: rest) σ ((f_X7_isOf N p0 p1 σ).bind k) :=
  r_callS (n := 2) [.int p0, .int p1] ok_X7_isOf hlink (in_lwG (by decide +kernel) rfl) (by decide +kernel) rfl hroom (by decide) hcat (R_X7_isOf en N p0 p1  σ) (Nat.le_of_ble_eq_true rfl) hd h
theorem k_X7_isOf_n {en : En} {Ex : (Nat → Prop) → State → Prop} {mi : Mi} {α : Type} {ev : α → Option Value × Sg} {pc : Nat} {lv : List (Nat × Value)} {rest : List Value} {σ : Sg} {N : Nat} {k : (Int32 × Sg) → Option α} {p0 : Int32} {p1 : Int32} (hown : mi.1 = RX4) (hroom : 1 + 1 ≤ mi.2.2.2.2) (hcat : (rest.map fun v => v.category).sum ≤ 8) (hd : decode mi.2.1 pc = .ok (.invokestatic 91, 3))  (h : ∀ w : Int32 × Sg, f_X7_isOf N p0 p1 σ = some w → RR en Ex mi ev (pc + 3) lv (.int w.1 :: rest) w.2 (k w)) : RR en Ex mi ev pc lv (.int p1 :: .int p0 :: rest) σ ((f_X7_isOf N p0 p1 σ).bind k) :=
  r_callN (n := 2) [.int p0, .int p1] hown rfl rfl ok_X7_isOf (in_lwG (by decide +kernel) rfl) (by decide +kernel) rfl hroom (by decide) hcat (R_X7_isOf en N p0 p1  σ) (Nat.le_of_ble_eq_true rfl) hd h
set_option maxHeartbeats 4000000 in
theorem RL_X4_howManyAre_4 (en : En) (N : Nat) {k : Int32 → Int32 → Sg → Option (Int32 × Sg)} (a0i : Nat) (a1 : Int32) (ha0i : a0i < 5) (hk : ∀ (v2 : Int32) (v3 : Int32) (σ : Sg), RR en ExT mi_X4_howManyAre evI 42 [(2, .int v2)] [] σ (k v2 v3 σ)) : ∀ (n : Nat) (v2 : Int32) (v3 : Int32) (σ : Sg), RR en ExT mi_X4_howManyAre evI 4 [(0, .ref (ad en 7 a0i 0)), (1, .int a1), (2, .int v2), (3, .int v3)] [] σ (L_X4_howManyAre_4 N k a0i a1 n v2 v3 σ) := by
  intro n
  induction n with
  | zero => intro v2 v3 σ; exact r_none
  | succ n ih =>
    intro v2 v3 σ
    rw [L_X4_howManyAre_4_s]
    refine r_iload_n (pc := 4) 3 dX4_howManyAre_4 rfl rfl ?_
    refine r_aload_n (pc := 5) 0 dX4_howManyAre_5 rfl rfl ?_
    refine g_X4_size (pc := 6) ha0i lf_RX4_17 dX4_howManyAre_6 ?_
    refine r_icmp_ge (pc := 9) 42 dX4_howManyAre_9 (by decide) (fun h1 => ?_) (fun h1 => ?_)
    · exact r_sub [2] rfl (hk v2 v3 σ)
    · refine r_iload_n (pc := 12) 2 dX4_howManyAre_12 rfl rfl ?_
      refine r_aload_n (pc := 13) 0 dX4_howManyAre_13 rfl rfl ?_
      refine g_X4_panes (pc := 14) ha0i lf_RX4_11 dX4_howManyAre_14 ?_
      refine r_iload_n (pc := 17) 3 dX4_howManyAre_17 rfl rfl ?_
      refine r_aald (pc := 18) (n := 7) (k := 7) (o8 ha0i) rfl rfl rfl dX4_howManyAre_18 (fun h2 => ?_)
      refine g_X2_kind (pc := 19) ha0i (ib_lt h2) lf_RX4_29 dX4_howManyAre_19 ?_
      refine r_iload_n (pc := 22) 1 dX4_howManyAre_22 rfl rfl ?_
      refine k_X7_isOf_n (pc := 23) rfl  (by decide) (Nat.le_of_ble_eq_true rfl) dX4_howManyAre_23 (fun w1 h3 => ?_)
      refine r_if_eq (pc := 26) 33 dX4_howManyAre_26 (by decide) (fun h4 => ?_) (fun h4 => ?_)
      · refine r_iconst (pc := 33) dX4_howManyAre_33 kc_iconst_0 ?_
        refine r_iadd (pc := 34) dX4_howManyAre_34 ?_
        refine r_istore_n (pc := 35) [(2, .int (v2 + (0 : Int32))), (0, .ref (ad en 7 a0i 0)), (1, .int a1), (3, .int v3)] dX4_howManyAre_35 rfl (by decide) rfl ?_
        refine r_iinc (pc := 36) 3 [(3, .int (v3 + (1 : Int32))), (2, .int (v2 + (0 : Int32))), (0, .ref (ad en 7 a0i 0)), (1, .int a1)] dX4_howManyAre_36 rfl rfl (by decide) rfl ?_
        refine r_goto (pc := 39) 4 dX4_howManyAre_39 (by decide) ?_
        exact r_sub [2, 3, 1, 0] rfl (ih (v2 + (0 : Int32)) (v3 + (1 : Int32)) w1.2)
      · refine r_iconst (pc := 29) dX4_howManyAre_29 kc_iconst_1 ?_
        refine r_goto (pc := 30) 34 dX4_howManyAre_30 (by decide) ?_
        refine r_iadd (pc := 34) dX4_howManyAre_34 ?_
        refine r_istore_n (pc := 35) [(2, .int (v2 + (1 : Int32))), (0, .ref (ad en 7 a0i 0)), (1, .int a1), (3, .int v3)] dX4_howManyAre_35 rfl (by decide) rfl ?_
        refine r_iinc (pc := 36) 3 [(3, .int (v3 + (1 : Int32))), (2, .int (v2 + (1 : Int32))), (0, .ref (ad en 7 a0i 0)), (1, .int a1)] dX4_howManyAre_36 rfl rfl (by decide) rfl ?_
        refine r_goto (pc := 39) 4 dX4_howManyAre_39 (by decide) ?_
        exact r_sub [2, 3, 1, 0] rfl (ih (v2 + (1 : Int32)) (v3 + (1 : Int32)) w1.2)
set_option maxHeartbeats 4000000 in
theorem R_X4_howManyAre (en : En) (N : Nat) (oi : Nat) (p0 : Int32) (hoi : oi < 5) (σ : Sg) : RR en ExT mi_X4_howManyAre evI 0 [(0, .ref (ad en 7 oi 0)), (1, .int p0)] [] σ (f_X4_howManyAre N oi p0 σ) := by
  unfold f_X4_howManyAre
  refine r_iconst (pc := 0) dX4_howManyAre_0 kc_iconst_0 ?_
  refine r_istore_n (pc := 1) [(2, .int (0 : Int32)), (0, .ref (ad en 7 oi 0)), (1, .int p0)] dX4_howManyAre_1 rfl (by decide) rfl ?_
  refine r_iconst (pc := 2) dX4_howManyAre_2 kc_iconst_0 ?_
  refine r_istore_n (pc := 3) [(3, .int (0 : Int32)), (2, .int (0 : Int32)), (0, .ref (ad en 7 oi 0)), (1, .int p0)] dX4_howManyAre_3 rfl (by decide) rfl ?_
  refine r_sub [2, 3, 1, 0] rfl (RL_X4_howManyAre_4 en N oi p0 hoi (fun v2_2 v3_2 σ_2 => ?_) N (0 : Int32) (0 : Int32) σ)
  refine r_iload_n (pc := 42) 0 dX4_howManyAre_42 rfl rfl ?_
  exact r_iret (pc := 43) rfl dX4_howManyAre_43
theorem ok_X4_howManyAre : yOk yX4_howManyAre cX4_howManyAre 4 (some .int) := ⟨in_lwG (by decide +kernel) rfl, in_lwG (by decide +kernel) rfl, by decide, by decide, by decide⟩
theorem k_X4_howManyAre {en : En} {Ex : (Nat → Prop) → State → Prop} {mi : Mi} {α : Type} {ev : α → Option Value × Sg} {pc index : Nat} {lv : List (Nat × Value)} {rest : List Value} {σ : Sg} {N : Nat} {k : (Int32 × Sg) → Option α} {oi : Nat} {p0 : Int32} (hlink : Cond.methodLink mi.1 index yX4_howManyAre ∈ lwG) (hroom : 2 + 1 ≤ mi.2.2.2.2) (hcat : (rest.map fun v => v.category).sum ≤ 8) (hd : decode mi.2.1 pc = .ok (.invokevirtual index, 3)) (hoi : oi < 5) (h : ∀ w : Int32 × Sg, f_X4_howManyAre N oi p0 σ = some w → RR en Ex mi ev (pc + 3) lv (.int w.1 :: rest) w.2 (k w)) : RR en Ex mi ev pc lv (.int p0 :: .ref (ad en 7 oi 0) :: rest) σ ((f_X4_howManyAre N oi p0 σ).bind k) :=
  r_callV (n := 1) [.int p0] ok_X4_howManyAre hlink (in_lwG (by decide +kernel) rfl) (in_lwG (by decide +kernel) rfl) (by decide +kernel) rfl hroom (by decide) (o7 hoi) rfl rfl hcat (R_X4_howManyAre en N oi p0 hoi σ) (Nat.le_of_ble_eq_true rfl) hd h
set_option maxHeartbeats 4000000 in
theorem RL_X4_howManyCover_4 (en : En) (N : Nat) {k : Int32 → Int32 → Sg → Option (Int32 × Sg)} (a0i : Nat) (a1 : Int32) (ha0i : a0i < 5) (hk : ∀ (v2 : Int32) (v3 : Int32) (σ : Sg), RR en ExT mi_X4_howManyCover evI 51 [(2, .int v2)] [] σ (k v2 v3 σ)) : ∀ (n : Nat) (v2 : Int32) (v3 : Int32) (σ : Sg), RR en ExT mi_X4_howManyCover evI 4 [(0, .ref (ad en 7 a0i 0)), (1, .int a1), (2, .int v2), (3, .int v3)] [] σ (L_X4_howManyCover_4 N k a0i a1 n v2 v3 σ) := by
  intro n
  induction n with
  | zero => intro v2 v3 σ; exact r_none
  | succ n ih =>
    intro v2 v3 σ
    rw [L_X4_howManyCover_4_s]
    refine r_iload_n (pc := 4) 3 dX4_howManyCover_4 rfl rfl ?_
    refine r_aload_n (pc := 5) 0 dX4_howManyCover_5 rfl rfl ?_
    refine g_X4_size (pc := 6) ha0i lf_RX4_17 dX4_howManyCover_6 ?_
    refine r_icmp_ge (pc := 9) 51 dX4_howManyCover_9 (by decide) (fun h1 => ?_) (fun h1 => ?_)
    · exact r_sub [2] rfl (hk v2 v3 σ)
    · refine r_iload_n (pc := 12) 2 dX4_howManyCover_12 rfl rfl ?_
      refine r_aload_n (pc := 13) 0 dX4_howManyCover_13 rfl rfl ?_
      refine g_X4_panes (pc := 14) ha0i lf_RX4_11 dX4_howManyCover_14 ?_
      refine r_iload_n (pc := 17) 3 dX4_howManyCover_17 rfl rfl ?_
      refine r_aald (pc := 18) (n := 7) (k := 7) (o8 ha0i) rfl rfl rfl dX4_howManyCover_18 (fun h2 => ?_)
      refine g_X2_open (pc := 19) ha0i (ib_lt h2) lf_RX4_40 dX4_howManyCover_19 ?_
      refine r_if_eq (pc := 22) 42 dX4_howManyCover_22 (by decide) (fun h3 => ?_) (fun h3 => ?_)
      · refine r_iconst (pc := 42) dX4_howManyCover_42 kc_iconst_0 ?_
        refine r_iadd (pc := 43) dX4_howManyCover_43 ?_
        refine r_istore_n (pc := 44) [(2, .int (v2 + (0 : Int32))), (0, .ref (ad en 7 a0i 0)), (1, .int a1), (3, .int v3)] dX4_howManyCover_44 rfl (by decide) rfl ?_
        refine r_iinc (pc := 45) 3 [(3, .int (v3 + (1 : Int32))), (2, .int (v2 + (0 : Int32))), (0, .ref (ad en 7 a0i 0)), (1, .int a1)] dX4_howManyCover_45 rfl rfl (by decide) rfl ?_
        refine r_goto (pc := 48) 4 dX4_howManyCover_48 (by decide) ?_
        exact r_sub [2, 3, 1, 0] rfl (ih (v2 + (0 : Int32)) (v3 + (1 : Int32)) σ)
      · refine r_aload_n (pc := 25) 0 dX4_howManyCover_25 rfl rfl ?_
        refine g_X4_panes (pc := 26) ha0i lf_RX4_11 dX4_howManyCover_26 ?_
        refine r_iload_n (pc := 29) 3 dX4_howManyCover_29 rfl rfl ?_
        refine r_aald (pc := 30) (n := 7) (k := 7) (o8 ha0i) rfl rfl rfl dX4_howManyCover_30 (fun h4 => ?_)
        refine r_iload_n (pc := 31) 1 dX4_howManyCover_31 rfl rfl ?_
        refine k_X2_hasCell (pc := 32) lm_RX4_67  (by decide) (Nat.le_of_ble_eq_true rfl) dX4_howManyCover_32 ha0i (ib_lt h4) (fun w1 h5 => ?_)
        refine r_if_eq (pc := 35) 42 dX4_howManyCover_35 (by decide) (fun h6 => ?_) (fun h6 => ?_)
        · refine r_iconst (pc := 42) dX4_howManyCover_42 kc_iconst_0 ?_
          refine r_iadd (pc := 43) dX4_howManyCover_43 ?_
          refine r_istore_n (pc := 44) [(2, .int (v2 + (0 : Int32))), (0, .ref (ad en 7 a0i 0)), (1, .int a1), (3, .int v3)] dX4_howManyCover_44 rfl (by decide) rfl ?_
          refine r_iinc (pc := 45) 3 [(3, .int (v3 + (1 : Int32))), (2, .int (v2 + (0 : Int32))), (0, .ref (ad en 7 a0i 0)), (1, .int a1)] dX4_howManyCover_45 rfl rfl (by decide) rfl ?_
          refine r_goto (pc := 48) 4 dX4_howManyCover_48 (by decide) ?_
          exact r_sub [2, 3, 1, 0] rfl (ih (v2 + (0 : Int32)) (v3 + (1 : Int32)) w1.2)
        · refine r_iconst (pc := 38) dX4_howManyCover_38 kc_iconst_1 ?_
          refine r_goto (pc := 39) 43 dX4_howManyCover_39 (by decide) ?_
          refine r_iadd (pc := 43) dX4_howManyCover_43 ?_
          refine r_istore_n (pc := 44) [(2, .int (v2 + (1 : Int32))), (0, .ref (ad en 7 a0i 0)), (1, .int a1), (3, .int v3)] dX4_howManyCover_44 rfl (by decide) rfl ?_
          refine r_iinc (pc := 45) 3 [(3, .int (v3 + (1 : Int32))), (2, .int (v2 + (1 : Int32))), (0, .ref (ad en 7 a0i 0)), (1, .int a1)] dX4_howManyCover_45 rfl rfl (by decide) rfl ?_
          refine r_goto (pc := 48) 4 dX4_howManyCover_48 (by decide) ?_
          exact r_sub [2, 3, 1, 0] rfl (ih (v2 + (1 : Int32)) (v3 + (1 : Int32)) w1.2)
set_option maxHeartbeats 4000000 in
theorem R_X4_howManyCover (en : En) (N : Nat) (oi : Nat) (p0 : Int32) (hoi : oi < 5) (σ : Sg) : RR en ExT mi_X4_howManyCover evI 0 [(0, .ref (ad en 7 oi 0)), (1, .int p0)] [] σ (f_X4_howManyCover N oi p0 σ) := by
  unfold f_X4_howManyCover
  refine r_iconst (pc := 0) dX4_howManyCover_0 kc_iconst_0 ?_
  refine r_istore_n (pc := 1) [(2, .int (0 : Int32)), (0, .ref (ad en 7 oi 0)), (1, .int p0)] dX4_howManyCover_1 rfl (by decide) rfl ?_
  refine r_iconst (pc := 2) dX4_howManyCover_2 kc_iconst_0 ?_
  refine r_istore_n (pc := 3) [(3, .int (0 : Int32)), (2, .int (0 : Int32)), (0, .ref (ad en 7 oi 0)), (1, .int p0)] dX4_howManyCover_3 rfl (by decide) rfl ?_
  refine r_sub [2, 3, 1, 0] rfl (RL_X4_howManyCover_4 en N oi p0 hoi (fun v2_2 v3_2 σ_2 => ?_) N (0 : Int32) (0 : Int32) σ)
  refine r_iload_n (pc := 51) 0 dX4_howManyCover_51 rfl rfl ?_
  exact r_iret (pc := 52) rfl dX4_howManyCover_52
theorem ok_X4_howManyCover : yOk yX4_howManyCover cX4_howManyCover 4 (some .int) := ⟨in_lwG (by decide +kernel) rfl, in_lwG (by decide +kernel) rfl, by decide, by decide, by decide⟩
theorem k_X4_howManyCover {en : En} {Ex : (Nat → Prop) → State → Prop} {mi : Mi} {α : Type} {ev : α → Option Value × Sg} {pc index : Nat} {lv : List (Nat × Value)} {rest : List Value} {σ : Sg} {N : Nat} {k : (Int32 × Sg) → Option α} {oi : Nat} {p0 : Int32} (hlink : Cond.methodLink mi.1 index yX4_howManyCover ∈ lwG) (hroom : 2 + 1 ≤ mi.2.2.2.2) (hcat : (rest.map fun v => v.category).sum ≤ 8) (hd : decode mi.2.1 pc = .ok (.invokevirtual index, 3)) (hoi : oi < 5) (h : ∀ w : Int32 × Sg, f_X4_howManyCover N oi p0 σ = some w → RR en Ex mi ev (pc + 3) lv (.int w.1 :: rest) w.2 (k w)) : RR en Ex mi ev pc lv (.int p0 :: .ref (ad en 7 oi 0) :: rest) σ ((f_X4_howManyCover N oi p0 σ).bind k) :=
  r_callV (n := 1) [.int p0] ok_X4_howManyCover hlink (in_lwG (by decide +kernel) rfl) (in_lwG (by decide +kernel) rfl) (by decide +kernel) rfl hroom (by decide) (o7 hoi) rfl rfl hcat (R_X4_howManyCover en N oi p0 hoi σ) (Nat.le_of_ble_eq_true rfl) hd h
set_option maxHeartbeats 4000000 in
theorem RL_X4_shutOnes_4 (en : En) (N : Nat) {k : Int32 → Int32 → Option (Int32 × Sg)} (a0i : Nat) (σ : Sg) (ha0i : a0i < 5) (hk : ∀ (v1 : Int32) (v2 : Int32), RR en ExT mi_X4_shutOnes evI 36 [(1, .int v1)] [] σ (k v1 v2)) : ∀ (n : Nat) (v1 : Int32) (v2 : Int32), RR en ExT mi_X4_shutOnes evI 4 [(0, .ref (ad en 7 a0i 0)), (1, .int v1), (2, .int v2)] [] σ (L_X4_shutOnes_4 N k a0i σ n v1 v2) := by
  intro n
  induction n with
  | zero => intro v1 v2; exact r_none
  | succ n ih =>
    intro v1 v2
    rw [L_X4_shutOnes_4_s]
    refine r_iload_n (pc := 4) 2 dX4_shutOnes_4 rfl rfl ?_
    refine r_aload_n (pc := 5) 0 dX4_shutOnes_5 rfl rfl ?_
    refine g_X4_size (pc := 6) ha0i lf_RX4_17 dX4_shutOnes_6 ?_
    refine r_icmp_ge (pc := 9) 36 dX4_shutOnes_9 (by decide) (fun h1 => ?_) (fun h1 => ?_)
    · exact r_sub [1] rfl (hk v1 v2)
    · refine r_aload_n (pc := 12) 0 dX4_shutOnes_12 rfl rfl ?_
      refine g_X4_panes (pc := 13) ha0i lf_RX4_11 dX4_shutOnes_13 ?_
      refine r_iload_n (pc := 16) 2 dX4_shutOnes_16 rfl rfl ?_
      refine r_aald (pc := 17) (n := 7) (k := 7) (o8 ha0i) rfl rfl rfl dX4_shutOnes_17 (fun h2 => ?_)
      refine g_X2_open (pc := 18) ha0i (ib_lt h2) lf_RX4_40 dX4_shutOnes_18 ?_
      refine r_if_ne (pc := 21) 30 dX4_shutOnes_21 (by decide) (fun h3 => ?_) (fun h3 => ?_)
      · refine r_iload_n (pc := 24) 1 dX4_shutOnes_24 rfl rfl ?_
        refine r_iconst (pc := 25) dX4_shutOnes_25 kc_iconst_1 ?_
        refine r_iload_n (pc := 26) 2 dX4_shutOnes_26 rfl rfl ?_
        refine r_ishl (pc := 27) dX4_shutOnes_27 ?_
        refine r_ior (pc := 28) dX4_shutOnes_28 ?_
        refine r_istore_n (pc := 29) [(1, .int (v1 ||| ((1 : Int32) <<< (v2 &&& 31)))), (0, .ref (ad en 7 a0i 0)), (2, .int v2)] dX4_shutOnes_29 rfl (by decide) rfl ?_
        refine r_iinc (pc := 30) 2 [(2, .int (v2 + (1 : Int32))), (1, .int (v1 ||| ((1 : Int32) <<< (v2 &&& 31)))), (0, .ref (ad en 7 a0i 0))] dX4_shutOnes_30 rfl rfl (by decide) rfl ?_
        refine r_goto (pc := 33) 4 dX4_shutOnes_33 (by decide) ?_
        exact r_sub [2, 1, 0] rfl (ih (v1 ||| ((1 : Int32) <<< (v2 &&& 31))) (v2 + (1 : Int32)))
      · refine r_iinc (pc := 30) 2 [(2, .int (v2 + (1 : Int32))), (0, .ref (ad en 7 a0i 0)), (1, .int v1)] dX4_shutOnes_30 rfl rfl (by decide) rfl ?_
        refine r_goto (pc := 33) 4 dX4_shutOnes_33 (by decide) ?_
        exact r_sub [1, 2, 0] rfl (ih v1 (v2 + (1 : Int32)))
set_option maxHeartbeats 4000000 in
theorem R_X4_shutOnes (en : En) (N : Nat) (oi : Nat) (hoi : oi < 5) (σ : Sg) : RR en ExT mi_X4_shutOnes evI 0 [(0, .ref (ad en 7 oi 0))] [] σ (f_X4_shutOnes N oi σ) := by
  unfold f_X4_shutOnes
  refine r_iconst (pc := 0) dX4_shutOnes_0 kc_iconst_0 ?_
  refine r_istore_n (pc := 1) [(1, .int (0 : Int32)), (0, .ref (ad en 7 oi 0))] dX4_shutOnes_1 rfl (by decide) rfl ?_
  refine r_iconst (pc := 2) dX4_shutOnes_2 kc_iconst_0 ?_
  refine r_istore_n (pc := 3) [(2, .int (0 : Int32)), (1, .int (0 : Int32)), (0, .ref (ad en 7 oi 0))] dX4_shutOnes_3 rfl (by decide) rfl ?_
  refine r_sub [2, 1, 0] rfl (RL_X4_shutOnes_4 en N oi σ hoi (fun v1_1 v2_1 => ?_) N (0 : Int32) (0 : Int32))
  refine r_iload_n (pc := 36) 0 dX4_shutOnes_36 rfl rfl ?_
  exact r_iret (pc := 37) rfl dX4_shutOnes_37
theorem ok_X4_shutOnes : yOk yX4_shutOnes cX4_shutOnes 3 (some .int) := ⟨in_lwG (by decide +kernel) rfl, in_lwG (by decide +kernel) rfl, by decide, by decide, by decide⟩
theorem k_X4_shutOnes {en : En} {Ex : (Nat → Prop) → State → Prop} {mi : Mi} {α : Type} {ev : α → Option Value × Sg} {pc index : Nat} {lv : List (Nat × Value)} {rest : List Value} {σ : Sg} {N : Nat} {k : (Int32 × Sg) → Option α} {oi : Nat} (hlink : Cond.methodLink mi.1 index yX4_shutOnes ∈ lwG) (hroom : 1 + 1 ≤ mi.2.2.2.2) (hcat : (rest.map fun v => v.category).sum ≤ 8) (hd : decode mi.2.1 pc = .ok (.invokevirtual index, 3)) (hoi : oi < 5) (h : ∀ w : Int32 × Sg, f_X4_shutOnes N oi σ = some w → RR en Ex mi ev (pc + 3) lv (.int w.1 :: rest) w.2 (k w)) : RR en Ex mi ev pc lv (.ref (ad en 7 oi 0) :: rest) σ ((f_X4_shutOnes N oi σ).bind k) :=
  r_callV (n := 0) [] ok_X4_shutOnes hlink (in_lwG (by decide +kernel) rfl) (in_lwG (by decide +kernel) rfl) (by decide +kernel) rfl hroom (by decide) (o7 hoi) rfl rfl hcat (R_X4_shutOnes en N oi hoi σ) (Nat.le_of_ble_eq_true rfl) hd h
set_option maxHeartbeats 4000000 in
theorem R_X4_howManyOpen (en : En) (N : Nat) (oi : Nat) (hoi : oi < 5) (σ : Sg) : RR en ExT mi_X4_howManyOpen evI 0 [(0, .ref (ad en 7 oi 0))] [] σ (f_X4_howManyOpen N oi σ) := by
  unfold f_X4_howManyOpen
  refine r_aload_n (pc := 0) 0 dX4_howManyOpen_0 rfl rfl ?_
  refine g_X4_size (pc := 1) hoi lf_RX4_17 dX4_howManyOpen_1 ?_
  refine r_aload_n (pc := 4) 0 dX4_howManyOpen_4 rfl rfl ?_
  refine k_X4_shutOnes (pc := 5) lm_RX4_88  (by decide) (Nat.le_of_ble_eq_true rfl) dX4_howManyOpen_5 hoi (fun w1 h1 => ?_)
  refine k_J6_bitCount_0f7a4 (pc := 8) lm_RX4_84  (by decide) (Nat.le_of_ble_eq_true rfl) dX4_howManyOpen_8 (fun w2 h2 => ?_)
  refine r_isub (pc := 11) dX4_howManyOpen_11 ?_
  exact r_iret (pc := 12) rfl dX4_howManyOpen_12
theorem ok_X4_howManyOpen : yOk yX4_howManyOpen cX4_howManyOpen 1 (some .int) := ⟨in_lwG (by decide +kernel) rfl, in_lwG (by decide +kernel) rfl, by decide, by decide, by decide⟩
theorem k_X4_howManyOpen {en : En} {Ex : (Nat → Prop) → State → Prop} {mi : Mi} {α : Type} {ev : α → Option Value × Sg} {pc index : Nat} {lv : List (Nat × Value)} {rest : List Value} {σ : Sg} {N : Nat} {k : (Int32 × Sg) → Option α} {oi : Nat} (hlink : Cond.methodLink mi.1 index yX4_howManyOpen ∈ lwG) (hroom : 2 + 1 ≤ mi.2.2.2.2) (hcat : (rest.map fun v => v.category).sum ≤ 8) (hd : decode mi.2.1 pc = .ok (.invokevirtual index, 3)) (hoi : oi < 5) (h : ∀ w : Int32 × Sg, f_X4_howManyOpen N oi σ = some w → RR en Ex mi ev (pc + 3) lv (.int w.1 :: rest) w.2 (k w)) : RR en Ex mi ev pc lv (.ref (ad en 7 oi 0) :: rest) σ ((f_X4_howManyOpen N oi σ).bind k) :=
  r_callV (n := 0) [] ok_X4_howManyOpen hlink (in_lwG (by decide +kernel) rfl) (in_lwG (by decide +kernel) rfl) (by decide +kernel) rfl hroom (by decide) (o7 hoi) rfl rfl hcat (R_X4_howManyOpen en N oi hoi σ) (Nat.le_of_ble_eq_true rfl) hd h
set_option maxHeartbeats 4000000 in
theorem RL_X4_howManyOver_16 (en : En) (N : Nat) {k : Int32 → Int32 → Sg → Option (Int32 × Sg)} (a0i : Nat) (a2 : Int32) (a3 : Int32) (ha0i : a0i < 5) (hk : ∀ (v4 : Int32) (v5 : Int32) (σ : Sg), RR en ExT mi_X4_howManyOver evI 82 [(4, .int v4)] [] σ (k v4 v5 σ)) : ∀ (n : Nat) (v4 : Int32) (v5 : Int32) (σ : Sg), RR en ExT mi_X4_howManyOver evI 16 [(0, .ref (ad en 7 a0i 0)), (2, .int a2), (3, .int a3), (4, .int v4), (5, .int v5)] [] σ (L_X4_howManyOver_16 N k a0i a2 a3 n v4 v5 σ) := by
  intro n
  induction n with
  | zero => intro v4 v5 σ; exact r_none
  | succ n ih =>
    intro v4 v5 σ
    rw [L_X4_howManyOver_16_s]
    refine r_iload (pc := 16) 4 dX4_howManyOver_16 rfl ?_
    refine r_aload_n (pc := 18) 0 dX4_howManyOver_18 rfl rfl ?_
    refine g_X4_size (pc := 19) ha0i lf_RX4_17 dX4_howManyOver_19 ?_
    refine r_icmp_ge (pc := 22) 82 dX4_howManyOver_22 (by decide) (fun h3 => ?_) (fun h3 => ?_)
    · exact r_sub [3] rfl (hk v4 v5 σ)
    · refine r_iload (pc := 25) 3 dX4_howManyOver_25 rfl ?_
      refine r_aload_n (pc := 27) 0 dX4_howManyOver_27 rfl rfl ?_
      refine g_X4_panes (pc := 28) ha0i lf_RX4_11 dX4_howManyOver_28 ?_
      refine r_iload (pc := 31) 4 dX4_howManyOver_31 rfl ?_
      refine r_aald (pc := 33) (n := 7) (k := 7) (o8 ha0i) rfl rfl rfl dX4_howManyOver_33 (fun h4 => ?_)
      refine g_X2_open (pc := 34) ha0i (ib_lt h4) lf_RX4_40 dX4_howManyOver_34 ?_
      refine r_if_eq (pc := 37) 72 dX4_howManyOver_37 (by decide) (fun h5 => ?_) (fun h5 => ?_)
      · refine r_iconst (pc := 72) dX4_howManyOver_72 kc_iconst_0 ?_
        refine r_iadd (pc := 73) dX4_howManyOver_73 ?_
        refine r_istore (pc := 74) [(4, .int (v4 + (0 : Int32))), (0, .ref (ad en 7 a0i 0)), (2, .int a2), (3, .int a3), (5, .int v5)] dX4_howManyOver_74 (by decide) rfl ?_
        refine r_iinc (pc := 76) 4 [(5, .int (v5 + (1 : Int32))), (4, .int (v4 + (0 : Int32))), (0, .ref (ad en 7 a0i 0)), (2, .int a2), (3, .int a3)] dX4_howManyOver_76 rfl rfl (by decide) rfl ?_
        refine r_goto (pc := 79) 16 dX4_howManyOver_79 (by decide) ?_
        exact r_sub [2, 3, 4, 1, 0] rfl (ih (v4 + (0 : Int32)) (v5 + (1 : Int32)) σ)
      · refine r_aload_n (pc := 40) 0 dX4_howManyOver_40 rfl rfl ?_
        refine g_X4_panes (pc := 41) ha0i lf_RX4_11 dX4_howManyOver_41 ?_
        refine r_iload (pc := 44) 4 dX4_howManyOver_44 rfl ?_
        refine r_aald (pc := 46) (n := 7) (k := 7) (o8 ha0i) rfl rfl rfl dX4_howManyOver_46 (fun h6 => ?_)
        refine k_X2_rank (pc := 47) lm_RX4_63  (by decide) (Nat.le_of_ble_eq_true rfl) dX4_howManyOver_47 ha0i (ib_lt h6) (fun w2 h7 => ?_)
        refine r_iload_n (pc := 50) 2 dX4_howManyOver_50 rfl rfl ?_
        refine r_icmp_le (pc := 51) 72 dX4_howManyOver_51 (by decide) (fun h8 => ?_) (fun h8 => ?_)
        · refine r_iconst (pc := 72) dX4_howManyOver_72 kc_iconst_0 ?_
          refine r_iadd (pc := 73) dX4_howManyOver_73 ?_
          refine r_istore (pc := 74) [(4, .int (v4 + (0 : Int32))), (0, .ref (ad en 7 a0i 0)), (2, .int a2), (3, .int a3), (5, .int v5)] dX4_howManyOver_74 (by decide) rfl ?_
          refine r_iinc (pc := 76) 4 [(5, .int (v5 + (1 : Int32))), (4, .int (v4 + (0 : Int32))), (0, .ref (ad en 7 a0i 0)), (2, .int a2), (3, .int a3)] dX4_howManyOver_76 rfl rfl (by decide) rfl ?_
          refine r_goto (pc := 79) 16 dX4_howManyOver_79 (by decide) ?_
          exact r_sub [2, 3, 4, 1, 0] rfl (ih (v4 + (0 : Int32)) (v5 + (1 : Int32)) w2.2)
        · refine r_aload_n (pc := 54) 0 dX4_howManyOver_54 rfl rfl ?_
          refine g_X4_panes (pc := 55) ha0i lf_RX4_11 dX4_howManyOver_55 ?_
          refine r_iload (pc := 58) 4 dX4_howManyOver_58 rfl ?_
          refine r_aald (pc := 60) (n := 7) (k := 7) (o8 ha0i) rfl rfl rfl dX4_howManyOver_60 (fun h9 => ?_)
          refine r_iload_n (pc := 61) 1 dX4_howManyOver_61 rfl rfl ?_
          refine k_X2_hasCell (pc := 62) lm_RX4_67  (by decide) (Nat.le_of_ble_eq_true rfl) dX4_howManyOver_62 ha0i (ib_lt h9) (fun w3 h10 => ?_)
          refine r_if_eq (pc := 65) 72 dX4_howManyOver_65 (by decide) (fun h11 => ?_) (fun h11 => ?_)
          · refine r_iconst (pc := 72) dX4_howManyOver_72 kc_iconst_0 ?_
            refine r_iadd (pc := 73) dX4_howManyOver_73 ?_
            refine r_istore (pc := 74) [(4, .int (v4 + (0 : Int32))), (0, .ref (ad en 7 a0i 0)), (2, .int a2), (3, .int a3), (5, .int v5)] dX4_howManyOver_74 (by decide) rfl ?_
            refine r_iinc (pc := 76) 4 [(5, .int (v5 + (1 : Int32))), (4, .int (v4 + (0 : Int32))), (0, .ref (ad en 7 a0i 0)), (2, .int a2), (3, .int a3)] dX4_howManyOver_76 rfl rfl (by decide) rfl ?_
            refine r_goto (pc := 79) 16 dX4_howManyOver_79 (by decide) ?_
            exact r_sub [2, 3, 4, 1, 0] rfl (ih (v4 + (0 : Int32)) (v5 + (1 : Int32)) w3.2)
          · refine r_iconst (pc := 68) dX4_howManyOver_68 kc_iconst_1 ?_
            refine r_goto (pc := 69) 73 dX4_howManyOver_69 (by decide) ?_
            refine r_iadd (pc := 73) dX4_howManyOver_73 ?_
            refine r_istore (pc := 74) [(4, .int (v4 + (1 : Int32))), (0, .ref (ad en 7 a0i 0)), (2, .int a2), (3, .int a3), (5, .int v5)] dX4_howManyOver_74 (by decide) rfl ?_
            refine r_iinc (pc := 76) 4 [(5, .int (v5 + (1 : Int32))), (4, .int (v4 + (1 : Int32))), (0, .ref (ad en 7 a0i 0)), (2, .int a2), (3, .int a3)] dX4_howManyOver_76 rfl rfl (by decide) rfl ?_
            refine r_goto (pc := 79) 16 dX4_howManyOver_79 (by decide) ?_
            exact r_sub [2, 3, 4, 1, 0] rfl (ih (v4 + (1 : Int32)) (v5 + (1 : Int32)) w3.2)
set_option maxHeartbeats 4000000 in
theorem R_X4_howManyOver (en : En) (N : Nat) (oi : Nat) (p0 : Int32) (p1 : Int32) (hoi : oi < 5) (σ : Sg) : RR en ExT mi_X4_howManyOver evI 0 [(0, .ref (ad en 7 oi 0)), (1, .int p0), (2, .int p1)] [] σ (f_X4_howManyOver N oi p0 p1 σ) := by
  unfold f_X4_howManyOver
  refine r_aload_n (pc := 0) 0 dX4_howManyOver_0 rfl rfl ?_
  refine g_X4_panes (pc := 1) hoi lf_RX4_11 dX4_howManyOver_1 ?_
  refine r_iload_n (pc := 4) 1 dX4_howManyOver_4 rfl rfl ?_
  refine r_aald (pc := 5) (n := 7) (k := 7) (o8 hoi) rfl rfl rfl dX4_howManyOver_5 (fun h1 => ?_)
  refine k_X2_rank (pc := 6) lm_RX4_63  (by decide) (Nat.le_of_ble_eq_true rfl) dX4_howManyOver_6 hoi (ib_lt h1) (fun w1 h2 => ?_)
  refine r_istore_n (pc := 9) [(3, .int w1.1), (0, .ref (ad en 7 oi 0)), (1, .int p0), (2, .int p1)] dX4_howManyOver_9 rfl (by decide) rfl ?_
  refine r_iconst (pc := 10) dX4_howManyOver_10 kc_iconst_0 ?_
  refine r_istore (pc := 11) [(4, .int (0 : Int32)), (3, .int w1.1), (0, .ref (ad en 7 oi 0)), (1, .int p0), (2, .int p1)] dX4_howManyOver_11 (by decide) rfl ?_
  refine r_iconst (pc := 13) dX4_howManyOver_13 kc_iconst_0 ?_
  refine r_istore (pc := 14) [(5, .int (0 : Int32)), (4, .int (0 : Int32)), (3, .int w1.1), (0, .ref (ad en 7 oi 0)), (1, .int p0), (2, .int p1)] dX4_howManyOver_14 (by decide) rfl ?_
  refine r_sub [3, 5, 2, 1, 0] rfl (RL_X4_howManyOver_16 en N oi p1 w1.1 hoi (fun v4_4 v5_4 σ_4 => ?_) N (0 : Int32) (0 : Int32) w1.2)
  refine r_iload (pc := 82) 0 dX4_howManyOver_82 rfl ?_
  exact r_iret (pc := 84) rfl dX4_howManyOver_84
theorem ok_X4_howManyOver : yOk yX4_howManyOver cX4_howManyOver 6 (some .int) := ⟨in_lwG (by decide +kernel) rfl, in_lwG (by decide +kernel) rfl, by decide, by decide, by decide⟩
theorem k_X4_howManyOver {en : En} {Ex : (Nat → Prop) → State → Prop} {mi : Mi} {α : Type} {ev : α → Option Value × Sg} {pc index : Nat} {lv : List (Nat × Value)} {rest : List Value} {σ : Sg} {N : Nat} {k : (Int32 × Sg) → Option α} {oi : Nat} {p0 : Int32} {p1 : Int32} (hlink : Cond.methodLink mi.1 index yX4_howManyOver ∈ lwG) (hroom : 2 + 1 ≤ mi.2.2.2.2) (hcat : (rest.map fun v => v.category).sum ≤ 8) (hd : decode mi.2.1 pc = .ok (.invokevirtual index, 3)) (hoi : oi < 5) (h : ∀ w : Int32 × Sg, f_X4_howManyOver N oi p0 p1 σ = some w → RR en Ex mi ev (pc + 3) lv (.int w.1 :: rest) w.2 (k w)) : RR en Ex mi ev pc lv (.int p1 :: .int p0 :: .ref (ad en 7 oi 0) :: rest) σ ((f_X4_howManyOver N oi p0 p1 σ).bind k) :=
  r_callV (n := 2) [.int p0, .int p1] ok_X4_howManyOver hlink (in_lwG (by decide +kernel) rfl) (in_lwG (by decide +kernel) rfl) (by decide +kernel) rfl hroom (by decide) (o7 hoi) rfl rfl hcat (R_X4_howManyOver en N oi p0 p1 hoi σ) (Nat.le_of_ble_eq_true rfl) hd h
set_option maxHeartbeats 4000000 in
theorem R_X4_shownNow (en : En) (N : Nat) (oi : Nat) (p0 : Int32) (hoi : oi < 5) (σ : Sg) : RR en ExT mi_X4_shownNow evI 0 [(0, .ref (ad en 7 oi 0)), (1, .int p0)] [] σ (f_X4_shownNow N oi p0 σ) := by
  unfold f_X4_shownNow
  refine r_aload_n (pc := 0) 0 dX4_shownNow_0 rfl rfl ?_
  refine r_iload_n (pc := 1) 1 dX4_shownNow_1 rfl rfl ?_
  refine r_aload_n (pc := 2) 0 dX4_shownNow_2 rfl rfl ?_
  refine r_iload_n (pc := 3) 1 dX4_shownNow_3 rfl rfl ?_
  refine k_X4_after (pc := 4) lm_RX4_32  (by decide) (Nat.le_of_ble_eq_true rfl) dX4_shownNow_4 hoi (fun w1 h1 => ?_)
  refine k_X4_shown (pc := 7) lm_RX4_36  (by decide) (Nat.le_of_ble_eq_true rfl) dX4_shownNow_7 hoi (fun w2 h2 => ?_)
  exact r_iret (pc := 10) rfl dX4_shownNow_10
theorem ok_X4_shownNow : yOk yX4_shownNow cX4_shownNow 2 (some .int) := ⟨in_lwG (by decide +kernel) rfl, in_lwG (by decide +kernel) rfl, by decide, by decide, by decide⟩
theorem k_X4_shownNow {en : En} {Ex : (Nat → Prop) → State → Prop} {mi : Mi} {α : Type} {ev : α → Option Value × Sg} {pc index : Nat} {lv : List (Nat × Value)} {rest : List Value} {σ : Sg} {N : Nat} {k : (Int32 × Sg) → Option α} {oi : Nat} {p0 : Int32} (hlink : Cond.methodLink mi.1 index yX4_shownNow ∈ lwG) (hroom : 3 + 1 ≤ mi.2.2.2.2) (hcat : (rest.map fun v => v.category).sum ≤ 8) (hd : decode mi.2.1 pc = .ok (.invokevirtual index, 3)) (hoi : oi < 5) (h : ∀ w : Int32 × Sg, f_X4_shownNow N oi p0 σ = some w → RR en Ex mi ev (pc + 3) lv (.int w.1 :: rest) w.2 (k w)) : RR en Ex mi ev pc lv (.int p0 :: .ref (ad en 7 oi 0) :: rest) σ ((f_X4_shownNow N oi p0 σ).bind k) :=
  r_callV (n := 1) [.int p0] ok_X4_shownNow hlink (in_lwG (by decide +kernel) rfl) (in_lwG (by decide +kernel) rfl) (by decide +kernel) rfl hroom (by decide) (o7 hoi) rfl rfl hcat (R_X4_shownNow en N oi p0 hoi σ) (Nat.le_of_ble_eq_true rfl) hd h
set_option maxHeartbeats 4000000 in
theorem RL_X4_unseenOpenOnes_4 (en : En) (N : Nat) {k : Int32 → Int32 → Sg → Option (Int32 × Sg)} (a0i : Nat) (ha0i : a0i < 5) (hk : ∀ (v1 : Int32) (v2 : Int32) (σ : Sg), RR en ExT mi_X4_unseenOpenOnes evI 44 [(1, .int v1)] [] σ (k v1 v2 σ)) : ∀ (n : Nat) (v1 : Int32) (v2 : Int32) (σ : Sg), RR en ExT mi_X4_unseenOpenOnes evI 4 [(0, .ref (ad en 7 a0i 0)), (1, .int v1), (2, .int v2)] [] σ (L_X4_unseenOpenOnes_4 N k a0i n v1 v2 σ) := by
  intro n
  induction n with
  | zero => intro v1 v2 σ; exact r_none
  | succ n ih =>
    intro v1 v2 σ
    rw [L_X4_unseenOpenOnes_4_s]
    refine r_iload_n (pc := 4) 2 dX4_unseenOpenOnes_4 rfl rfl ?_
    refine r_aload_n (pc := 5) 0 dX4_unseenOpenOnes_5 rfl rfl ?_
    refine g_X4_size (pc := 6) ha0i lf_RX4_17 dX4_unseenOpenOnes_6 ?_
    refine r_icmp_ge (pc := 9) 44 dX4_unseenOpenOnes_9 (by decide) (fun h1 => ?_) (fun h1 => ?_)
    · exact r_sub [1] rfl (hk v1 v2 σ)
    · refine r_aload_n (pc := 12) 0 dX4_unseenOpenOnes_12 rfl rfl ?_
      refine g_X4_panes (pc := 13) ha0i lf_RX4_11 dX4_unseenOpenOnes_13 ?_
      refine r_iload_n (pc := 16) 2 dX4_unseenOpenOnes_16 rfl rfl ?_
      refine r_aald (pc := 17) (n := 7) (k := 7) (o8 ha0i) rfl rfl rfl dX4_unseenOpenOnes_17 (fun h2 => ?_)
      refine g_X2_open (pc := 18) ha0i (ib_lt h2) lf_RX4_40 dX4_unseenOpenOnes_18 ?_
      refine r_if_eq (pc := 21) 38 dX4_unseenOpenOnes_21 (by decide) (fun h3 => ?_) (fun h3 => ?_)
      · refine r_iinc (pc := 38) 2 [(2, .int (v2 + (1 : Int32))), (0, .ref (ad en 7 a0i 0)), (1, .int v1)] dX4_unseenOpenOnes_38 rfl rfl (by decide) rfl ?_
        refine r_goto (pc := 41) 4 dX4_unseenOpenOnes_41 (by decide) ?_
        exact r_sub [1, 2, 0] rfl (ih v1 (v2 + (1 : Int32)) σ)
      · refine r_aload_n (pc := 24) 0 dX4_unseenOpenOnes_24 rfl rfl ?_
        refine r_iload_n (pc := 25) 2 dX4_unseenOpenOnes_25 rfl rfl ?_
        refine k_X4_shownNow (pc := 26) lm_RX4_75  (by decide) (Nat.le_of_ble_eq_true rfl) dX4_unseenOpenOnes_26 ha0i (fun w1 h4 => ?_)
        refine r_if_ne (pc := 29) 38 dX4_unseenOpenOnes_29 (by decide) (fun h5 => ?_) (fun h5 => ?_)
        · refine r_iload_n (pc := 32) 1 dX4_unseenOpenOnes_32 rfl rfl ?_
          refine r_iconst (pc := 33) dX4_unseenOpenOnes_33 kc_iconst_1 ?_
          refine r_iload_n (pc := 34) 2 dX4_unseenOpenOnes_34 rfl rfl ?_
          refine r_ishl (pc := 35) dX4_unseenOpenOnes_35 ?_
          refine r_ior (pc := 36) dX4_unseenOpenOnes_36 ?_
          refine r_istore_n (pc := 37) [(1, .int (v1 ||| ((1 : Int32) <<< (v2 &&& 31)))), (0, .ref (ad en 7 a0i 0)), (2, .int v2)] dX4_unseenOpenOnes_37 rfl (by decide) rfl ?_
          refine r_iinc (pc := 38) 2 [(2, .int (v2 + (1 : Int32))), (1, .int (v1 ||| ((1 : Int32) <<< (v2 &&& 31)))), (0, .ref (ad en 7 a0i 0))] dX4_unseenOpenOnes_38 rfl rfl (by decide) rfl ?_
          refine r_goto (pc := 41) 4 dX4_unseenOpenOnes_41 (by decide) ?_
          exact r_sub [2, 1, 0] rfl (ih (v1 ||| ((1 : Int32) <<< (v2 &&& 31))) (v2 + (1 : Int32)) w1.2)
        · refine r_iinc (pc := 38) 2 [(2, .int (v2 + (1 : Int32))), (0, .ref (ad en 7 a0i 0)), (1, .int v1)] dX4_unseenOpenOnes_38 rfl rfl (by decide) rfl ?_
          refine r_goto (pc := 41) 4 dX4_unseenOpenOnes_41 (by decide) ?_
          exact r_sub [1, 2, 0] rfl (ih v1 (v2 + (1 : Int32)) w1.2)
set_option maxHeartbeats 4000000 in
theorem R_X4_unseenOpenOnes (en : En) (N : Nat) (oi : Nat) (hoi : oi < 5) (σ : Sg) : RR en ExT mi_X4_unseenOpenOnes evI 0 [(0, .ref (ad en 7 oi 0))] [] σ (f_X4_unseenOpenOnes N oi σ) := by
  unfold f_X4_unseenOpenOnes
  refine r_iconst (pc := 0) dX4_unseenOpenOnes_0 kc_iconst_0 ?_
  refine r_istore_n (pc := 1) [(1, .int (0 : Int32)), (0, .ref (ad en 7 oi 0))] dX4_unseenOpenOnes_1 rfl (by decide) rfl ?_
  refine r_iconst (pc := 2) dX4_unseenOpenOnes_2 kc_iconst_0 ?_
  refine r_istore_n (pc := 3) [(2, .int (0 : Int32)), (1, .int (0 : Int32)), (0, .ref (ad en 7 oi 0))] dX4_unseenOpenOnes_3 rfl (by decide) rfl ?_
  refine r_sub [2, 1, 0] rfl (RL_X4_unseenOpenOnes_4 en N oi hoi (fun v1_2 v2_2 σ_2 => ?_) N (0 : Int32) (0 : Int32) σ)
  refine r_iload_n (pc := 44) 0 dX4_unseenOpenOnes_44 rfl rfl ?_
  exact r_iret (pc := 45) rfl dX4_unseenOpenOnes_45
theorem ok_X4_unseenOpenOnes : yOk yX4_unseenOpenOnes cX4_unseenOpenOnes 3 (some .int) := ⟨in_lwG (by decide +kernel) rfl, in_lwG (by decide +kernel) rfl, by decide, by decide, by decide⟩
theorem k_X4_unseenOpenOnes {en : En} {Ex : (Nat → Prop) → State → Prop} {mi : Mi} {α : Type} {ev : α → Option Value × Sg} {pc index : Nat} {lv : List (Nat × Value)} {rest : List Value} {σ : Sg} {N : Nat} {k : (Int32 × Sg) → Option α} {oi : Nat} (hlink : Cond.methodLink mi.1 index yX4_unseenOpenOnes ∈ lwG) (hroom : 4 + 1 ≤ mi.2.2.2.2) (hcat : (rest.map fun v => v.category).sum ≤ 8) (hd : decode mi.2.1 pc = .ok (.invokevirtual index, 3)) (hoi : oi < 5) (h : ∀ w : Int32 × Sg, f_X4_unseenOpenOnes N oi σ = some w → RR en Ex mi ev (pc + 3) lv (.int w.1 :: rest) w.2 (k w)) : RR en Ex mi ev pc lv (.ref (ad en 7 oi 0) :: rest) σ ((f_X4_unseenOpenOnes N oi σ).bind k) :=
  r_callV (n := 0) [] ok_X4_unseenOpenOnes hlink (in_lwG (by decide +kernel) rfl) (in_lwG (by decide +kernel) rfl) (by decide +kernel) rfl hroom (by decide) (o7 hoi) rfl rfl hcat (R_X4_unseenOpenOnes en N oi hoi σ) (Nat.le_of_ble_eq_true rfl) hd h
set_option maxHeartbeats 4000000 in
theorem R_X4_howManySeen (en : En) (N : Nat) (oi : Nat) (hoi : oi < 5) (σ : Sg) : RR en ExT mi_X4_howManySeen evI 0 [(0, .ref (ad en 7 oi 0))] [] σ (f_X4_howManySeen N oi σ) := by
  unfold f_X4_howManySeen
  refine r_aload_n (pc := 0) 0 dX4_howManySeen_0 rfl rfl ?_
  refine k_X4_howManyOpen (pc := 1) lm_RX4_78  (by decide) (Nat.le_of_ble_eq_true rfl) dX4_howManySeen_1 hoi (fun w1 h1 => ?_)
  refine r_aload_n (pc := 4) 0 dX4_howManySeen_4 rfl rfl ?_
  refine k_X4_unseenOpenOnes (pc := 5) lm_RX4_81  (by decide) (Nat.le_of_ble_eq_true rfl) dX4_howManySeen_5 hoi (fun w2 h2 => ?_)
  refine k_J6_bitCount_0f7a4 (pc := 8) lm_RX4_84  (by decide) (Nat.le_of_ble_eq_true rfl) dX4_howManySeen_8 (fun w3 h3 => ?_)
  refine r_isub (pc := 11) dX4_howManySeen_11 ?_
  exact r_iret (pc := 12) rfl dX4_howManySeen_12
theorem ok_X4_howManySeen : yOk yX4_howManySeen cX4_howManySeen 1 (some .int) := ⟨in_lwG (by decide +kernel) rfl, in_lwG (by decide +kernel) rfl, by decide, by decide, by decide⟩
theorem k_X4_howManySeen {en : En} {Ex : (Nat → Prop) → State → Prop} {mi : Mi} {α : Type} {ev : α → Option Value × Sg} {pc index : Nat} {lv : List (Nat × Value)} {rest : List Value} {σ : Sg} {N : Nat} {k : (Int32 × Sg) → Option α} {oi : Nat} (hlink : Cond.methodLink mi.1 index yX4_howManySeen ∈ lwG) (hroom : 5 + 1 ≤ mi.2.2.2.2) (hcat : (rest.map fun v => v.category).sum ≤ 8) (hd : decode mi.2.1 pc = .ok (.invokevirtual index, 3)) (hoi : oi < 5) (h : ∀ w : Int32 × Sg, f_X4_howManySeen N oi σ = some w → RR en Ex mi ev (pc + 3) lv (.int w.1 :: rest) w.2 (k w)) : RR en Ex mi ev pc lv (.ref (ad en 7 oi 0) :: rest) σ ((f_X4_howManySeen N oi σ).bind k) :=
  r_callV (n := 0) [] ok_X4_howManySeen hlink (in_lwG (by decide +kernel) rfl) (in_lwG (by decide +kernel) rfl) (by decide +kernel) rfl hroom (by decide) (o7 hoi) rfl rfl hcat (R_X4_howManySeen en N oi hoi σ) (Nat.le_of_ble_eq_true rfl) hd h
set_option maxHeartbeats 4000000 in
theorem RL_X4_inTheWayOf_12 (en : En) (N : Nat) {k : Int32 → Int32 → Sg → Option (Int32 × Sg)} (a0i : Nat) (a2i : Nat) (a2j : Nat) (ha0i : a0i < 5) (ha2i : a2i < 5) (ha2j : a2j < 7) (hk : ∀ (v3 : Int32) (v4 : Int32) (σ : Sg), RR en ExT mi_X4_inTheWayOf evI 78 [(3, .int v3)] [] σ (k v3 v4 σ)) : ∀ (n : Nat) (v3 : Int32) (v4 : Int32) (σ : Sg), RR en ExT mi_X4_inTheWayOf evI 12 [(0, .ref (ad en 7 a0i 0)), (2, .ref (ad en 9 a2i a2j)), (3, .int v3), (4, .int v4)] [] σ (L_X4_inTheWayOf_12 N k a0i a2i a2j n v3 v4 σ) := by
  intro n
  induction n with
  | zero => intro v3 v4 σ; exact r_none
  | succ n ih =>
    intro v3 v4 σ
    rw [L_X4_inTheWayOf_12_s]
    refine r_iload (pc := 12) 3 dX4_inTheWayOf_12 rfl ?_
    refine r_aload_n (pc := 14) 0 dX4_inTheWayOf_14 rfl rfl ?_
    refine g_X4_size (pc := 15) ha0i lf_RX4_17 dX4_inTheWayOf_15 ?_
    refine r_icmp_ge (pc := 18) 78 dX4_inTheWayOf_18 (by decide) (fun h2 => ?_) (fun h2 => ?_)
    · exact r_sub [2] rfl (hk v3 v4 σ)
    · refine r_aload_n (pc := 21) 0 dX4_inTheWayOf_21 rfl rfl ?_
      refine g_X4_panes (pc := 22) ha0i lf_RX4_11 dX4_inTheWayOf_22 ?_
      refine r_iload (pc := 25) 3 dX4_inTheWayOf_25 rfl ?_
      refine r_aald (pc := 27) (n := 7) (k := 7) (o8 ha0i) rfl rfl rfl dX4_inTheWayOf_27 (fun h3 => ?_)
      refine g_X2_open (pc := 28) ha0i (ib_lt h3) lf_RX4_40 dX4_inTheWayOf_28 ?_
      refine r_if_eq (pc := 31) 72 dX4_inTheWayOf_31 (by decide) (fun h4 => ?_) (fun h4 => ?_)
      · refine r_iinc (pc := 72) 3 [(4, .int (v4 + (1 : Int32))), (0, .ref (ad en 7 a0i 0)), (2, .ref (ad en 9 a2i a2j)), (3, .int v3)] dX4_inTheWayOf_72 rfl rfl (by decide) rfl ?_
        refine r_goto (pc := 75) 12 dX4_inTheWayOf_75 (by decide) ?_
        exact r_sub [1, 2, 3, 0] rfl (ih v3 (v4 + (1 : Int32)) σ)
      · refine r_aload_n (pc := 34) 0 dX4_inTheWayOf_34 rfl rfl ?_
        refine g_X4_panes (pc := 35) ha0i lf_RX4_11 dX4_inTheWayOf_35 ?_
        refine r_iload (pc := 38) 3 dX4_inTheWayOf_38 rfl ?_
        refine r_aald (pc := 40) (n := 7) (k := 7) (o8 ha0i) rfl rfl rfl dX4_inTheWayOf_40 (fun h5 => ?_)
        refine k_X2_rank (pc := 41) lm_RX4_63  (by decide) (Nat.le_of_ble_eq_true rfl) dX4_inTheWayOf_41 ha0i (ib_lt h5) (fun w1 h6 => ?_)
        refine r_aload_n (pc := 44) 1 dX4_inTheWayOf_44 rfl rfl ?_
        refine k_X2_rank (pc := 45) lm_RX4_63  (by decide) (Nat.le_of_ble_eq_true rfl) dX4_inTheWayOf_45 ha2i ha2j (fun w2 h7 => ?_)
        refine r_icmp_le (pc := 48) 72 dX4_inTheWayOf_48 (by decide) (fun h8 => ?_) (fun h8 => ?_)
        · refine r_iinc (pc := 72) 3 [(4, .int (v4 + (1 : Int32))), (0, .ref (ad en 7 a0i 0)), (2, .ref (ad en 9 a2i a2j)), (3, .int v3)] dX4_inTheWayOf_72 rfl rfl (by decide) rfl ?_
          refine r_goto (pc := 75) 12 dX4_inTheWayOf_75 (by decide) ?_
          exact r_sub [1, 2, 3, 0] rfl (ih v3 (v4 + (1 : Int32)) w2.2)
        · refine r_aload_n (pc := 51) 1 dX4_inTheWayOf_51 rfl rfl ?_
          refine r_aload_n (pc := 52) 0 dX4_inTheWayOf_52 rfl rfl ?_
          refine g_X4_panes (pc := 53) ha0i lf_RX4_11 dX4_inTheWayOf_53 ?_
          refine r_iload (pc := 56) 3 dX4_inTheWayOf_56 rfl ?_
          refine r_aald (pc := 58) (n := 7) (k := 7) (o8 ha0i) rfl rfl rfl dX4_inTheWayOf_58 (fun h9 => ?_)
          refine k_X2_cellsShared (pc := 59) lm_RX4_71  (by decide) (Nat.le_of_ble_eq_true rfl) dX4_inTheWayOf_59 ha2i ha2j ha0i (ib_lt h9) (fun w3 h10 => ?_)
          refine r_if_le (pc := 62) 72 dX4_inTheWayOf_62 (by decide) (fun h11 => ?_) (fun h11 => ?_)
          · refine r_iinc (pc := 72) 3 [(4, .int (v4 + (1 : Int32))), (0, .ref (ad en 7 a0i 0)), (2, .ref (ad en 9 a2i a2j)), (3, .int v3)] dX4_inTheWayOf_72 rfl rfl (by decide) rfl ?_
            refine r_goto (pc := 75) 12 dX4_inTheWayOf_75 (by decide) ?_
            exact r_sub [1, 2, 3, 0] rfl (ih v3 (v4 + (1 : Int32)) w3.2)
          · refine r_iload_n (pc := 65) 2 dX4_inTheWayOf_65 rfl rfl ?_
            refine r_iconst (pc := 66) dX4_inTheWayOf_66 kc_iconst_1 ?_
            refine r_iload (pc := 67) 3 dX4_inTheWayOf_67 rfl ?_
            refine r_ishl (pc := 69) dX4_inTheWayOf_69 ?_
            refine r_ior (pc := 70) dX4_inTheWayOf_70 ?_
            refine r_istore_n (pc := 71) [(3, .int (v3 ||| ((1 : Int32) <<< (v4 &&& 31)))), (0, .ref (ad en 7 a0i 0)), (2, .ref (ad en 9 a2i a2j)), (4, .int v4)] dX4_inTheWayOf_71 rfl (by decide) rfl ?_
            refine r_iinc (pc := 72) 3 [(4, .int (v4 + (1 : Int32))), (3, .int (v3 ||| ((1 : Int32) <<< (v4 &&& 31)))), (0, .ref (ad en 7 a0i 0)), (2, .ref (ad en 9 a2i a2j))] dX4_inTheWayOf_72 rfl rfl (by decide) rfl ?_
            refine r_goto (pc := 75) 12 dX4_inTheWayOf_75 (by decide) ?_
            exact r_sub [2, 3, 1, 0] rfl (ih (v3 ||| ((1 : Int32) <<< (v4 &&& 31))) (v4 + (1 : Int32)) w3.2)
set_option maxHeartbeats 4000000 in
theorem R_X4_inTheWayOf (en : En) (N : Nat) (oi : Nat) (p0 : Int32) (hoi : oi < 5) (σ : Sg) : RR en ExT mi_X4_inTheWayOf evI 0 [(0, .ref (ad en 7 oi 0)), (1, .int p0)] [] σ (f_X4_inTheWayOf N oi p0 σ) := by
  unfold f_X4_inTheWayOf
  refine r_aload_n (pc := 0) 0 dX4_inTheWayOf_0 rfl rfl ?_
  refine g_X4_panes (pc := 1) hoi lf_RX4_11 dX4_inTheWayOf_1 ?_
  refine r_iload_n (pc := 4) 1 dX4_inTheWayOf_4 rfl rfl ?_
  refine r_aald (pc := 5) (n := 7) (k := 7) (o8 hoi) rfl rfl rfl dX4_inTheWayOf_5 (fun h1 => ?_)
  refine r_astore_n (pc := 6) [(2, .ref (ad en 9 oi p0.toNatClampNeg)), (0, .ref (ad en 7 oi 0)), (1, .int p0)] dX4_inTheWayOf_6 rfl (by decide) rfl ?_
  refine r_iconst (pc := 7) dX4_inTheWayOf_7 kc_iconst_0 ?_
  refine r_istore_n (pc := 8) [(3, .int (0 : Int32)), (2, .ref (ad en 9 oi p0.toNatClampNeg)), (0, .ref (ad en 7 oi 0)), (1, .int p0)] dX4_inTheWayOf_8 rfl (by decide) rfl ?_
  refine r_iconst (pc := 9) dX4_inTheWayOf_9 kc_iconst_0 ?_
  refine r_istore (pc := 10) [(4, .int (0 : Int32)), (3, .int (0 : Int32)), (2, .ref (ad en 9 oi p0.toNatClampNeg)), (0, .ref (ad en 7 oi 0)), (1, .int p0)] dX4_inTheWayOf_10 (by decide) rfl ?_
  refine r_sub [3, 2, 1, 0] rfl (RL_X4_inTheWayOf_12 en N oi oi p0.toNatClampNeg hoi hoi (ib_lt h1) (fun v3_4 v4_4 σ_4 => ?_) N (0 : Int32) (0 : Int32) σ)
  refine r_iload_n (pc := 78) 0 dX4_inTheWayOf_78 rfl rfl ?_
  exact r_iret (pc := 79) rfl dX4_inTheWayOf_79
theorem ok_X4_inTheWayOf : yOk yX4_inTheWayOf cX4_inTheWayOf 5 (some .int) := ⟨in_lwG (by decide +kernel) rfl, in_lwG (by decide +kernel) rfl, by decide, by decide, by decide⟩
theorem k_X4_inTheWayOf {en : En} {Ex : (Nat → Prop) → State → Prop} {mi : Mi} {α : Type} {ev : α → Option Value × Sg} {pc index : Nat} {lv : List (Nat × Value)} {rest : List Value} {σ : Sg} {N : Nat} {k : (Int32 × Sg) → Option α} {oi : Nat} {p0 : Int32} (hlink : Cond.methodLink mi.1 index yX4_inTheWayOf ∈ lwG) (hroom : 3 + 1 ≤ mi.2.2.2.2) (hcat : (rest.map fun v => v.category).sum ≤ 8) (hd : decode mi.2.1 pc = .ok (.invokevirtual index, 3)) (hoi : oi < 5) (h : ∀ w : Int32 × Sg, f_X4_inTheWayOf N oi p0 σ = some w → RR en Ex mi ev (pc + 3) lv (.int w.1 :: rest) w.2 (k w)) : RR en Ex mi ev pc lv (.int p0 :: .ref (ad en 7 oi 0) :: rest) σ ((f_X4_inTheWayOf N oi p0 σ).bind k) :=
  r_callV (n := 1) [.int p0] ok_X4_inTheWayOf hlink (in_lwG (by decide +kernel) rfl) (in_lwG (by decide +kernel) rfl) (by decide +kernel) rfl hroom (by decide) (o7 hoi) rfl rfl hcat (R_X4_inTheWayOf en N oi p0 hoi σ) (Nat.le_of_ble_eq_true rfl) hd h
set_option maxHeartbeats 4000000 in
theorem RL_X4_notTopAfter_4 (en : En) (N : Nat) {k : Int32 → Int32 → Option (Int32 × Sg)} (a0i : Nat) (a1 : Int32) (σ : Sg) (ha0i : a0i < 5) (hk : ∀ (v2 : Int32) (v3 : Int32), RR en ExT mi_X4_notTopAfter evI 60 [(2, .int v2)] [] σ (k v2 v3)) : ∀ (n : Nat) (v2 : Int32) (v3 : Int32), RR en ExT mi_X4_notTopAfter evI 4 [(0, .ref (ad en 7 a0i 0)), (1, .int a1), (2, .int v2), (3, .int v3)] [] σ (L_X4_notTopAfter_4 N k a0i a1 σ n v2 v3) := by
  intro n
  induction n with
  | zero => intro v2 v3; exact r_none
  | succ n ih =>
    intro v2 v3
    rw [L_X4_notTopAfter_4_s]
    refine r_iload_n (pc := 4) 3 dX4_notTopAfter_4 rfl rfl ?_
    refine r_aload_n (pc := 5) 0 dX4_notTopAfter_5 rfl rfl ?_
    refine g_X4_size (pc := 6) ha0i lf_RX4_17 dX4_notTopAfter_6 ?_
    refine r_icmp_ge (pc := 9) 60 dX4_notTopAfter_9 (by decide) (fun h1 => ?_) (fun h1 => ?_)
    · exact r_sub [2] rfl (hk v2 v3)
    · refine r_iload_n (pc := 12) 2 dX4_notTopAfter_12 rfl rfl ?_
      refine r_aload_n (pc := 13) 0 dX4_notTopAfter_13 rfl rfl ?_
      refine g_X4_panes (pc := 14) ha0i lf_RX4_11 dX4_notTopAfter_14 ?_
      refine r_iload_n (pc := 17) 3 dX4_notTopAfter_17 rfl rfl ?_
      refine r_aald (pc := 18) (n := 7) (k := 7) (o8 ha0i) rfl rfl rfl dX4_notTopAfter_18 (fun h2 => ?_)
      refine g_X2_place (pc := 19) ha0i (ib_lt h2) lf_RX4_26 dX4_notTopAfter_19 ?_
      refine r_aload_n (pc := 22) 0 dX4_notTopAfter_22 rfl rfl ?_
      refine g_X4_panes (pc := 23) ha0i lf_RX4_11 dX4_notTopAfter_23 ?_
      refine r_iload_n (pc := 26) 1 dX4_notTopAfter_26 rfl rfl ?_
      refine r_aald (pc := 27) (n := 7) (k := 7) (o8 ha0i) rfl rfl rfl dX4_notTopAfter_27 (fun h3 => ?_)
      refine g_X2_place (pc := 28) ha0i (ib_lt h3) lf_RX4_26 dX4_notTopAfter_28 ?_
      refine r_icmp_le (pc := 31) 51 dX4_notTopAfter_31 (by decide) (fun h4 => ?_) (fun h4 => ?_)
      · refine r_iconst (pc := 51) dX4_notTopAfter_51 kc_iconst_0 ?_
        refine r_iadd (pc := 52) dX4_notTopAfter_52 ?_
        refine r_istore_n (pc := 53) [(2, .int (v2 + (0 : Int32))), (0, .ref (ad en 7 a0i 0)), (1, .int a1), (3, .int v3)] dX4_notTopAfter_53 rfl (by decide) rfl ?_
        refine r_iinc (pc := 54) 3 [(3, .int (v3 + (1 : Int32))), (2, .int (v2 + (0 : Int32))), (0, .ref (ad en 7 a0i 0)), (1, .int a1)] dX4_notTopAfter_54 rfl rfl (by decide) rfl ?_
        refine r_goto (pc := 57) 4 dX4_notTopAfter_57 (by decide) ?_
        exact r_sub [2, 3, 1, 0] rfl (ih (v2 + (0 : Int32)) (v3 + (1 : Int32)))
      · refine r_aload_n (pc := 34) 0 dX4_notTopAfter_34 rfl rfl ?_
        refine g_X4_panes (pc := 35) ha0i lf_RX4_11 dX4_notTopAfter_35 ?_
        refine r_iload_n (pc := 38) 3 dX4_notTopAfter_38 rfl rfl ?_
        refine r_aald (pc := 39) (n := 7) (k := 7) (o8 ha0i) rfl rfl rfl dX4_notTopAfter_39 (fun h5 => ?_)
        refine g_X2_kind (pc := 40) ha0i (ib_lt h5) lf_RX4_29 dX4_notTopAfter_40 ?_
        refine r_iconst (pc := 43) dX4_notTopAfter_43 kc_iconst_3 ?_
        refine r_icmp_eq (pc := 44) 51 dX4_notTopAfter_44 (by decide) (fun h6 => ?_) (fun h6 => ?_)
        · refine r_iconst (pc := 51) dX4_notTopAfter_51 kc_iconst_0 ?_
          refine r_iadd (pc := 52) dX4_notTopAfter_52 ?_
          refine r_istore_n (pc := 53) [(2, .int (v2 + (0 : Int32))), (0, .ref (ad en 7 a0i 0)), (1, .int a1), (3, .int v3)] dX4_notTopAfter_53 rfl (by decide) rfl ?_
          refine r_iinc (pc := 54) 3 [(3, .int (v3 + (1 : Int32))), (2, .int (v2 + (0 : Int32))), (0, .ref (ad en 7 a0i 0)), (1, .int a1)] dX4_notTopAfter_54 rfl rfl (by decide) rfl ?_
          refine r_goto (pc := 57) 4 dX4_notTopAfter_57 (by decide) ?_
          exact r_sub [2, 3, 1, 0] rfl (ih (v2 + (0 : Int32)) (v3 + (1 : Int32)))
        · refine r_iconst (pc := 47) dX4_notTopAfter_47 kc_iconst_1 ?_
          refine r_goto (pc := 48) 52 dX4_notTopAfter_48 (by decide) ?_
          refine r_iadd (pc := 52) dX4_notTopAfter_52 ?_
          refine r_istore_n (pc := 53) [(2, .int (v2 + (1 : Int32))), (0, .ref (ad en 7 a0i 0)), (1, .int a1), (3, .int v3)] dX4_notTopAfter_53 rfl (by decide) rfl ?_
          refine r_iinc (pc := 54) 3 [(3, .int (v3 + (1 : Int32))), (2, .int (v2 + (1 : Int32))), (0, .ref (ad en 7 a0i 0)), (1, .int a1)] dX4_notTopAfter_54 rfl rfl (by decide) rfl ?_
          refine r_goto (pc := 57) 4 dX4_notTopAfter_57 (by decide) ?_
          exact r_sub [2, 3, 1, 0] rfl (ih (v2 + (1 : Int32)) (v3 + (1 : Int32)))
set_option maxHeartbeats 4000000 in
theorem R_X4_notTopAfter (en : En) (N : Nat) (oi : Nat) (p0 : Int32) (hoi : oi < 5) (σ : Sg) : RR en ExT mi_X4_notTopAfter evI 0 [(0, .ref (ad en 7 oi 0)), (1, .int p0)] [] σ (f_X4_notTopAfter N oi p0 σ) := by
  unfold f_X4_notTopAfter
  refine r_iconst (pc := 0) dX4_notTopAfter_0 kc_iconst_0 ?_
  refine r_istore_n (pc := 1) [(2, .int (0 : Int32)), (0, .ref (ad en 7 oi 0)), (1, .int p0)] dX4_notTopAfter_1 rfl (by decide) rfl ?_
  refine r_iconst (pc := 2) dX4_notTopAfter_2 kc_iconst_0 ?_
  refine r_istore_n (pc := 3) [(3, .int (0 : Int32)), (2, .int (0 : Int32)), (0, .ref (ad en 7 oi 0)), (1, .int p0)] dX4_notTopAfter_3 rfl (by decide) rfl ?_
  refine r_sub [2, 3, 1, 0] rfl (RL_X4_notTopAfter_4 en N oi p0 σ hoi (fun v2_1 v3_1 => ?_) N (0 : Int32) (0 : Int32))
  refine r_iload_n (pc := 60) 0 dX4_notTopAfter_60 rfl rfl ?_
  exact r_iret (pc := 61) rfl dX4_notTopAfter_61
theorem ok_X4_notTopAfter : yOk yX4_notTopAfter cX4_notTopAfter 4 (some .int) := ⟨in_lwG (by decide +kernel) rfl, in_lwG (by decide +kernel) rfl, by decide, by decide, by decide⟩
theorem k_X4_notTopAfter {en : En} {Ex : (Nat → Prop) → State → Prop} {mi : Mi} {α : Type} {ev : α → Option Value × Sg} {pc index : Nat} {lv : List (Nat × Value)} {rest : List Value} {σ : Sg} {N : Nat} {k : (Int32 × Sg) → Option α} {oi : Nat} {p0 : Int32} (hlink : Cond.methodLink mi.1 index yX4_notTopAfter ∈ lwG) (hroom : 1 + 1 ≤ mi.2.2.2.2) (hcat : (rest.map fun v => v.category).sum ≤ 8) (hd : decode mi.2.1 pc = .ok (.invokevirtual index, 3)) (hoi : oi < 5) (h : ∀ w : Int32 × Sg, f_X4_notTopAfter N oi p0 σ = some w → RR en Ex mi ev (pc + 3) lv (.int w.1 :: rest) w.2 (k w)) : RR en Ex mi ev pc lv (.int p0 :: .ref (ad en 7 oi 0) :: rest) σ ((f_X4_notTopAfter N oi p0 σ).bind k) :=
  r_callV (n := 1) [.int p0] ok_X4_notTopAfter hlink (in_lwG (by decide +kernel) rfl) (in_lwG (by decide +kernel) rfl) (by decide +kernel) rfl hroom (by decide) (o7 hoi) rfl rfl hcat (R_X4_notTopAfter en N oi p0 hoi σ) (Nat.le_of_ble_eq_true rfl) hd h
set_option maxHeartbeats 4000000 in
theorem RL_X5_digestFrom_15 (en : En) (N : Nat) {k : Int64 → Int32 → Option (Int64 × Sg)} (a0i : Nat) (σ : Sg) (ha0i : a0i < 4) (hk : ∀ (v3 : Int64) (v5 : Int32), RR en ExT mi_X5_digestFrom evL 45 [(3, .long v3)] [] σ (k v3 v5)) : ∀ (n : Nat) (v3 : Int64) (v5 : Int32), RR en ExT mi_X5_digestFrom evL 15 [(0, .ref (ad en 5 a0i 0)), (3, .long v3), (5, .int v5)] [] σ (L_X5_digestFrom_15 N k a0i σ n v3 v5) := by
  intro n
  induction n with
  | zero => intro v3 v5; exact r_none
  | succ n ih =>
    intro v3 v5
    rw [L_X5_digestFrom_15_s]
    refine r_iload (pc := 15) 2 dX5_digestFrom_15 rfl ?_
    refine r_aload_n (pc := 17) 0 dX5_digestFrom_17 rfl rfl ?_
    refine g_X5_size (pc := 18) ha0i lf_RX5_15 dX5_digestFrom_18 ?_
    refine r_icmp_ge (pc := 21) 45 dX5_digestFrom_21 (by decide) (fun h1 => ?_) (fun h1 => ?_)
    · exact r_sub [1] rfl (hk v3 v5)
    · refine r_ldc2 (pc := 24) lj_RX5_76 dX5_digestFrom_24 ?_
      refine r_lload_n (pc := 27) 1 dX5_digestFrom_27 rfl rfl ?_
      refine r_lmul (pc := 28) dX5_digestFrom_28 ?_
      refine r_aload_n (pc := 29) 0 dX5_digestFrom_29 rfl rfl ?_
      refine g_X5_bytes (pc := 30) ha0i lf_RX5_9 dX5_digestFrom_30 ?_
      refine r_iload (pc := 33) 2 dX5_digestFrom_33 rfl ?_
      refine r_bald (pc := 35) (n := 60) (o6 ha0i) rfl dX5_digestFrom_35 (fun h2 => ?_)
      refine r_i2l (pc := 36) dX5_digestFrom_36 ?_
      refine r_ladd (pc := 37) dX5_digestFrom_37 ?_
      refine r_lstore_n (pc := 38) [(3, .long (((31 : Int64) * v3) + ((rI σ 6 a0i 0 v5.toNatClampNeg).toInt64))), (0, .ref (ad en 5 a0i 0)), (5, .int v5)] dX5_digestFrom_38 rfl (by decide) rfl ?_
      refine r_iinc (pc := 39) 2 [(5, .int (v5 + (1 : Int32))), (3, .long (((31 : Int64) * v3) + ((rI σ 6 a0i 0 v5.toNatClampNeg).toInt64))), (0, .ref (ad en 5 a0i 0))] dX5_digestFrom_39 rfl rfl (by decide) rfl ?_
      refine r_goto (pc := 42) 15 dX5_digestFrom_42 (by decide) ?_
      exact r_sub [2, 1, 0] rfl (ih (((31 : Int64) * v3) + ((rI σ 6 a0i 0 v5.toNatClampNeg).toInt64)) (v5 + (1 : Int32)))
set_option maxHeartbeats 4000000 in
theorem R_X5_digestFrom (en : En) (N : Nat) (oi : Nat) (p0 : Int64) (hoi : oi < 4) (σ : Sg) : RR en ExT mi_X5_digestFrom evL 0 [(0, .ref (ad en 5 oi 0)), (1, .long p0)] [] σ (f_X5_digestFrom N oi p0 σ) := by
  unfold f_X5_digestFrom
  refine r_ldc2 (pc := 0) lj_RX5_76 dX5_digestFrom_0 ?_
  refine r_lload_n (pc := 3) 1 dX5_digestFrom_3 rfl rfl ?_
  refine r_lmul (pc := 4) dX5_digestFrom_4 ?_
  refine r_aload_n (pc := 5) 0 dX5_digestFrom_5 rfl rfl ?_
  refine g_X5_size (pc := 6) hoi lf_RX5_15 dX5_digestFrom_6 ?_
  refine r_i2l (pc := 9) dX5_digestFrom_9 ?_
  refine r_ladd (pc := 10) dX5_digestFrom_10 ?_
  refine r_lstore_n (pc := 11) [(3, .long (((31 : Int64) * p0) + ((rI σ 5 oi 0 1).toInt64))), (0, .ref (ad en 5 oi 0)), (1, .long p0)] dX5_digestFrom_11 rfl (by decide) rfl ?_
  refine r_iconst (pc := 12) dX5_digestFrom_12 kc_iconst_0 ?_
  refine r_istore (pc := 13) [(5, .int (0 : Int32)), (3, .long (((31 : Int64) * p0) + ((rI σ 5 oi 0 1).toInt64))), (0, .ref (ad en 5 oi 0)), (1, .long p0)] dX5_digestFrom_13 (by decide) rfl ?_
  refine r_sub [2, 1, 0] rfl (RL_X5_digestFrom_15 en N oi σ hoi (fun v3_1 v5_1 => ?_) N (((31 : Int64) * p0) + ((rI σ 5 oi 0 1).toInt64)) (0 : Int32))
  refine r_lload_n (pc := 45) 0 dX5_digestFrom_45 rfl rfl ?_
  exact r_lret (pc := 46) rfl dX5_digestFrom_46
theorem ok_X5_digestFrom : yOk yX5_digestFrom cX5_digestFrom 6 (some .long) := ⟨in_lwG (by decide +kernel) rfl, in_lwG (by decide +kernel) rfl, by decide, by decide, by decide⟩
theorem k_X5_digestFrom {en : En} {Ex : (Nat → Prop) → State → Prop} {mi : Mi} {α : Type} {ev : α → Option Value × Sg} {pc index : Nat} {lv : List (Nat × Value)} {rest : List Value} {σ : Sg} {N : Nat} {k : (Int64 × Sg) → Option α} {oi : Nat} {p0 : Int64} (hlink : Cond.methodLink mi.1 index yX5_digestFrom ∈ lwG) (hroom : 1 + 1 ≤ mi.2.2.2.2) (hcat : (rest.map fun v => v.category).sum ≤ 8) (hd : decode mi.2.1 pc = .ok (.invokevirtual index, 3)) (hoi : oi < 4) (h : ∀ w : Int64 × Sg, f_X5_digestFrom N oi p0 σ = some w → RR en Ex mi ev (pc + 3) lv (.long w.1 :: rest) w.2 (k w)) : RR en Ex mi ev pc lv (.long p0 :: .ref (ad en 5 oi 0) :: rest) σ ((f_X5_digestFrom N oi p0 σ).bind k) :=
  r_callV (n := 1) [.long p0] ok_X5_digestFrom hlink (in_lwG (by decide +kernel) rfl) (in_lwG (by decide +kernel) rfl) (by decide +kernel) rfl hroom (by decide) (o5 hoi) rfl rfl hcat (R_X5_digestFrom en N oi p0 hoi σ) (Nat.le_of_ble_eq_true rfl) hd h
set_option maxHeartbeats 4000000 in
theorem R_X5_figureAt (en : En) (N : Nat) (oi : Nat) (p0 : Int32) (p1 : Int32) (p2 : Int32) (hoi : oi < 4) (σ : Sg) : RR en ExT mi_X5_figureAt evI 0 [(0, .ref (ad en 5 oi 0)), (1, .int p0), (2, .int p1), (3, .int p2)] [] σ (f_X5_figureAt N oi p0 p1 p2 σ) := by
  unfold f_X5_figureAt
  refine r_iload_n (pc := 0) 1 dX5_figureAt_0 rfl rfl ?_
  refine r_aload_n (pc := 1) 0 dX5_figureAt_1 rfl rfl ?_
  refine g_X5_size (pc := 2) hoi lf_RX5_15 dX5_figureAt_2 ?_
  refine r_icmp_lt (pc := 5) 10 dX5_figureAt_5 (by decide) (fun h1 => ?_) (fun h1 => ?_)
  · refine r_aload_n (pc := 10) 0 dX5_figureAt_10 rfl rfl ?_
    refine g_X5_bytes (pc := 11) hoi lf_RX5_9 dX5_figureAt_11 ?_
    refine r_iload_n (pc := 14) 1 dX5_figureAt_14 rfl rfl ?_
    refine r_bald (pc := 15) (n := 60) (o6 hoi) rfl dX5_figureAt_15 (fun h2 => ?_)
    refine r_bipush (pc := 16) dX5_figureAt_16 kc_bipush_48 ?_
    refine r_isub (pc := 18) dX5_figureAt_18 ?_
    refine r_istore (pc := 19) [(4, .int ((rI σ 6 oi 0 p0.toNatClampNeg) - (48 : Int32))), (0, .ref (ad en 5 oi 0)), (1, .int p0), (2, .int p1), (3, .int p2)] dX5_figureAt_19 (by decide) rfl ?_
    refine r_iload (pc := 21) 0 dX5_figureAt_21 rfl ?_
    refine r_iload_n (pc := 23) 3 dX5_figureAt_23 rfl rfl ?_
    refine r_icmp_lt (pc := 24) 33 dX5_figureAt_24 (by decide) (fun h3 => ?_) (fun h3 => ?_)
    · refine r_iconst (pc := 33) dX5_figureAt_33 kc_iconst_m1 ?_
      refine r_goto (pc := 34) 39 dX5_figureAt_34 (by decide) ?_
      exact r_iret (pc := 39) rfl dX5_figureAt_39
    · refine r_iload (pc := 27) 0 dX5_figureAt_27 rfl ?_
      refine r_iload_n (pc := 29) 4 dX5_figureAt_29 rfl rfl ?_
      refine r_icmp_le (pc := 30) 37 dX5_figureAt_30 (by decide) (fun h4 => ?_) (fun h4 => ?_)
      · refine r_iload (pc := 37) 0 dX5_figureAt_37 rfl ?_
        exact r_iret (pc := 39) rfl dX5_figureAt_39
      · refine r_iconst (pc := 33) dX5_figureAt_33 kc_iconst_m1 ?_
        refine r_goto (pc := 34) 39 dX5_figureAt_34 (by decide) ?_
        exact r_iret (pc := 39) rfl dX5_figureAt_39
  · refine r_iconst (pc := 8) dX5_figureAt_8 kc_iconst_m1 ?_
    exact r_iret (pc := 9) rfl dX5_figureAt_9
theorem ok_X5_figureAt : yOk yX5_figureAt cX5_figureAt 5 (some .int) := ⟨in_lwG (by decide +kernel) rfl, in_lwG (by decide +kernel) rfl, by decide, by decide, by decide⟩
theorem k_X5_figureAt {en : En} {Ex : (Nat → Prop) → State → Prop} {mi : Mi} {α : Type} {ev : α → Option Value × Sg} {pc index : Nat} {lv : List (Nat × Value)} {rest : List Value} {σ : Sg} {N : Nat} {k : (Int32 × Sg) → Option α} {oi : Nat} {p0 : Int32} {p1 : Int32} {p2 : Int32} (hlink : Cond.methodLink mi.1 index yX5_figureAt ∈ lwG) (hroom : 1 + 1 ≤ mi.2.2.2.2) (hcat : (rest.map fun v => v.category).sum ≤ 8) (hd : decode mi.2.1 pc = .ok (.invokevirtual index, 3)) (hoi : oi < 4) (h : ∀ w : Int32 × Sg, f_X5_figureAt N oi p0 p1 p2 σ = some w → RR en Ex mi ev (pc + 3) lv (.int w.1 :: rest) w.2 (k w)) : RR en Ex mi ev pc lv (.int p2 :: .int p1 :: .int p0 :: .ref (ad en 5 oi 0) :: rest) σ ((f_X5_figureAt N oi p0 p1 p2 σ).bind k) :=
  r_callV (n := 3) [.int p0, .int p1, .int p2] ok_X5_figureAt hlink (in_lwG (by decide +kernel) rfl) (in_lwG (by decide +kernel) rfl) (by decide +kernel) rfl hroom (by decide) (o5 hoi) rfl rfl hcat (R_X5_figureAt en N oi p0 p1 p2 hoi σ) (Nat.le_of_ble_eq_true rfl) hd h
set_option maxHeartbeats 4000000 in
theorem RL_X5_kindAt_2 (en : En) (N : Nat) {k : Int32 → Option (Int32 × Sg)} (a0i : Nat) (a1 : Int32) (σ : Sg) (ha0i : a0i < 4) (hk : ∀ (v2 : Int32), RR en ExT mi_X5_kindAt evI 30 [] [] σ (k v2)) : ∀ (n : Nat) (v2 : Int32), RR en ExT mi_X5_kindAt evI 2 [(0, .ref (ad en 5 a0i 0)), (1, .int a1), (2, .int v2)] [] σ (L_X5_kindAt_2 N k a0i a1 σ n v2) := by
  intro n
  induction n with
  | zero => intro v2; exact r_none
  | succ n ih =>
    intro v2
    rw [L_X5_kindAt_2_s]
    refine r_iload_n (pc := 2) 2 dX5_kindAt_2 rfl rfl ?_
    refine r_bipush (pc := 3) dX5_kindAt_3 kc_bipush_6 ?_
    refine r_icmp_ge (pc := 5) 30 dX5_kindAt_5 (by decide) (fun h1 => ?_) (fun h1 => ?_)
    · exact r_sub [] rfl (hk v2)
    · refine r_aload_n (pc := 8) 0 dX5_kindAt_8 rfl rfl ?_
      refine g_X5_bytes (pc := 9) ha0i lf_RX5_9 dX5_kindAt_9 ?_
      refine r_iload_n (pc := 12) 1 dX5_kindAt_12 rfl rfl ?_
      refine r_bald (pc := 13) (n := 60) (o6 ha0i) rfl dX5_kindAt_13 (fun h2 => ?_)
      refine r_letters (pc := 14) rfl dX5_kindAt_14 ?_
      refine r_iload_n (pc := 17) 2 dX5_kindAt_17 rfl rfl ?_
      refine r_letter (pc := 18) dX5_kindAt_18 ?_
      refine r_icmp_ne (pc := 19) 24 dX5_kindAt_19 (by decide) (fun h4 => ?_) (fun h4 => ?_)
      · refine r_iload_n (pc := 22) 2 dX5_kindAt_22 rfl rfl ?_
        exact r_iret (pc := 23) rfl dX5_kindAt_23
      · refine r_iinc (pc := 24) 2 [(2, .int (v2 + (1 : Int32))), (0, .ref (ad en 5 a0i 0)), (1, .int a1)] dX5_kindAt_24 rfl rfl (by decide) rfl ?_
        refine r_goto (pc := 27) 2 dX5_kindAt_27 (by decide) ?_
        exact r_sub [1, 2, 0] rfl (ih (v2 + (1 : Int32)))
set_option maxHeartbeats 4000000 in
theorem R_X5_kindAt (en : En) (N : Nat) (oi : Nat) (p0 : Int32) (hoi : oi < 4) (σ : Sg) : RR en ExT mi_X5_kindAt evI 0 [(0, .ref (ad en 5 oi 0)), (1, .int p0)] [] σ (f_X5_kindAt N oi p0 σ) := by
  unfold f_X5_kindAt
  refine r_iconst (pc := 0) dX5_kindAt_0 kc_iconst_0 ?_
  refine r_istore_n (pc := 1) [(2, .int (0 : Int32)), (0, .ref (ad en 5 oi 0)), (1, .int p0)] dX5_kindAt_1 rfl (by decide) rfl ?_
  refine r_sub [1, 2, 0] rfl (RL_X5_kindAt_2 en N oi p0 σ hoi (fun v2_1 => ?_) N (0 : Int32))
  refine r_iconst (pc := 30) dX5_kindAt_30 kc_iconst_m1 ?_
  exact r_iret (pc := 31) rfl dX5_kindAt_31
theorem ok_X5_kindAt : yOk yX5_kindAt cX5_kindAt 3 (some .int) := ⟨in_lwG (by decide +kernel) rfl, in_lwG (by decide +kernel) rfl, by decide, by decide, by decide⟩
theorem k_X5_kindAt {en : En} {Ex : (Nat → Prop) → State → Prop} {mi : Mi} {α : Type} {ev : α → Option Value × Sg} {pc index : Nat} {lv : List (Nat × Value)} {rest : List Value} {σ : Sg} {N : Nat} {k : (Int32 × Sg) → Option α} {oi : Nat} {p0 : Int32} (hlink : Cond.methodLink mi.1 index yX5_kindAt ∈ lwG) (hroom : 1 + 1 ≤ mi.2.2.2.2) (hcat : (rest.map fun v => v.category).sum ≤ 8) (hd : decode mi.2.1 pc = .ok (.invokevirtual index, 3)) (hoi : oi < 4) (h : ∀ w : Int32 × Sg, f_X5_kindAt N oi p0 σ = some w → RR en Ex mi ev (pc + 3) lv (.int w.1 :: rest) w.2 (k w)) : RR en Ex mi ev pc lv (.int p0 :: .ref (ad en 5 oi 0) :: rest) σ ((f_X5_kindAt N oi p0 σ).bind k) :=
  r_callV (n := 1) [.int p0] ok_X5_kindAt hlink (in_lwG (by decide +kernel) rfl) (in_lwG (by decide +kernel) rfl) (by decide +kernel) rfl hroom (by decide) (o5 hoi) rfl rfl hcat (R_X5_kindAt en N oi p0 hoi σ) (Nat.le_of_ble_eq_true rfl) hd h
set_option maxHeartbeats 4000000 in
theorem R_X5_readPane (en : En) (N : Nat) (oi : Nat) (p0 : Int32) (q1i : Nat) (q1j : Nat) (hoi : oi < 4) (hq1i : q1i < 5) (hq1j : q1j < 7) (σ : Sg) : RR en ExT mi_X5_readPane evI 0 [(0, .ref (ad en 5 oi 0)), (1, .int p0), (2, .ref (ad en 9 q1i q1j))] [] σ (f_X5_readPane N oi p0 q1i q1j σ) := by
  unfold f_X5_readPane
  refine r_aload_n (pc := 0) 0 dX5_readPane_0 rfl rfl ?_
  refine r_iload_n (pc := 1) 1 dX5_readPane_1 rfl rfl ?_
  refine k_X5_kindAt (pc := 2) lm_RX5_41  (by decide) (Nat.le_of_ble_eq_true rfl) dX5_readPane_2 hoi (fun w1 h1 => ?_)
  refine r_istore_n (pc := 5) [(3, .int w1.1), (0, .ref (ad en 5 oi 0)), (1, .int p0), (2, .ref (ad en 9 q1i q1j))] dX5_readPane_5 rfl (by decide) rfl ?_
  refine r_iload_n (pc := 6) 0 dX5_readPane_6 rfl rfl ?_
  refine r_if_ge (pc := 7) 12 dX5_readPane_7 (by decide) (fun h2 => ?_) (fun h2 => ?_)
  · refine r_aload_n (pc := 12) 1 dX5_readPane_12 rfl rfl ?_
    refine r_iload_n (pc := 13) 2 dX5_readPane_13 rfl rfl ?_
    refine r_iconst (pc := 14) dX5_readPane_14 kc_iconst_1 ?_
    refine r_iadd (pc := 15) dX5_readPane_15 ?_
    refine r_iconst (pc := 16) dX5_readPane_16 kc_iconst_0 ?_
    refine r_bipush (pc := 17) dX5_readPane_17 kc_bipush_9 ?_
    refine k_X5_figureAt (pc := 19) lm_RX5_45  (by decide) (Nat.le_of_ble_eq_true rfl) dX5_readPane_19 hoi (fun w2 h3 => ?_)
    refine r_istore (pc := 22) [(4, .int w2.1), (3, .int w1.1), (0, .ref (ad en 5 oi 0)), (1, .int p0), (2, .ref (ad en 9 q1i q1j))] dX5_readPane_22 (by decide) rfl ?_
    refine r_iload (pc := 24) 0 dX5_readPane_24 rfl ?_
    refine r_if_ge (pc := 26) 33 dX5_readPane_26 (by decide) (fun h4 => ?_) (fun h4 => ?_)
    · refine r_aload_n (pc := 33) 2 dX5_readPane_33 rfl rfl ?_
      refine r_iload_n (pc := 34) 3 dX5_readPane_34 rfl rfl ?_
      refine r_iconst (pc := 35) dX5_readPane_35 kc_iconst_2 ?_
      refine r_iadd (pc := 36) dX5_readPane_36 ?_
      refine r_iconst (pc := 37) dX5_readPane_37 kc_iconst_0 ?_
      refine r_bipush (pc := 38) dX5_readPane_38 kc_bipush_7 ?_
      refine k_X5_figureAt (pc := 40) lm_RX5_45  (by decide) (Nat.le_of_ble_eq_true rfl) dX5_readPane_40 hoi (fun w3 h5 => ?_)
      refine r_istore (pc := 43) [(5, .int w3.1), (4, .int w2.1), (3, .int w1.1), (0, .ref (ad en 5 oi 0)), (1, .int p0), (2, .ref (ad en 9 q1i q1j))] dX5_readPane_43 (by decide) rfl ?_
      refine r_iload (pc := 45) 0 dX5_readPane_45 rfl ?_
      refine r_if_ge (pc := 47) 54 dX5_readPane_47 (by decide) (fun h6 => ?_) (fun h6 => ?_)
      · refine r_aload_n (pc := 54) 3 dX5_readPane_54 rfl rfl ?_
        refine r_iload_n (pc := 55) 4 dX5_readPane_55 rfl rfl ?_
        refine r_iconst (pc := 56) dX5_readPane_56 kc_iconst_3 ?_
        refine r_iadd (pc := 57) dX5_readPane_57 ?_
        refine r_iconst (pc := 58) dX5_readPane_58 kc_iconst_1 ?_
        refine r_bipush (pc := 59) dX5_readPane_59 kc_bipush_9 ?_
        refine r_bipush (pc := 61) dX5_readPane_61 kc_bipush_12 ?_
        refine r_iload (pc := 63) 1 dX5_readPane_63 rfl ?_
        refine r_isub (pc := 65) dX5_readPane_65 ?_
        refine r_mmin (pc := 66) lm_RX5_49 (by decide) (Nat.le_of_ble_eq_true rfl) dX5_readPane_66 ?_
        refine k_X5_figureAt (pc := 69) lm_RX5_45  (by decide) (Nat.le_of_ble_eq_true rfl) dX5_readPane_69 hoi (fun w4 h7 => ?_)
        refine r_istore (pc := 72) [(6, .int w4.1), (5, .int w3.1), (4, .int w2.1), (3, .int w1.1), (0, .ref (ad en 5 oi 0)), (1, .int p0), (2, .ref (ad en 9 q1i q1j))] dX5_readPane_72 (by decide) rfl ?_
        refine r_iload (pc := 74) 0 dX5_readPane_74 rfl ?_
        refine r_if_ge (pc := 76) 83 dX5_readPane_76 (by decide) (fun h8 => ?_) (fun h8 => ?_)
        · refine r_aload_n (pc := 83) 4 dX5_readPane_83 rfl rfl ?_
          refine r_iload_n (pc := 84) 5 dX5_readPane_84 rfl rfl ?_
          refine r_iconst (pc := 85) dX5_readPane_85 kc_iconst_4 ?_
          refine r_iadd (pc := 86) dX5_readPane_86 ?_
          refine r_iconst (pc := 87) dX5_readPane_87 kc_iconst_1 ?_
          refine r_bipush (pc := 88) dX5_readPane_88 kc_bipush_8 ?_
          refine r_iload (pc := 90) 1 dX5_readPane_90 rfl ?_
          refine r_isub (pc := 92) dX5_readPane_92 ?_
          refine k_X5_figureAt (pc := 93) lm_RX5_45  (by decide) (Nat.le_of_ble_eq_true rfl) dX5_readPane_93 hoi (fun w5 h9 => ?_)
          refine r_istore (pc := 96) [(7, .int w5.1), (6, .int w4.1), (5, .int w3.1), (4, .int w2.1), (3, .int w1.1), (0, .ref (ad en 5 oi 0)), (1, .int p0), (2, .ref (ad en 9 q1i q1j))] dX5_readPane_96 (by decide) rfl ?_
          refine r_iload (pc := 98) 0 dX5_readPane_98 rfl ?_
          refine r_if_ge (pc := 100) 107 dX5_readPane_100 (by decide) (fun h10 => ?_) (fun h10 => ?_)
          · refine r_aload_n (pc := 107) 7 dX5_readPane_107 rfl rfl ?_
            refine r_iload (pc := 108) 1 dX5_readPane_108 rfl ?_
            refine p_X2_wide (pc := 110) hq1i hq1j lf_RX5_55 dX5_readPane_110 ?_
            refine r_aload_n (pc := 113) 7 dX5_readPane_113 rfl rfl ?_
            refine r_iload (pc := 114) 0 dX5_readPane_114 rfl ?_
            refine p_X2_high (pc := 116) hq1i hq1j lf_RX5_58 dX5_readPane_116 ?_
            refine r_aload_n (pc := 119) 7 dX5_readPane_119 rfl rfl ?_
            refine r_iload_n (pc := 120) 4 dX5_readPane_120 rfl rfl ?_
            refine p_X2_kind (pc := 121) hq1i hq1j lf_RX5_61 dX5_readPane_121 ?_
            refine r_aload_n (pc := 124) 7 dX5_readPane_124 rfl rfl ?_
            refine r_iconst (pc := 125) dX5_readPane_125 kc_iconst_1 ?_
            refine p_X2_open (pc := 126) hq1i hq1j lf_RX5_64 rfl dX5_readPane_126 ?_
            refine r_aload_n (pc := 129) 7 dX5_readPane_129 rfl rfl ?_
            refine r_iload (pc := 130) 3 dX5_readPane_130 rfl ?_
            refine r_iload (pc := 132) 2 dX5_readPane_132 rfl ?_
            refine k_X2_lieAt (pc := 134) lm_RX5_68  (by decide) (Nat.le_of_ble_eq_true rfl) dX5_readPane_134 hq1i hq1j (fun w6 h11 => ?_)
            refine r_bipush (pc := 137) dX5_readPane_137 kc_bipush_m9 ?_
            exact r_iret (pc := 139) rfl dX5_readPane_139
          · refine r_iload_n (pc := 103) 6 dX5_readPane_103 rfl rfl ?_
            refine r_iconst (pc := 104) dX5_readPane_104 kc_iconst_4 ?_
            refine r_iadd (pc := 105) dX5_readPane_105 ?_
            exact r_iret (pc := 106) rfl dX5_readPane_106
        · refine r_iload_n (pc := 79) 5 dX5_readPane_79 rfl rfl ?_
          refine r_iconst (pc := 80) dX5_readPane_80 kc_iconst_3 ?_
          refine r_iadd (pc := 81) dX5_readPane_81 ?_
          exact r_iret (pc := 82) rfl dX5_readPane_82
      · refine r_iload_n (pc := 50) 4 dX5_readPane_50 rfl rfl ?_
        refine r_iconst (pc := 51) dX5_readPane_51 kc_iconst_2 ?_
        refine r_iadd (pc := 52) dX5_readPane_52 ?_
        exact r_iret (pc := 53) rfl dX5_readPane_53
    · refine r_iload_n (pc := 29) 3 dX5_readPane_29 rfl rfl ?_
      refine r_iconst (pc := 30) dX5_readPane_30 kc_iconst_1 ?_
      refine r_iadd (pc := 31) dX5_readPane_31 ?_
      exact r_iret (pc := 32) rfl dX5_readPane_32
  · refine r_iload_n (pc := 10) 2 dX5_readPane_10 rfl rfl ?_
    exact r_iret (pc := 11) rfl dX5_readPane_11
theorem ok_X5_readPane : yOk yX5_readPane cX5_readPane 8 (some .int) := ⟨in_lwG (by decide +kernel) rfl, in_lwG (by decide +kernel) rfl, by decide, by decide, by decide⟩
theorem k_X5_readPane {en : En} {Ex : (Nat → Prop) → State → Prop} {mi : Mi} {α : Type} {ev : α → Option Value × Sg} {pc index : Nat} {lv : List (Nat × Value)} {rest : List Value} {σ : Sg} {N : Nat} {k : (Int32 × Sg) → Option α} {oi : Nat} {p0 : Int32} {q1i : Nat} {q1j : Nat} (hlink : Cond.methodLink mi.1 index yX5_readPane ∈ lwG) (hroom : 4 + 1 ≤ mi.2.2.2.2) (hcat : (rest.map fun v => v.category).sum ≤ 8) (hd : decode mi.2.1 pc = .ok (.invokevirtual index, 3)) (hoi : oi < 4) (hq1i : q1i < 5) (hq1j : q1j < 7) (h : ∀ w : Int32 × Sg, f_X5_readPane N oi p0 q1i q1j σ = some w → RR en Ex mi ev (pc + 3) lv (.int w.1 :: rest) w.2 (k w)) : RR en Ex mi ev pc lv (.ref (ad en 9 q1i q1j) :: .int p0 :: .ref (ad en 5 oi 0) :: rest) σ ((f_X5_readPane N oi p0 q1i q1j σ).bind k) :=
  r_callV (n := 2) [.int p0, .ref (ad en 9 q1i q1j)] ok_X5_readPane hlink (in_lwG (by decide +kernel) rfl) (in_lwG (by decide +kernel) rfl) (by decide +kernel) rfl hroom (by decide) (o5 hoi) rfl rfl hcat (R_X5_readPane en N oi p0 q1i q1j hoi hq1i hq1j σ) (Nat.le_of_ble_eq_true rfl) hd h
set_option maxHeartbeats 4000000 in
theorem RL_X5_readInto_7 (en : En) (N : Nat) {k : Int32 → Sg → Option (Int32 × Sg)} (a0i : Nat) (a1i : Nat) (ha0i : a0i < 4) (ha1i : a1i < 5) (hk : ∀ (v2 : Int32) (σ : Sg), RR en ExT mi_X5_readInto evI 95 [(0, .ref (ad en 5 a0i 0)), (1, .ref (ad en 7 a1i 0))] [] σ (k v2 σ)) : ∀ (n : Nat) (v2 : Int32) (σ : Sg), RR en ExT mi_X5_readInto evI 7 [(0, .ref (ad en 5 a0i 0)), (1, .ref (ad en 7 a1i 0)), (2, .int v2)] [] σ (L_X5_readInto_7 N k a0i a1i n v2 σ) := by
  intro n
  induction n with
  | zero => intro v2 σ; exact r_none
  | succ n ih =>
    intro v2 σ
    rw [L_X5_readInto_7_s]
    refine r_iload_n (pc := 7) 2 dX5_readInto_7 rfl rfl ?_
    refine r_aload_n (pc := 8) 0 dX5_readInto_8 rfl rfl ?_
    refine g_X5_size (pc := 9) ha0i lf_RX5_15 dX5_readInto_9 ?_
    refine r_icmp_ge (pc := 12) 95 dX5_readInto_12 (by decide) (fun h1 => ?_) (fun h1 => ?_)
    · exact r_sub [0, 1] rfl (hk v2 σ)
    · refine r_aload_n (pc := 15) 0 dX5_readInto_15 rfl rfl ?_
      refine g_X5_bytes (pc := 16) ha0i lf_RX5_9 dX5_readInto_16 ?_
      refine r_iload_n (pc := 19) 2 dX5_readInto_19 rfl rfl ?_
      refine r_bald (pc := 20) (n := 60) (o6 ha0i) rfl dX5_readInto_20 (fun h2 => ?_)
      refine r_bipush (pc := 21) dX5_readInto_21 kc_bipush_32 ?_
      refine r_icmp_eq (pc := 23) 89 dX5_readInto_23 (by decide) (fun h3 => ?_) (fun h3 => ?_)
      · refine r_iinc (pc := 89) 2 [(2, .int (v2 + (1 : Int32))), (0, .ref (ad en 5 a0i 0)), (1, .ref (ad en 7 a1i 0))] dX5_readInto_89 rfl rfl (by decide) rfl ?_
        refine r_goto (pc := 92) 7 dX5_readInto_92 (by decide) ?_
        exact r_sub [1, 2, 0] rfl (ih (v2 + (1 : Int32)) σ)
      · refine r_aload_n (pc := 26) 1 dX5_readInto_26 rfl rfl ?_
        refine g_X4_size (pc := 27) ha1i lf_RX5_25 dX5_readInto_27 ?_
        refine r_bipush (pc := 30) dX5_readInto_30 kc_bipush_7 ?_
        refine r_icmp_lt (pc := 32) 37 dX5_readInto_32 (by decide) (fun h4 => ?_) (fun h4 => ?_)
        · refine r_aload_n (pc := 37) 0 dX5_readInto_37 rfl rfl ?_
          refine r_iload_n (pc := 38) 2 dX5_readInto_38 rfl rfl ?_
          refine r_aload_n (pc := 39) 1 dX5_readInto_39 rfl rfl ?_
          refine g_X4_panes (pc := 40) ha1i lf_RX5_28 dX5_readInto_40 ?_
          refine r_aload_n (pc := 43) 1 dX5_readInto_43 rfl rfl ?_
          refine g_X4_size (pc := 44) ha1i lf_RX5_25 dX5_readInto_44 ?_
          refine r_aald (pc := 47) (n := 7) (k := 7) (o8 ha1i) rfl rfl rfl dX5_readInto_47 (fun h5 => ?_)
          refine k_X5_readPane (pc := 48) lm_RX5_32  (by decide) (Nat.le_of_ble_eq_true rfl) dX5_readInto_48 ha0i ha1i (ib_lt h5) (fun w1 h6 => ?_)
          refine r_istore_n (pc := 51) [(3, .int w1.1), (0, .ref (ad en 5 a0i 0)), (1, .ref (ad en 7 a1i 0)), (2, .int v2)] dX5_readInto_51 rfl (by decide) rfl ?_
          refine r_iload_n (pc := 52) 0 dX5_readInto_52 rfl rfl ?_
          refine r_bipush (pc := 53) dX5_readInto_53 kc_bipush_m9 ?_
          refine r_icmp_eq (pc := 55) 60 dX5_readInto_55 (by decide) (fun h7 => ?_) (fun h7 => ?_)
          · refine r_aload_n (pc := 60) 2 dX5_readInto_60 rfl rfl ?_
            refine g_X4_panes (pc := 61) ha1i lf_RX5_28 dX5_readInto_61 ?_
            refine r_aload_n (pc := 64) 2 dX5_readInto_64 rfl rfl ?_
            refine g_X4_size (pc := 65) ha1i lf_RX5_25 dX5_readInto_65 ?_
            refine r_aald (pc := 68) (n := 7) (k := 7) (o8 ha1i) rfl rfl rfl dX5_readInto_68 (fun h8 => ?_)
            refine r_aload_n (pc := 69) 2 dX5_readInto_69 rfl rfl ?_
            refine g_X4_size (pc := 70) ha1i lf_RX5_25 dX5_readInto_70 ?_
            refine p_X2_place (pc := 73) ha1i (ib_lt h8) lf_RX5_36 dX5_readInto_73 ?_
            refine r_aload_n (pc := 76) 2 dX5_readInto_76 rfl rfl ?_
            refine r_dup (pc := 77) dX5_readInto_77 rfl ?_
            refine g_X4_size (pc := 78) ha1i lf_RX5_25 dX5_readInto_78 ?_
            refine r_iconst (pc := 81) dX5_readInto_81 kc_iconst_1 ?_
            refine r_iadd (pc := 82) dX5_readInto_82 ?_
            refine p_X4_size (pc := 83) ha1i lf_RX5_25 dX5_readInto_83 ?_
            refine r_iinc (pc := 86) 3 [(2, .int (v2 + (4 : Int32))), (3, .int w1.1), (0, .ref (ad en 5 a0i 0)), (1, .ref (ad en 7 a1i 0))] dX5_readInto_86 rfl rfl (by decide) rfl ?_
            refine r_iinc (pc := 89) 0 [(2, .int ((v2 + (4 : Int32)) + (1 : Int32))), (3, .int w1.1), (0, .ref (ad en 5 a0i 0)), (1, .ref (ad en 7 a1i 0))] dX5_readInto_89 rfl rfl (by decide) rfl ?_
            refine r_goto (pc := 92) 7 dX5_readInto_92 (by decide) ?_
            exact r_sub [2, 3, 0] rfl (ih ((v2 + (4 : Int32)) + (1 : Int32)) (uI (uI w1.2 9 a1i ((rI w1.2 7 a1i 0 1).toNatClampNeg) 5 (rI w1.2 7 a1i 0 1)) 7 a1i 0 1 ((rI (uI w1.2 9 a1i ((rI w1.2 7 a1i 0 1).toNatClampNeg) 5 (rI w1.2 7 a1i 0 1)) 7 a1i 0 1) + (1 : Int32))))
          · refine r_iload_n (pc := 58) 0 dX5_readInto_58 rfl rfl ?_
            exact r_iret (pc := 59) rfl dX5_readInto_59
        · refine r_iload_n (pc := 35) 2 dX5_readInto_35 rfl rfl ?_
          exact r_iret (pc := 36) rfl dX5_readInto_36
set_option maxHeartbeats 4000000 in
theorem R_X5_readInto (en : En) (N : Nat) (oi : Nat) (q0i : Nat) (hoi : oi < 4) (hq0i : q0i < 5) (σ : Sg) : RR en ExT mi_X5_readInto evI 0 [(0, .ref (ad en 5 oi 0)), (1, .ref (ad en 7 q0i 0))] [] σ (f_X5_readInto N oi q0i σ) := by
  unfold f_X5_readInto
  refine r_aload_n (pc := 0) 1 dX5_readInto_0 rfl rfl ?_
  refine r_iconst (pc := 1) dX5_readInto_1 kc_iconst_0 ?_
  refine p_X4_size (pc := 2) hq0i lf_RX5_25 dX5_readInto_2 ?_
  refine r_iconst (pc := 5) dX5_readInto_5 kc_iconst_0 ?_
  refine r_istore_n (pc := 6) [(2, .int (0 : Int32)), (0, .ref (ad en 5 oi 0)), (1, .ref (ad en 7 q0i 0))] dX5_readInto_6 rfl (by decide) rfl ?_
  refine r_sub [1, 2, 0] rfl (RL_X5_readInto_7 en N oi q0i hoi hq0i (fun v2_2 σ_2 => ?_) N (0 : Int32) (uI σ 7 q0i 0 1 (0 : Int32)))
  refine r_aload_n (pc := 95) 1 dX5_readInto_95 rfl rfl ?_
  refine g_X4_size (pc := 96) hq0i lf_RX5_25 dX5_readInto_96 ?_
  refine r_iconst (pc := 99) dX5_readInto_99 kc_iconst_2 ?_
  refine r_icmp_ge (pc := 100) 110 dX5_readInto_100 (by decide) (fun h9 => ?_) (fun h9 => ?_)
  · refine r_bipush (pc := 110) dX5_readInto_110 kc_bipush_m9 ?_
    exact r_iret (pc := 112) rfl dX5_readInto_112
  · refine r_aload_n (pc := 103) 0 dX5_readInto_103 rfl rfl ?_
    refine g_X5_size (pc := 104) hoi lf_RX5_15 dX5_readInto_104 ?_
    refine r_goto (pc := 107) 112 dX5_readInto_107 (by decide) ?_
    exact r_iret (pc := 112) rfl dX5_readInto_112
theorem ok_X5_readInto : yOk yX5_readInto cX5_readInto 4 (some .int) := ⟨in_lwG (by decide +kernel) rfl, in_lwG (by decide +kernel) rfl, by decide, by decide, by decide⟩
theorem k_X5_readInto {en : En} {Ex : (Nat → Prop) → State → Prop} {mi : Mi} {α : Type} {ev : α → Option Value × Sg} {pc index : Nat} {lv : List (Nat × Value)} {rest : List Value} {σ : Sg} {N : Nat} {k : (Int32 × Sg) → Option α} {oi : Nat} {q0i : Nat} (hlink : Cond.methodLink mi.1 index yX5_readInto ∈ lwG) (hroom : 5 + 1 ≤ mi.2.2.2.2) (hcat : (rest.map fun v => v.category).sum ≤ 8) (hd : decode mi.2.1 pc = .ok (.invokevirtual index, 3)) (hoi : oi < 4) (hq0i : q0i < 5) (h : ∀ w : Int32 × Sg, f_X5_readInto N oi q0i σ = some w → RR en Ex mi ev (pc + 3) lv (.int w.1 :: rest) w.2 (k w)) : RR en Ex mi ev pc lv (.ref (ad en 7 q0i 0) :: .ref (ad en 5 oi 0) :: rest) σ ((f_X5_readInto N oi q0i σ).bind k) :=
  r_callV (n := 1) [.ref (ad en 7 q0i 0)] ok_X5_readInto hlink (in_lwG (by decide +kernel) rfl) (in_lwG (by decide +kernel) rfl) (by decide +kernel) rfl hroom (by decide) (o5 hoi) rfl rfl hcat (R_X5_readInto en N oi q0i hoi hq0i σ) (Nat.le_of_ble_eq_true rfl) hd h
set_option maxHeartbeats 4000000 in
theorem R_X5_renew (en : En) (N : Nat) (oi : Nat) (p0 : Int32) (hoi : oi < 4) (σ : Sg) : RR en ExT mi_X5_renew evV 0 [(0, .ref (ad en 5 oi 0)), (1, .int p0)] [] σ (f_X5_renew N oi p0 σ) := by
  unfold f_X5_renew
  refine r_aload_n (pc := 0) 0 dX5_renew_0 rfl rfl ?_
  refine g_X5_bytes (pc := 1) hoi lf_RX5_9 dX5_renew_1 ?_
  refine r_bipush (pc := 4) dX5_renew_4 kc_bipush_32 ?_
  refine k_J7_fill_031fb (pc := 6) lm_RX5_19  (by decide) (Nat.le_of_ble_eq_true rfl) dX5_renew_6 hoi (fun w1 h1 => ?_)
  refine r_aload_n (pc := 9) 0 dX5_renew_9 rfl rfl ?_
  refine r_iload_n (pc := 10) 1 dX5_renew_10 rfl rfl ?_
  refine p_X5_size (pc := 11) hoi lf_RX5_15 dX5_renew_11 ?_
  exact r_vret (pc := 14) rfl dX5_renew_14
theorem ok_X5_renew : yOk yX5_renew cX5_renew 2 none := ⟨in_lwG (by decide +kernel) rfl, in_lwG (by decide +kernel) rfl, by decide, by decide, by decide⟩
theorem k_X5_renew {en : En} {Ex : (Nat → Prop) → State → Prop} {mi : Mi} {α : Type} {ev : α → Option Value × Sg} {pc index : Nat} {lv : List (Nat × Value)} {rest : List Value} {σ : Sg} {N : Nat} {k : (Sg) → Option α} {oi : Nat} {p0 : Int32} (hlink : Cond.methodLink mi.1 index yX5_renew ∈ lwG) (hroom : 2 + 1 ≤ mi.2.2.2.2) (hcat : (rest.map fun v => v.category).sum ≤ 8) (hd : decode mi.2.1 pc = .ok (.invokevirtual index, 3)) (hoi : oi < 4) (h : ∀ w : Sg, f_X5_renew N oi p0 σ = some w → RR en Ex mi ev (pc + 3) lv (rest) w (k w)) : RR en Ex mi ev pc lv (.int p0 :: .ref (ad en 5 oi 0) :: rest) σ ((f_X5_renew N oi p0 σ).bind k) :=
  r_callV (n := 1) [.int p0] ok_X5_renew hlink (in_lwG (by decide +kernel) rfl) (in_lwG (by decide +kernel) rfl) (by decide +kernel) rfl hroom (by decide) (o5 hoi) rfl rfl hcat (R_X5_renew en N oi p0 hoi σ) (Nat.le_of_ble_eq_true rfl) hd h
set_option maxHeartbeats 4000000 in
theorem RL_X6_afterTurn_7 (en : En) (N : Nat) {k : Int32 → Int32 → Option (Int32 × Sg)} (a1 : Int32) (a2 : Int32) (a3 : Int32) (a4 : Int32) (σ : Sg)  (hk : ∀ (v6 : Int32) (v7 : Int32), RR en ExT mi_X6_afterTurn evI 62 [(6, .int v6)] [] σ (k v6 v7)) : ∀ (n : Nat) (v6 : Int32) (v7 : Int32), RR en ExT mi_X6_afterTurn evI 7 [(0, .ref (ad en 16 0 0)), (1, .int a1), (2, .int a2), (3, .int a3), (4, .int a4), (6, .int v6), (7, .int v7)] [] σ (L_X6_afterTurn_7 N k a1 a2 a3 a4 σ n v6 v7) := by
  intro n
  induction n with
  | zero => intro v6 v7; exact r_none
  | succ n ih =>
    intro v6 v7
    rw [L_X6_afterTurn_7_s]
    refine r_iload (pc := 7) 6 dX6_afterTurn_7 rfl ?_
    refine r_iload_n (pc := 9) 1 dX6_afterTurn_9 rfl rfl ?_
    refine r_icmp_ge (pc := 10) 62 dX6_afterTurn_10 (by decide) (fun h1 => ?_) (fun h1 => ?_)
    · exact r_sub [5] rfl (hk v6 v7)
    · refine r_iload (pc := 13) 6 dX6_afterTurn_13 rfl ?_
      refine r_iload_n (pc := 15) 2 dX6_afterTurn_15 rfl rfl ?_
      refine r_icmp_eq (pc := 16) 56 dX6_afterTurn_16 (by decide) (fun h2 => ?_) (fun h2 => ?_)
      · refine r_iinc (pc := 56) 6 [(7, .int (v7 + (1 : Int32))), (0, .ref (ad en 16 0 0)), (1, .int a1), (2, .int a2), (3, .int a3), (4, .int a4), (6, .int v6)] dX6_afterTurn_56 rfl rfl (by decide) rfl ?_
        refine r_goto (pc := 59) 7 dX6_afterTurn_59 (by decide) ?_
        exact r_sub [1, 2, 3, 4, 5, 6, 0] rfl (ih v6 (v7 + (1 : Int32)))
      · refine r_aload_n (pc := 19) 0 dX6_afterTurn_19 rfl rfl ?_
        refine g_X6_cells (pc := 20)  lf_RX6_9 dX6_afterTurn_20 ?_
        refine r_iload_n (pc := 23) 3 dX6_afterTurn_23 rfl rfl ?_
        refine r_iconst (pc := 24) dX6_afterTurn_24 kc_iconst_1 ?_
        refine r_iload (pc := 25) 6 dX6_afterTurn_25 rfl ?_
        refine r_ishl (pc := 27) dX6_afterTurn_27 ?_
        refine r_ior (pc := 28) dX6_afterTurn_28 ?_
        refine r_iald (pc := 29) (n := 128) o17 rfl dX6_afterTurn_29 (fun h3 => ?_)
        refine r_istore (pc := 30) [(8, .int (rI σ 17 0 0 (a3 ||| ((1 : Int32) <<< (v7 &&& 31))).toNatClampNeg)), (0, .ref (ad en 16 0 0)), (1, .int a1), (2, .int a2), (3, .int a3), (4, .int a4), (6, .int v6), (7, .int v7)] dX6_afterTurn_30 (by decide) rfl ?_
        refine r_iload (pc := 32) 5 dX6_afterTurn_32 rfl ?_
        refine r_if_eq (pc := 34) 47 dX6_afterTurn_34 (by decide) (fun h4 => ?_) (fun h4 => ?_)
        · refine r_iload (pc := 47) 6 dX6_afterTurn_47 rfl ?_
          refine r_iload (pc := 49) 0 dX6_afterTurn_49 rfl ?_
          refine r_mmin (pc := 51) lm_RX6_38 (by decide) (Nat.le_of_ble_eq_true rfl) dX6_afterTurn_51 ?_
          refine r_istore (pc := 54) [(6, .int (if rI σ 17 0 0 (a3 ||| ((1 : Int32) <<< (v7 &&& 31))).toNatClampNeg < v6 then rI σ 17 0 0 (a3 ||| ((1 : Int32) <<< (v7 &&& 31))).toNatClampNeg else v6)), (8, .int (rI σ 17 0 0 (a3 ||| ((1 : Int32) <<< (v7 &&& 31))).toNatClampNeg)), (0, .ref (ad en 16 0 0)), (1, .int a1), (2, .int a2), (3, .int a3), (4, .int a4), (7, .int v7)] dX6_afterTurn_54 (by decide) rfl ?_
          refine r_iinc (pc := 56) 7 [(7, .int (v7 + (1 : Int32))), (6, .int (if rI σ 17 0 0 (a3 ||| ((1 : Int32) <<< (v7 &&& 31))).toNatClampNeg < v6 then rI σ 17 0 0 (a3 ||| ((1 : Int32) <<< (v7 &&& 31))).toNatClampNeg else v6)), (8, .int (rI σ 17 0 0 (a3 ||| ((1 : Int32) <<< (v7 &&& 31))).toNatClampNeg)), (0, .ref (ad en 16 0 0)), (1, .int a1), (2, .int a2), (3, .int a3), (4, .int a4)] dX6_afterTurn_56 rfl rfl (by decide) rfl ?_
          refine r_goto (pc := 59) 7 dX6_afterTurn_59 (by decide) ?_
          exact r_sub [3, 4, 5, 6, 7, 1, 0] rfl (ih (if rI σ 17 0 0 (a3 ||| ((1 : Int32) <<< (v7 &&& 31))).toNatClampNeg < v6 then rI σ 17 0 0 (a3 ||| ((1 : Int32) <<< (v7 &&& 31))).toNatClampNeg else v6) (v7 + (1 : Int32)))
        · refine r_iload (pc := 37) 6 dX6_afterTurn_37 rfl ?_
          refine r_iload (pc := 39) 0 dX6_afterTurn_39 rfl ?_
          refine r_mmax (pc := 41) lm_RX6_33 (by decide) (Nat.le_of_ble_eq_true rfl) dX6_afterTurn_41 ?_
          refine r_goto (pc := 44) 54 dX6_afterTurn_44 (by decide) ?_
          refine r_istore (pc := 54) [(6, .int (if v6 < rI σ 17 0 0 (a3 ||| ((1 : Int32) <<< (v7 &&& 31))).toNatClampNeg then rI σ 17 0 0 (a3 ||| ((1 : Int32) <<< (v7 &&& 31))).toNatClampNeg else v6)), (8, .int (rI σ 17 0 0 (a3 ||| ((1 : Int32) <<< (v7 &&& 31))).toNatClampNeg)), (0, .ref (ad en 16 0 0)), (1, .int a1), (2, .int a2), (3, .int a3), (4, .int a4), (7, .int v7)] dX6_afterTurn_54 (by decide) rfl ?_
          refine r_iinc (pc := 56) 7 [(7, .int (v7 + (1 : Int32))), (6, .int (if v6 < rI σ 17 0 0 (a3 ||| ((1 : Int32) <<< (v7 &&& 31))).toNatClampNeg then rI σ 17 0 0 (a3 ||| ((1 : Int32) <<< (v7 &&& 31))).toNatClampNeg else v6)), (8, .int (rI σ 17 0 0 (a3 ||| ((1 : Int32) <<< (v7 &&& 31))).toNatClampNeg)), (0, .ref (ad en 16 0 0)), (1, .int a1), (2, .int a2), (3, .int a3), (4, .int a4)] dX6_afterTurn_56 rfl rfl (by decide) rfl ?_
          refine r_goto (pc := 59) 7 dX6_afterTurn_59 (by decide) ?_
          exact r_sub [3, 4, 5, 6, 7, 1, 0] rfl (ih (if v6 < rI σ 17 0 0 (a3 ||| ((1 : Int32) <<< (v7 &&& 31))).toNatClampNeg then rI σ 17 0 0 (a3 ||| ((1 : Int32) <<< (v7 &&& 31))).toNatClampNeg else v6) (v7 + (1 : Int32)))
set_option maxHeartbeats 4000000 in
theorem R_X6_afterTurn (en : En) (N : Nat) (p0 : Int32) (p1 : Int32) (p2 : Int32) (p3 : Int32) (p4 : Int32)  (σ : Sg) : RR en ExT mi_X6_afterTurn evI 0 [(0, .ref (ad en 16 0 0)), (1, .int p0), (2, .int p1), (3, .int p2), (4, .int p3), (5, .int p4)] [] σ (f_X6_afterTurn N p0 p1 p2 p3 p4 σ) := by
  unfold f_X6_afterTurn
  refine r_iload (pc := 0) 5 dX6_afterTurn_0 rfl ?_
  refine r_istore (pc := 2) [(6, .int p4), (0, .ref (ad en 16 0 0)), (1, .int p0), (2, .int p1), (3, .int p2), (4, .int p3), (5, .int p4)] dX6_afterTurn_2 (by decide) rfl ?_
  refine r_iconst (pc := 4) dX6_afterTurn_4 kc_iconst_0 ?_
  refine r_istore (pc := 5) [(7, .int (0 : Int32)), (6, .int p4), (0, .ref (ad en 16 0 0)), (1, .int p0), (2, .int p1), (3, .int p2), (4, .int p3), (5, .int p4)] dX6_afterTurn_5 (by decide) rfl ?_
  refine r_sub [2, 3, 4, 5, 6, 1, 0] rfl (RL_X6_afterTurn_7 en N p0 p1 p2 p3 σ  (fun v6_1 v7_1 => ?_) N p4 (0 : Int32))
  refine r_iload (pc := 62) 0 dX6_afterTurn_62 rfl ?_
  exact r_iret (pc := 64) rfl dX6_afterTurn_64
theorem ok_X6_afterTurn : yOk yX6_afterTurn cX6_afterTurn 9 (some .int) := ⟨in_lwG (by decide +kernel) rfl, in_lwG (by decide +kernel) rfl, by decide, by decide, by decide⟩
theorem k_X6_afterTurn {en : En} {Ex : (Nat → Prop) → State → Prop} {mi : Mi} {α : Type} {ev : α → Option Value × Sg} {pc index : Nat} {lv : List (Nat × Value)} {rest : List Value} {σ : Sg} {N : Nat} {k : (Int32 × Sg) → Option α} {p0 : Int32} {p1 : Int32} {p2 : Int32} {p3 : Int32} {p4 : Int32} (hlink : Cond.methodLink mi.1 index yX6_afterTurn ∈ lwG) (hroom : 2 + 1 ≤ mi.2.2.2.2) (hcat : (rest.map fun v => v.category).sum ≤ 8) (hd : decode mi.2.1 pc = .ok (.invokevirtual index, 3))  (h : ∀ w : Int32 × Sg, f_X6_afterTurn N p0 p1 p2 p3 p4 σ = some w → RR en Ex mi ev (pc + 3) lv (.int w.1 :: rest) w.2 (k w)) : RR en Ex mi ev pc lv (.int p4 :: .int p3 :: .int p2 :: .int p1 :: .int p0 :: .ref (ad en 16 0 0) :: rest) σ ((f_X6_afterTurn N p0 p1 p2 p3 p4 σ).bind k) :=
  r_callV (n := 5) [.int p0, .int p1, .int p2, .int p3, .int p4] ok_X6_afterTurn hlink (in_lwG (by decide +kernel) rfl) (in_lwG (by decide +kernel) rfl) (by decide +kernel) rfl hroom (by decide) o16 rfl rfl hcat (R_X6_afterTurn en N p0 p1 p2 p3 p4  σ) (Nat.le_of_ble_eq_true rfl) hd h
set_option maxHeartbeats 4000000 in
theorem RL_X6_cellsInTheEnd_11 (en : En) (N : Nat) {k : Int32 → Sg → Option (Int32 × Sg)} (a1i : Nat) (a2 : Int32) (a3 : Int32) (a4 : Int32) (ha1i : a1i < 5) (hk : ∀ (v5 : Int32) (σ : Sg), RR en ExT mi_X6_cellsInTheEnd evI 38 [(0, .ref (ad en 16 0 0)), (1, .ref (ad en 7 a1i 0)), (2, .int a2), (3, .int a3), (4, .int a4)] [] σ (k v5 σ)) : ∀ (n : Nat) (v5 : Int32) (σ : Sg), RR en ExT mi_X6_cellsInTheEnd evI 11 [(0, .ref (ad en 16 0 0)), (1, .ref (ad en 7 a1i 0)), (2, .int a2), (3, .int a3), (4, .int a4), (5, .int v5)] [] σ (L_X6_cellsInTheEnd_11 N k a1i a2 a3 a4 n v5 σ) := by
  intro n
  induction n with
  | zero => intro v5 σ; exact r_none
  | succ n ih =>
    intro v5 σ
    rw [L_X6_cellsInTheEnd_11_s]
    refine r_iload (pc := 11) 5 dX6_cellsInTheEnd_11 rfl ?_
    refine r_iload (pc := 13) 4 dX6_cellsInTheEnd_13 rfl ?_
    refine r_icmp_ge (pc := 15) 38 dX6_cellsInTheEnd_15 (by decide) (fun h1 => ?_) (fun h1 => ?_)
    · exact r_sub [0, 1, 2, 3, 4] rfl (hk v5 σ)
    · refine r_aload_n (pc := 18) 0 dX6_cellsInTheEnd_18 rfl rfl ?_
      refine g_X6_cells (pc := 19)  lf_RX6_9 dX6_cellsInTheEnd_19 ?_
      refine r_iload (pc := 22) 5 dX6_cellsInTheEnd_22 rfl ?_
      refine r_aload_n (pc := 24) 1 dX6_cellsInTheEnd_24 rfl rfl ?_
      refine r_iload_n (pc := 25) 2 dX6_cellsInTheEnd_25 rfl rfl ?_
      refine r_iload (pc := 26) 5 dX6_cellsInTheEnd_26 rfl ?_
      refine k_X4_shown (pc := 28) lm_RX6_21  (by decide) (Nat.le_of_ble_eq_true rfl) dX6_cellsInTheEnd_28 ha1i (fun w1 h2 => ?_)
      refine r_iast (pc := 31) (n := 128) o17 rfl rfl dX6_cellsInTheEnd_31 (fun h3 => ?_)
      refine r_iinc (pc := 32) 5 [(5, .int (v5 + (1 : Int32))), (0, .ref (ad en 16 0 0)), (1, .ref (ad en 7 a1i 0)), (2, .int a2), (3, .int a3), (4, .int a4)] dX6_cellsInTheEnd_32 rfl rfl (by decide) rfl ?_
      refine r_goto (pc := 35) 11 dX6_cellsInTheEnd_35 (by decide) ?_
      exact r_sub [1, 2, 3, 4, 5, 0] rfl (ih (v5 + (1 : Int32)) (uI w1.2 17 0 0 v5.toNatClampNeg w1.1))
set_option maxHeartbeats 4000000 in
theorem RL_X6_cellsInTheEnd_59 (en : En) (N : Nat) {k : Int32 → Sg → Option (Int32 × Sg)} (a1i : Nat) (a2 : Int32) (a4 : Int32) (a5 : Int32) (a6 : Int32) (ha1i : a1i < 5) (hk : ∀ (v7 : Int32) (σ : Sg), RR en ExT mi_X6_cellsInTheEnd evI 104 [(0, .ref (ad en 16 0 0)), (1, .ref (ad en 7 a1i 0)), (2, .int a2), (4, .int a4), (5, .int a5)] [] σ (k v7 σ)) : ∀ (n : Nat) (v7 : Int32) (σ : Sg), RR en ExT mi_X6_cellsInTheEnd evI 59 [(0, .ref (ad en 16 0 0)), (1, .ref (ad en 7 a1i 0)), (2, .int a2), (4, .int a4), (5, .int a5), (6, .int a6), (7, .int v7)] [] σ (L_X6_cellsInTheEnd_59 N k a1i a2 a4 a5 a6 n v7 σ) := by
  intro n
  induction n with
  | zero => intro v7 σ; exact r_none
  | succ n ih =>
    intro v7 σ
    rw [L_X6_cellsInTheEnd_59_s]
    refine r_iload (pc := 59) 6 dX6_cellsInTheEnd_59 rfl ?_
    refine r_iload (pc := 61) 3 dX6_cellsInTheEnd_61 rfl ?_
    refine r_icmp_ge (pc := 63) 104 dX6_cellsInTheEnd_63 (by decide) (fun h6 => ?_) (fun h6 => ?_)
    · exact r_sub [0, 1, 2, 3, 4] rfl (hk v7 σ)
    · refine r_aload_n (pc := 66) 0 dX6_cellsInTheEnd_66 rfl rfl ?_
      refine g_X6_cells (pc := 67)  lf_RX6_9 dX6_cellsInTheEnd_67 ?_
      refine r_iload (pc := 70) 6 dX6_cellsInTheEnd_70 rfl ?_
      refine r_aload_n (pc := 72) 0 dX6_cellsInTheEnd_72 rfl rfl ?_
      refine r_aload_n (pc := 73) 1 dX6_cellsInTheEnd_73 rfl rfl ?_
      refine g_X4_size (pc := 74) ha1i lf_RX6_15 dX6_cellsInTheEnd_74 ?_
      refine r_iload_n (pc := 77) 2 dX6_cellsInTheEnd_77 rfl rfl ?_
      refine r_iload (pc := 78) 6 dX6_cellsInTheEnd_78 rfl ?_
      refine r_iload (pc := 80) 4 dX6_cellsInTheEnd_80 rfl ?_
      refine r_iconst (pc := 82) dX6_cellsInTheEnd_82 kc_iconst_2 ?_
      refine r_irem (pc := 83) dX6_cellsInTheEnd_83 (by decide) ?_
      refine r_if_ne (pc := 84) 91 dX6_cellsInTheEnd_84 (by decide) (fun h7 => ?_) (fun h7 => ?_)
      · refine r_iconst (pc := 87) dX6_cellsInTheEnd_87 kc_iconst_1 ?_
        refine r_goto (pc := 88) 92 dX6_cellsInTheEnd_88 (by decide) ?_
        refine r_iload (pc := 92) 5 dX6_cellsInTheEnd_92 rfl ?_
        refine k_X6_afterTurn (pc := 94) lm_RX6_25  (by decide) (Nat.le_of_ble_eq_true rfl) dX6_cellsInTheEnd_94 (fun w3 h8 => ?_)
        refine r_iast (pc := 97) (n := 128) o17 rfl rfl dX6_cellsInTheEnd_97 (fun h9 => ?_)
        refine r_iinc (pc := 98) 6 [(7, .int (v7 + (1 : Int32))), (0, .ref (ad en 16 0 0)), (1, .ref (ad en 7 a1i 0)), (2, .int a2), (4, .int a4), (5, .int a5), (6, .int a6)] dX6_cellsInTheEnd_98 rfl rfl (by decide) rfl ?_
        refine r_goto (pc := 101) 59 dX6_cellsInTheEnd_101 (by decide) ?_
        exact r_sub [1, 2, 3, 4, 5, 6, 0] rfl (ih (v7 + (1 : Int32)) (uI w3.2 17 0 0 v7.toNatClampNeg w3.1))
      · refine r_iconst (pc := 91) dX6_cellsInTheEnd_91 kc_iconst_0 ?_
        refine r_iload (pc := 92) 5 dX6_cellsInTheEnd_92 rfl ?_
        refine k_X6_afterTurn (pc := 94) lm_RX6_25  (by decide) (Nat.le_of_ble_eq_true rfl) dX6_cellsInTheEnd_94 (fun w4 h10 => ?_)
        refine r_iast (pc := 97) (n := 128) o17 rfl rfl dX6_cellsInTheEnd_97 (fun h11 => ?_)
        refine r_iinc (pc := 98) 6 [(7, .int (v7 + (1 : Int32))), (0, .ref (ad en 16 0 0)), (1, .ref (ad en 7 a1i 0)), (2, .int a2), (4, .int a4), (5, .int a5), (6, .int a6)] dX6_cellsInTheEnd_98 rfl rfl (by decide) rfl ?_
        refine r_goto (pc := 101) 59 dX6_cellsInTheEnd_101 (by decide) ?_
        exact r_sub [1, 2, 3, 4, 5, 6, 0] rfl (ih (v7 + (1 : Int32)) (uI w4.2 17 0 0 v7.toNatClampNeg w4.1))
set_option maxHeartbeats 4000000 in
theorem RL_X6_cellsInTheEnd_43 (en : En) (N : Nat) {k : Int32 → Sg → Option (Int32 × Sg)} (a1i : Nat) (a2 : Int32) (a4 : Int32) (ha1i : a1i < 5) (hk : ∀ (v5 : Int32) (σ : Sg), RR en ExT mi_X6_cellsInTheEnd evI 110 [(0, .ref (ad en 16 0 0)), (1, .ref (ad en 7 a1i 0)), (2, .int a2)] [] σ (k v5 σ)) : ∀ (n : Nat) (v5 : Int32) (σ : Sg), RR en ExT mi_X6_cellsInTheEnd evI 43 [(0, .ref (ad en 16 0 0)), (1, .ref (ad en 7 a1i 0)), (2, .int a2), (4, .int a4), (5, .int v5)] [] σ (L_X6_cellsInTheEnd_43 N k a1i a2 a4 n v5 σ) := by
  intro n
  induction n with
  | zero => intro v5 σ; exact r_none
  | succ n ih =>
    intro v5 σ
    rw [L_X6_cellsInTheEnd_43_s]
    refine r_iload (pc := 43) 4 dX6_cellsInTheEnd_43 rfl ?_
    refine r_if_lt (pc := 45) 110 dX6_cellsInTheEnd_45 (by decide) (fun h4 => ?_) (fun h4 => ?_)
    · exact r_sub [0, 1, 2] rfl (hk v5 σ)
    · refine r_aload_n (pc := 48) 0 dX6_cellsInTheEnd_48 rfl rfl ?_
      refine g_X6_cells (pc := 49)  lf_RX6_9 dX6_cellsInTheEnd_49 ?_
      refine r_iconst (pc := 52) dX6_cellsInTheEnd_52 kc_iconst_0 ?_
      refine r_iald (pc := 53) (n := 128) o17 rfl dX6_cellsInTheEnd_53 (fun h5 => ?_)
      refine r_istore (pc := 54) [(6, .int (rI σ 17 0 0 (0 : Int32).toNatClampNeg)), (0, .ref (ad en 16 0 0)), (1, .ref (ad en 7 a1i 0)), (2, .int a2), (4, .int a4), (5, .int v5)] dX6_cellsInTheEnd_54 (by decide) rfl ?_
      refine r_iconst (pc := 56) dX6_cellsInTheEnd_56 kc_iconst_0 ?_
      refine r_istore (pc := 57) [(7, .int (0 : Int32)), (6, .int (rI σ 17 0 0 (0 : Int32).toNatClampNeg)), (0, .ref (ad en 16 0 0)), (1, .ref (ad en 7 a1i 0)), (2, .int a2), (4, .int a4), (5, .int v5)] dX6_cellsInTheEnd_57 (by decide) rfl ?_
      refine r_sub [2, 3, 4, 5, 6, 1, 0] rfl (RL_X6_cellsInTheEnd_59 en N a1i a2 a4 v5 (rI σ 17 0 0 (0 : Int32).toNatClampNeg) ha1i (fun v7_5 σ_5 => ?_) N (0 : Int32) σ)
      refine r_iinc (pc := 104) 4 [(5, .int (v5 + (-1 : Int32))), (0, .ref (ad en 16 0 0)), (1, .ref (ad en 7 a1i 0)), (2, .int a2), (4, .int a4)] dX6_cellsInTheEnd_104 rfl rfl (by decide) rfl ?_
      refine r_goto (pc := 107) 43 dX6_cellsInTheEnd_107 (by decide) ?_
      exact r_sub [1, 2, 3, 4, 0] rfl (ih (v5 + (-1 : Int32)) σ_5)
set_option maxHeartbeats 4000000 in
theorem R_X6_cellsInTheEnd (en : En) (N : Nat) (q0i : Nat) (p1 : Int32) (p2 : Int32) (hq0i : q0i < 5) (σ : Sg) : RR en ExT mi_X6_cellsInTheEnd evI 0 [(0, .ref (ad en 16 0 0)), (1, .ref (ad en 7 q0i 0)), (2, .int p1), (3, .int p2)] [] σ (f_X6_cellsInTheEnd N q0i p1 p2 σ) := by
  unfold f_X6_cellsInTheEnd
  refine r_iconst (pc := 0) dX6_cellsInTheEnd_0 kc_iconst_1 ?_
  refine r_aload_n (pc := 1) 1 dX6_cellsInTheEnd_1 rfl rfl ?_
  refine g_X4_size (pc := 2) hq0i lf_RX6_15 dX6_cellsInTheEnd_2 ?_
  refine r_ishl (pc := 5) dX6_cellsInTheEnd_5 ?_
  refine r_istore (pc := 6) [(4, .int ((1 : Int32) <<< ((rI σ 7 q0i 0 1) &&& 31))), (0, .ref (ad en 16 0 0)), (1, .ref (ad en 7 q0i 0)), (2, .int p1), (3, .int p2)] dX6_cellsInTheEnd_6 (by decide) rfl ?_
  refine r_iconst (pc := 8) dX6_cellsInTheEnd_8 kc_iconst_0 ?_
  refine r_istore (pc := 9) [(5, .int (0 : Int32)), (4, .int ((1 : Int32) <<< ((rI σ 7 q0i 0 1) &&& 31))), (0, .ref (ad en 16 0 0)), (1, .ref (ad en 7 q0i 0)), (2, .int p1), (3, .int p2)] dX6_cellsInTheEnd_9 (by decide) rfl ?_
  refine r_sub [2, 3, 4, 5, 1, 0] rfl (RL_X6_cellsInTheEnd_11 en N q0i p1 p2 ((1 : Int32) <<< ((rI σ 7 q0i 0 1) &&& 31)) hq0i (fun v5_2 σ_2 => ?_) N (0 : Int32) σ)
  refine r_iload_n (pc := 38) 3 dX6_cellsInTheEnd_38 rfl rfl ?_
  refine r_iconst (pc := 39) dX6_cellsInTheEnd_39 kc_iconst_1 ?_
  refine r_isub (pc := 40) dX6_cellsInTheEnd_40 ?_
  refine r_istore (pc := 41) [(5, .int (p2 - (1 : Int32))), (0, .ref (ad en 16 0 0)), (1, .ref (ad en 7 q0i 0)), (2, .int p1), (3, .int p2), (4, .int ((1 : Int32) <<< ((rI σ 7 q0i 0 1) &&& 31)))] dX6_cellsInTheEnd_41 (by decide) rfl ?_
  refine r_sub [1, 2, 3, 5, 0] rfl (RL_X6_cellsInTheEnd_43 en N q0i p1 ((1 : Int32) <<< ((rI σ 7 q0i 0 1) &&& 31)) hq0i (fun v5_6 σ_6 => ?_) N (p2 - (1 : Int32)) σ_2)
  refine r_aload_n (pc := 110) 0 dX6_cellsInTheEnd_110 rfl rfl ?_
  refine g_X6_cells (pc := 111)  lf_RX6_9 dX6_cellsInTheEnd_111 ?_
  refine r_aload_n (pc := 114) 1 dX6_cellsInTheEnd_114 rfl rfl ?_
  refine r_iload_n (pc := 115) 2 dX6_cellsInTheEnd_115 rfl rfl ?_
  refine k_X4_after (pc := 116) lm_RX6_29  (by decide) (Nat.le_of_ble_eq_true rfl) dX6_cellsInTheEnd_116 hq0i (fun w7 h12 => ?_)
  refine r_iald (pc := 119) (n := 128) o17 rfl dX6_cellsInTheEnd_119 (fun h13 => ?_)
  exact r_iret (pc := 120) rfl dX6_cellsInTheEnd_120
theorem ok_X6_cellsInTheEnd : yOk yX6_cellsInTheEnd cX6_cellsInTheEnd 8 (some .int) := ⟨in_lwG (by decide +kernel) rfl, in_lwG (by decide +kernel) rfl, by decide, by decide, by decide⟩
theorem k_X6_cellsInTheEnd {en : En} {Ex : (Nat → Prop) → State → Prop} {mi : Mi} {α : Type} {ev : α → Option Value × Sg} {pc index : Nat} {lv : List (Nat × Value)} {rest : List Value} {σ : Sg} {N : Nat} {k : (Int32 × Sg) → Option α} {q0i : Nat} {p1 : Int32} {p2 : Int32} (hlink : Cond.methodLink mi.1 index yX6_cellsInTheEnd ∈ lwG) (hroom : 3 + 1 ≤ mi.2.2.2.2) (hcat : (rest.map fun v => v.category).sum ≤ 8) (hd : decode mi.2.1 pc = .ok (.invokevirtual index, 3)) (hq0i : q0i < 5) (h : ∀ w : Int32 × Sg, f_X6_cellsInTheEnd N q0i p1 p2 σ = some w → RR en Ex mi ev (pc + 3) lv (.int w.1 :: rest) w.2 (k w)) : RR en Ex mi ev pc lv (.int p2 :: .int p1 :: .ref (ad en 7 q0i 0) :: .ref (ad en 16 0 0) :: rest) σ ((f_X6_cellsInTheEnd N q0i p1 p2 σ).bind k) :=
  r_callV (n := 3) [.ref (ad en 7 q0i 0), .int p1, .int p2] ok_X6_cellsInTheEnd hlink (in_lwG (by decide +kernel) rfl) (in_lwG (by decide +kernel) rfl) (by decide +kernel) rfl hroom (by decide) o16 rfl rfl hcat (R_X6_cellsInTheEnd en N q0i p1 p2 hq0i σ) (Nat.le_of_ble_eq_true rfl) hd h
