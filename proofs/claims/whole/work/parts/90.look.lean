abbrev mJ13_bitCount_95d88 : tq_M := (yJ13_bitCount_95d88, cJ13_bitCount_95d88, 2, (Option.some Jvm.ClassFile.FieldType.int), 0, 0)
theorem k_J13_314 : Cond.constantLong RJ13 314 (6148914691236517205) ∈ lw_tbl := tq_sg3 _ (List.mem_of_getElem? (i := 194) rfl)
theorem k_J13_316 : Cond.constantLong RJ13 316 (3689348814741910323) ∈ lw_tbl := tq_sg3 _ (List.mem_of_getElem? (i := 195) rfl)
theorem k_J13_318 : Cond.constantLong RJ13 318 (1085102592571150095) ∈ lw_tbl := tq_sg3 _ (List.mem_of_getElem? (i := 196) rfl)
theorem rJ13_bitCount_95d88_0 : tq_D cJ13_bitCount_95d88 0 (.lload_n 0) 1 1 := ⟨by decide +kernel, rfl⟩
theorem rJ13_bitCount_95d88_1 : tq_D cJ13_bitCount_95d88 1 (.lload_n 0) 1 2 := ⟨by decide +kernel, rfl⟩
theorem rJ13_bitCount_95d88_2 : tq_D cJ13_bitCount_95d88 2 (.iconst 1) 1 3 := ⟨by decide +kernel, rfl⟩
theorem rJ13_bitCount_95d88_3 : tq_D cJ13_bitCount_95d88 3 (.lushr) 1 4 := ⟨by decide +kernel, rfl⟩
theorem rJ13_bitCount_95d88_4 : tq_D cJ13_bitCount_95d88 4 (.ldc2_w 314) 3 7 := ⟨by decide +kernel, rfl⟩
theorem rJ13_bitCount_95d88_7 : tq_D cJ13_bitCount_95d88 7 (.land) 1 8 := ⟨by decide +kernel, rfl⟩
theorem rJ13_bitCount_95d88_8 : tq_D cJ13_bitCount_95d88 8 (.lsub) 1 9 := ⟨by decide +kernel, rfl⟩
theorem rJ13_bitCount_95d88_9 : tq_D cJ13_bitCount_95d88 9 (.lstore_n 0) 1 10 := ⟨by decide +kernel, rfl⟩
theorem rJ13_bitCount_95d88_10 : tq_D cJ13_bitCount_95d88 10 (.lload_n 0) 1 11 := ⟨by decide +kernel, rfl⟩
theorem rJ13_bitCount_95d88_11 : tq_D cJ13_bitCount_95d88 11 (.ldc2_w 316) 3 14 := ⟨by decide +kernel, rfl⟩
theorem rJ13_bitCount_95d88_14 : tq_D cJ13_bitCount_95d88 14 (.land) 1 15 := ⟨by decide +kernel, rfl⟩
theorem rJ13_bitCount_95d88_15 : tq_D cJ13_bitCount_95d88 15 (.lload_n 0) 1 16 := ⟨by decide +kernel, rfl⟩
theorem rJ13_bitCount_95d88_16 : tq_D cJ13_bitCount_95d88 16 (.iconst 2) 1 17 := ⟨by decide +kernel, rfl⟩
theorem rJ13_bitCount_95d88_17 : tq_D cJ13_bitCount_95d88 17 (.lushr) 1 18 := ⟨by decide +kernel, rfl⟩
theorem rJ13_bitCount_95d88_18 : tq_D cJ13_bitCount_95d88 18 (.ldc2_w 316) 3 21 := ⟨by decide +kernel, rfl⟩
theorem rJ13_bitCount_95d88_21 : tq_D cJ13_bitCount_95d88 21 (.land) 1 22 := ⟨by decide +kernel, rfl⟩
theorem rJ13_bitCount_95d88_22 : tq_D cJ13_bitCount_95d88 22 (.ladd) 1 23 := ⟨by decide +kernel, rfl⟩
theorem rJ13_bitCount_95d88_23 : tq_D cJ13_bitCount_95d88 23 (.lstore_n 0) 1 24 := ⟨by decide +kernel, rfl⟩
theorem rJ13_bitCount_95d88_24 : tq_D cJ13_bitCount_95d88 24 (.lload_n 0) 1 25 := ⟨by decide +kernel, rfl⟩
theorem rJ13_bitCount_95d88_25 : tq_D cJ13_bitCount_95d88 25 (.lload_n 0) 1 26 := ⟨by decide +kernel, rfl⟩
theorem rJ13_bitCount_95d88_26 : tq_D cJ13_bitCount_95d88 26 (.iconst 4) 1 27 := ⟨by decide +kernel, rfl⟩
theorem rJ13_bitCount_95d88_27 : tq_D cJ13_bitCount_95d88 27 (.lushr) 1 28 := ⟨by decide +kernel, rfl⟩
theorem rJ13_bitCount_95d88_28 : tq_D cJ13_bitCount_95d88 28 (.ladd) 1 29 := ⟨by decide +kernel, rfl⟩
theorem rJ13_bitCount_95d88_29 : tq_D cJ13_bitCount_95d88 29 (.ldc2_w 318) 3 32 := ⟨by decide +kernel, rfl⟩
theorem rJ13_bitCount_95d88_32 : tq_D cJ13_bitCount_95d88 32 (.land) 1 33 := ⟨by decide +kernel, rfl⟩
theorem rJ13_bitCount_95d88_33 : tq_D cJ13_bitCount_95d88 33 (.lstore_n 0) 1 34 := ⟨by decide +kernel, rfl⟩
theorem rJ13_bitCount_95d88_34 : tq_D cJ13_bitCount_95d88 34 (.lload_n 0) 1 35 := ⟨by decide +kernel, rfl⟩
theorem rJ13_bitCount_95d88_35 : tq_D cJ13_bitCount_95d88 35 (.lload_n 0) 1 36 := ⟨by decide +kernel, rfl⟩
theorem rJ13_bitCount_95d88_36 : tq_D cJ13_bitCount_95d88 36 (.bipush 8) 2 38 := ⟨by decide +kernel, rfl⟩
theorem rJ13_bitCount_95d88_38 : tq_D cJ13_bitCount_95d88 38 (.lushr) 1 39 := ⟨by decide +kernel, rfl⟩
theorem rJ13_bitCount_95d88_39 : tq_D cJ13_bitCount_95d88 39 (.ladd) 1 40 := ⟨by decide +kernel, rfl⟩
theorem rJ13_bitCount_95d88_40 : tq_D cJ13_bitCount_95d88 40 (.lstore_n 0) 1 41 := ⟨by decide +kernel, rfl⟩
theorem rJ13_bitCount_95d88_41 : tq_D cJ13_bitCount_95d88 41 (.lload_n 0) 1 42 := ⟨by decide +kernel, rfl⟩
theorem rJ13_bitCount_95d88_42 : tq_D cJ13_bitCount_95d88 42 (.lload_n 0) 1 43 := ⟨by decide +kernel, rfl⟩
theorem rJ13_bitCount_95d88_43 : tq_D cJ13_bitCount_95d88 43 (.bipush 16) 2 45 := ⟨by decide +kernel, rfl⟩
theorem rJ13_bitCount_95d88_45 : tq_D cJ13_bitCount_95d88 45 (.lushr) 1 46 := ⟨by decide +kernel, rfl⟩
theorem rJ13_bitCount_95d88_46 : tq_D cJ13_bitCount_95d88 46 (.ladd) 1 47 := ⟨by decide +kernel, rfl⟩
theorem rJ13_bitCount_95d88_47 : tq_D cJ13_bitCount_95d88 47 (.lstore_n 0) 1 48 := ⟨by decide +kernel, rfl⟩
theorem rJ13_bitCount_95d88_48 : tq_D cJ13_bitCount_95d88 48 (.lload_n 0) 1 49 := ⟨by decide +kernel, rfl⟩
theorem rJ13_bitCount_95d88_49 : tq_D cJ13_bitCount_95d88 49 (.lload_n 0) 1 50 := ⟨by decide +kernel, rfl⟩
theorem rJ13_bitCount_95d88_50 : tq_D cJ13_bitCount_95d88 50 (.bipush 32) 2 52 := ⟨by decide +kernel, rfl⟩
theorem rJ13_bitCount_95d88_52 : tq_D cJ13_bitCount_95d88 52 (.lushr) 1 53 := ⟨by decide +kernel, rfl⟩
theorem rJ13_bitCount_95d88_53 : tq_D cJ13_bitCount_95d88 53 (.ladd) 1 54 := ⟨by decide +kernel, rfl⟩
theorem rJ13_bitCount_95d88_54 : tq_D cJ13_bitCount_95d88 54 (.lstore_n 0) 1 55 := ⟨by decide +kernel, rfl⟩
theorem rJ13_bitCount_95d88_55 : tq_D cJ13_bitCount_95d88 55 (.lload_n 0) 1 56 := ⟨by decide +kernel, rfl⟩
theorem rJ13_bitCount_95d88_56 : tq_D cJ13_bitCount_95d88 56 (.l2i) 1 57 := ⟨by decide +kernel, rfl⟩
theorem rJ13_bitCount_95d88_57 : tq_D cJ13_bitCount_95d88 57 (.bipush 127) 2 59 := ⟨by decide +kernel, rfl⟩
theorem rJ13_bitCount_95d88_59 : tq_D cJ13_bitCount_95d88 59 (.iand) 1 60 := ⟨by decide +kernel, rfl⟩
theorem rJ13_bitCount_95d88_60 : decode cJ13_bitCount_95d88 60 = .ok (.ireturn, 1) := by decide +kernel
def FJ13_bitCount_95d88 (I : tq_PI) (L : tq_PL) (a0 : Int64) : Int32 :=
  ((Int64.toInt32 ((((((((a0 - (((Int64.toUInt64 a0 >>> ((Int32.toInt64 (1 : Int32)).toUInt64 &&& Int64.toUInt64 63)).toInt64) &&& (6148914691236517205 : Int64))) &&& (3689348814741910323 : Int64)) + (((Int64.toUInt64 (a0 - (((Int64.toUInt64 a0 >>> ((Int32.toInt64 (1 : Int32)).toUInt64 &&& Int64.toUInt64 63)).toInt64) &&& (6148914691236517205 : Int64))) >>> ((Int32.toInt64 (2 : Int32)).toUInt64 &&& Int64.toUInt64 63)).toInt64) &&& (3689348814741910323 : Int64))) + ((Int64.toUInt64 (((a0 - (((Int64.toUInt64 a0 >>> ((Int32.toInt64 (1 : Int32)).toUInt64 &&& Int64.toUInt64 63)).toInt64) &&& (6148914691236517205 : Int64))) &&& (3689348814741910323 : Int64)) + (((Int64.toUInt64 (a0 - (((Int64.toUInt64 a0 >>> ((Int32.toInt64 (1 : Int32)).toUInt64 &&& Int64.toUInt64 63)).toInt64) &&& (6148914691236517205 : Int64))) >>> ((Int32.toInt64 (2 : Int32)).toUInt64 &&& Int64.toUInt64 63)).toInt64) &&& (3689348814741910323 : Int64))) >>> ((Int32.toInt64 (4 : Int32)).toUInt64 &&& Int64.toUInt64 63)).toInt64)) &&& (1085102592571150095 : Int64)) + ((Int64.toUInt64 (((((a0 - (((Int64.toUInt64 a0 >>> ((Int32.toInt64 (1 : Int32)).toUInt64 &&& Int64.toUInt64 63)).toInt64) &&& (6148914691236517205 : Int64))) &&& (3689348814741910323 : Int64)) + (((Int64.toUInt64 (a0 - (((Int64.toUInt64 a0 >>> ((Int32.toInt64 (1 : Int32)).toUInt64 &&& Int64.toUInt64 63)).toInt64) &&& (6148914691236517205 : Int64))) >>> ((Int32.toInt64 (2 : Int32)).toUInt64 &&& Int64.toUInt64 63)).toInt64) &&& (3689348814741910323 : Int64))) + ((Int64.toUInt64 (((a0 - (((Int64.toUInt64 a0 >>> ((Int32.toInt64 (1 : Int32)).toUInt64 &&& Int64.toUInt64 63)).toInt64) &&& (6148914691236517205 : Int64))) &&& (3689348814741910323 : Int64)) + (((Int64.toUInt64 (a0 - (((Int64.toUInt64 a0 >>> ((Int32.toInt64 (1 : Int32)).toUInt64 &&& Int64.toUInt64 63)).toInt64) &&& (6148914691236517205 : Int64))) >>> ((Int32.toInt64 (2 : Int32)).toUInt64 &&& Int64.toUInt64 63)).toInt64) &&& (3689348814741910323 : Int64))) >>> ((Int32.toInt64 (4 : Int32)).toUInt64 &&& Int64.toUInt64 63)).toInt64)) &&& (1085102592571150095 : Int64)) >>> ((Int32.toInt64 (8 : Int32)).toUInt64 &&& Int64.toUInt64 63)).toInt64)) + ((Int64.toUInt64 ((((((a0 - (((Int64.toUInt64 a0 >>> ((Int32.toInt64 (1 : Int32)).toUInt64 &&& Int64.toUInt64 63)).toInt64) &&& (6148914691236517205 : Int64))) &&& (3689348814741910323 : Int64)) + (((Int64.toUInt64 (a0 - (((Int64.toUInt64 a0 >>> ((Int32.toInt64 (1 : Int32)).toUInt64 &&& Int64.toUInt64 63)).toInt64) &&& (6148914691236517205 : Int64))) >>> ((Int32.toInt64 (2 : Int32)).toUInt64 &&& Int64.toUInt64 63)).toInt64) &&& (3689348814741910323 : Int64))) + ((Int64.toUInt64 (((a0 - (((Int64.toUInt64 a0 >>> ((Int32.toInt64 (1 : Int32)).toUInt64 &&& Int64.toUInt64 63)).toInt64) &&& (6148914691236517205 : Int64))) &&& (3689348814741910323 : Int64)) + (((Int64.toUInt64 (a0 - (((Int64.toUInt64 a0 >>> ((Int32.toInt64 (1 : Int32)).toUInt64 &&& Int64.toUInt64 63)).toInt64) &&& (6148914691236517205 : Int64))) >>> ((Int32.toInt64 (2 : Int32)).toUInt64 &&& Int64.toUInt64 63)).toInt64) &&& (3689348814741910323 : Int64))) >>> ((Int32.toInt64 (4 : Int32)).toUInt64 &&& Int64.toUInt64 63)).toInt64)) &&& (1085102592571150095 : Int64)) + ((Int64.toUInt64 (((((a0 - (((Int64.toUInt64 a0 >>> ((Int32.toInt64 (1 : Int32)).toUInt64 &&& Int64.toUInt64 63)).toInt64) &&& (6148914691236517205 : Int64))) &&& (3689348814741910323 : Int64)) + (((Int64.toUInt64 (a0 - (((Int64.toUInt64 a0 >>> ((Int32.toInt64 (1 : Int32)).toUInt64 &&& Int64.toUInt64 63)).toInt64) &&& (6148914691236517205 : Int64))) >>> ((Int32.toInt64 (2 : Int32)).toUInt64 &&& Int64.toUInt64 63)).toInt64) &&& (3689348814741910323 : Int64))) + ((Int64.toUInt64 (((a0 - (((Int64.toUInt64 a0 >>> ((Int32.toInt64 (1 : Int32)).toUInt64 &&& Int64.toUInt64 63)).toInt64) &&& (6148914691236517205 : Int64))) &&& (3689348814741910323 : Int64)) + (((Int64.toUInt64 (a0 - (((Int64.toUInt64 a0 >>> ((Int32.toInt64 (1 : Int32)).toUInt64 &&& Int64.toUInt64 63)).toInt64) &&& (6148914691236517205 : Int64))) >>> ((Int32.toInt64 (2 : Int32)).toUInt64 &&& Int64.toUInt64 63)).toInt64) &&& (3689348814741910323 : Int64))) >>> ((Int32.toInt64 (4 : Int32)).toUInt64 &&& Int64.toUInt64 63)).toInt64)) &&& (1085102592571150095 : Int64)) >>> ((Int32.toInt64 (8 : Int32)).toUInt64 &&& Int64.toUInt64 63)).toInt64)) >>> ((Int32.toInt64 (16 : Int32)).toUInt64 &&& Int64.toUInt64 63)).toInt64)) + ((Int64.toUInt64 (((((((a0 - (((Int64.toUInt64 a0 >>> ((Int32.toInt64 (1 : Int32)).toUInt64 &&& Int64.toUInt64 63)).toInt64) &&& (6148914691236517205 : Int64))) &&& (3689348814741910323 : Int64)) + (((Int64.toUInt64 (a0 - (((Int64.toUInt64 a0 >>> ((Int32.toInt64 (1 : Int32)).toUInt64 &&& Int64.toUInt64 63)).toInt64) &&& (6148914691236517205 : Int64))) >>> ((Int32.toInt64 (2 : Int32)).toUInt64 &&& Int64.toUInt64 63)).toInt64) &&& (3689348814741910323 : Int64))) + ((Int64.toUInt64 (((a0 - (((Int64.toUInt64 a0 >>> ((Int32.toInt64 (1 : Int32)).toUInt64 &&& Int64.toUInt64 63)).toInt64) &&& (6148914691236517205 : Int64))) &&& (3689348814741910323 : Int64)) + (((Int64.toUInt64 (a0 - (((Int64.toUInt64 a0 >>> ((Int32.toInt64 (1 : Int32)).toUInt64 &&& Int64.toUInt64 63)).toInt64) &&& (6148914691236517205 : Int64))) >>> ((Int32.toInt64 (2 : Int32)).toUInt64 &&& Int64.toUInt64 63)).toInt64) &&& (3689348814741910323 : Int64))) >>> ((Int32.toInt64 (4 : Int32)).toUInt64 &&& Int64.toUInt64 63)).toInt64)) &&& (1085102592571150095 : Int64)) + ((Int64.toUInt64 (((((a0 - (((Int64.toUInt64 a0 >>> ((Int32.toInt64 (1 : Int32)).toUInt64 &&& Int64.toUInt64 63)).toInt64) &&& (6148914691236517205 : Int64))) &&& (3689348814741910323 : Int64)) + (((Int64.toUInt64 (a0 - (((Int64.toUInt64 a0 >>> ((Int32.toInt64 (1 : Int32)).toUInt64 &&& Int64.toUInt64 63)).toInt64) &&& (6148914691236517205 : Int64))) >>> ((Int32.toInt64 (2 : Int32)).toUInt64 &&& Int64.toUInt64 63)).toInt64) &&& (3689348814741910323 : Int64))) + ((Int64.toUInt64 (((a0 - (((Int64.toUInt64 a0 >>> ((Int32.toInt64 (1 : Int32)).toUInt64 &&& Int64.toUInt64 63)).toInt64) &&& (6148914691236517205 : Int64))) &&& (3689348814741910323 : Int64)) + (((Int64.toUInt64 (a0 - (((Int64.toUInt64 a0 >>> ((Int32.toInt64 (1 : Int32)).toUInt64 &&& Int64.toUInt64 63)).toInt64) &&& (6148914691236517205 : Int64))) >>> ((Int32.toInt64 (2 : Int32)).toUInt64 &&& Int64.toUInt64 63)).toInt64) &&& (3689348814741910323 : Int64))) >>> ((Int32.toInt64 (4 : Int32)).toUInt64 &&& Int64.toUInt64 63)).toInt64)) &&& (1085102592571150095 : Int64)) >>> ((Int32.toInt64 (8 : Int32)).toUInt64 &&& Int64.toUInt64 63)).toInt64)) + ((Int64.toUInt64 ((((((a0 - (((Int64.toUInt64 a0 >>> ((Int32.toInt64 (1 : Int32)).toUInt64 &&& Int64.toUInt64 63)).toInt64) &&& (6148914691236517205 : Int64))) &&& (3689348814741910323 : Int64)) + (((Int64.toUInt64 (a0 - (((Int64.toUInt64 a0 >>> ((Int32.toInt64 (1 : Int32)).toUInt64 &&& Int64.toUInt64 63)).toInt64) &&& (6148914691236517205 : Int64))) >>> ((Int32.toInt64 (2 : Int32)).toUInt64 &&& Int64.toUInt64 63)).toInt64) &&& (3689348814741910323 : Int64))) + ((Int64.toUInt64 (((a0 - (((Int64.toUInt64 a0 >>> ((Int32.toInt64 (1 : Int32)).toUInt64 &&& Int64.toUInt64 63)).toInt64) &&& (6148914691236517205 : Int64))) &&& (3689348814741910323 : Int64)) + (((Int64.toUInt64 (a0 - (((Int64.toUInt64 a0 >>> ((Int32.toInt64 (1 : Int32)).toUInt64 &&& Int64.toUInt64 63)).toInt64) &&& (6148914691236517205 : Int64))) >>> ((Int32.toInt64 (2 : Int32)).toUInt64 &&& Int64.toUInt64 63)).toInt64) &&& (3689348814741910323 : Int64))) >>> ((Int32.toInt64 (4 : Int32)).toUInt64 &&& Int64.toUInt64 63)).toInt64)) &&& (1085102592571150095 : Int64)) + ((Int64.toUInt64 (((((a0 - (((Int64.toUInt64 a0 >>> ((Int32.toInt64 (1 : Int32)).toUInt64 &&& Int64.toUInt64 63)).toInt64) &&& (6148914691236517205 : Int64))) &&& (3689348814741910323 : Int64)) + (((Int64.toUInt64 (a0 - (((Int64.toUInt64 a0 >>> ((Int32.toInt64 (1 : Int32)).toUInt64 &&& Int64.toUInt64 63)).toInt64) &&& (6148914691236517205 : Int64))) >>> ((Int32.toInt64 (2 : Int32)).toUInt64 &&& Int64.toUInt64 63)).toInt64) &&& (3689348814741910323 : Int64))) + ((Int64.toUInt64 (((a0 - (((Int64.toUInt64 a0 >>> ((Int32.toInt64 (1 : Int32)).toUInt64 &&& Int64.toUInt64 63)).toInt64) &&& (6148914691236517205 : Int64))) &&& (3689348814741910323 : Int64)) + (((Int64.toUInt64 (a0 - (((Int64.toUInt64 a0 >>> ((Int32.toInt64 (1 : Int32)).toUInt64 &&& Int64.toUInt64 63)).toInt64) &&& (6148914691236517205 : Int64))) >>> ((Int32.toInt64 (2 : Int32)).toUInt64 &&& Int64.toUInt64 63)).toInt64) &&& (3689348814741910323 : Int64))) >>> ((Int32.toInt64 (4 : Int32)).toUInt64 &&& Int64.toUInt64 63)).toInt64)) &&& (1085102592571150095 : Int64)) >>> ((Int32.toInt64 (8 : Int32)).toUInt64 &&& Int64.toUInt64 63)).toInt64)) >>> ((Int32.toInt64 (16 : Int32)).toUInt64 &&& Int64.toUInt64 63)).toInt64)) >>> ((Int32.toInt64 (32 : Int32)).toUInt64 &&& Int64.toUInt64 63)).toInt64))) &&& (127 : Int32))
set_option maxRecDepth 100000 in
set_option maxHeartbeats 4000000 in
theorem CJ13_bitCount_95d88 {S : Nat × (Nat → Int32)} {d : Nat} {I : tq_PI} {L : tq_PL} {a0 : Int64}  {out : Int32} (hf : FJ13_bitCount_95d88 I L a0 = out) : tq_K S mJ13_bitCount_95d88 d [.long a0] I L (tq_one2 (some (.int out)) I L) := by
  unfold FJ13_bitCount_95d88 at hf
  refine tq_K_of (by decide) (Nat.le_of_ble_eq_true rfl) (ls := [.long a0, tq_u]) rfl ?_
  refine tq_lload_n rJ13_bitCount_95d88_0 rfl ?_
  refine tq_lload_n rJ13_bitCount_95d88_1 rfl ?_
  refine tq_iconst (1 : Int32) rJ13_bitCount_95d88_2 (by decide) ?_
  refine tq_lushr rJ13_bitCount_95d88_3 ?_
  refine tq_ldc2 rJ13_bitCount_95d88_4 (k_J13_314) ?_
  refine tq_land rJ13_bitCount_95d88_7 ?_
  refine tq_lsub rJ13_bitCount_95d88_8 ?_
  refine tq_lstore_n ([.long (a0 - (((Int64.toUInt64 a0 >>> ((Int32.toInt64 (1 : Int32)).toUInt64 &&& Int64.toUInt64 63)).toInt64) &&& (6148914691236517205 : Int64))), tq_u]) rJ13_bitCount_95d88_9 (Nat.le_of_ble_eq_true rfl) rfl ?_
  refine tq_lload_n rJ13_bitCount_95d88_10 rfl ?_
  refine tq_ldc2 rJ13_bitCount_95d88_11 (k_J13_316) ?_
  refine tq_land rJ13_bitCount_95d88_14 ?_
  refine tq_lload_n rJ13_bitCount_95d88_15 rfl ?_
  refine tq_iconst (2 : Int32) rJ13_bitCount_95d88_16 (by decide) ?_
  refine tq_lushr rJ13_bitCount_95d88_17 ?_
  refine tq_ldc2 rJ13_bitCount_95d88_18 (k_J13_316) ?_
  refine tq_land rJ13_bitCount_95d88_21 ?_
  refine tq_ladd rJ13_bitCount_95d88_22 ?_
  refine tq_lstore_n ([.long (((a0 - (((Int64.toUInt64 a0 >>> ((Int32.toInt64 (1 : Int32)).toUInt64 &&& Int64.toUInt64 63)).toInt64) &&& (6148914691236517205 : Int64))) &&& (3689348814741910323 : Int64)) + (((Int64.toUInt64 (a0 - (((Int64.toUInt64 a0 >>> ((Int32.toInt64 (1 : Int32)).toUInt64 &&& Int64.toUInt64 63)).toInt64) &&& (6148914691236517205 : Int64))) >>> ((Int32.toInt64 (2 : Int32)).toUInt64 &&& Int64.toUInt64 63)).toInt64) &&& (3689348814741910323 : Int64))), tq_u]) rJ13_bitCount_95d88_23 (Nat.le_of_ble_eq_true rfl) rfl ?_
  refine tq_lload_n rJ13_bitCount_95d88_24 rfl ?_
  refine tq_lload_n rJ13_bitCount_95d88_25 rfl ?_
  refine tq_iconst (4 : Int32) rJ13_bitCount_95d88_26 (by decide) ?_
  refine tq_lushr rJ13_bitCount_95d88_27 ?_
  refine tq_ladd rJ13_bitCount_95d88_28 ?_
  refine tq_ldc2 rJ13_bitCount_95d88_29 (k_J13_318) ?_
  refine tq_land rJ13_bitCount_95d88_32 ?_
  refine tq_lstore_n ([.long (((((a0 - (((Int64.toUInt64 a0 >>> ((Int32.toInt64 (1 : Int32)).toUInt64 &&& Int64.toUInt64 63)).toInt64) &&& (6148914691236517205 : Int64))) &&& (3689348814741910323 : Int64)) + (((Int64.toUInt64 (a0 - (((Int64.toUInt64 a0 >>> ((Int32.toInt64 (1 : Int32)).toUInt64 &&& Int64.toUInt64 63)).toInt64) &&& (6148914691236517205 : Int64))) >>> ((Int32.toInt64 (2 : Int32)).toUInt64 &&& Int64.toUInt64 63)).toInt64) &&& (3689348814741910323 : Int64))) + ((Int64.toUInt64 (((a0 - (((Int64.toUInt64 a0 >>> ((Int32.toInt64 (1 : Int32)).toUInt64 &&& Int64.toUInt64 63)).toInt64) &&& (6148914691236517205 : Int64))) &&& (3689348814741910323 : Int64)) + (((Int64.toUInt64 (a0 - (((Int64.toUInt64 a0 >>> ((Int32.toInt64 (1 : Int32)).toUInt64 &&& Int64.toUInt64 63)).toInt64) &&& (6148914691236517205 : Int64))) >>> ((Int32.toInt64 (2 : Int32)).toUInt64 &&& Int64.toUInt64 63)).toInt64) &&& (3689348814741910323 : Int64))) >>> ((Int32.toInt64 (4 : Int32)).toUInt64 &&& Int64.toUInt64 63)).toInt64)) &&& (1085102592571150095 : Int64)), tq_u]) rJ13_bitCount_95d88_33 (Nat.le_of_ble_eq_true rfl) rfl ?_
  refine tq_lload_n rJ13_bitCount_95d88_34 rfl ?_
  refine tq_lload_n rJ13_bitCount_95d88_35 rfl ?_
  refine tq_bipush (8 : Int32) rJ13_bitCount_95d88_36 (by decide) ?_
  refine tq_lushr rJ13_bitCount_95d88_38 ?_
  refine tq_ladd rJ13_bitCount_95d88_39 ?_
  refine tq_lstore_n ([.long ((((((a0 - (((Int64.toUInt64 a0 >>> ((Int32.toInt64 (1 : Int32)).toUInt64 &&& Int64.toUInt64 63)).toInt64) &&& (6148914691236517205 : Int64))) &&& (3689348814741910323 : Int64)) + (((Int64.toUInt64 (a0 - (((Int64.toUInt64 a0 >>> ((Int32.toInt64 (1 : Int32)).toUInt64 &&& Int64.toUInt64 63)).toInt64) &&& (6148914691236517205 : Int64))) >>> ((Int32.toInt64 (2 : Int32)).toUInt64 &&& Int64.toUInt64 63)).toInt64) &&& (3689348814741910323 : Int64))) + ((Int64.toUInt64 (((a0 - (((Int64.toUInt64 a0 >>> ((Int32.toInt64 (1 : Int32)).toUInt64 &&& Int64.toUInt64 63)).toInt64) &&& (6148914691236517205 : Int64))) &&& (3689348814741910323 : Int64)) + (((Int64.toUInt64 (a0 - (((Int64.toUInt64 a0 >>> ((Int32.toInt64 (1 : Int32)).toUInt64 &&& Int64.toUInt64 63)).toInt64) &&& (6148914691236517205 : Int64))) >>> ((Int32.toInt64 (2 : Int32)).toUInt64 &&& Int64.toUInt64 63)).toInt64) &&& (3689348814741910323 : Int64))) >>> ((Int32.toInt64 (4 : Int32)).toUInt64 &&& Int64.toUInt64 63)).toInt64)) &&& (1085102592571150095 : Int64)) + ((Int64.toUInt64 (((((a0 - (((Int64.toUInt64 a0 >>> ((Int32.toInt64 (1 : Int32)).toUInt64 &&& Int64.toUInt64 63)).toInt64) &&& (6148914691236517205 : Int64))) &&& (3689348814741910323 : Int64)) + (((Int64.toUInt64 (a0 - (((Int64.toUInt64 a0 >>> ((Int32.toInt64 (1 : Int32)).toUInt64 &&& Int64.toUInt64 63)).toInt64) &&& (6148914691236517205 : Int64))) >>> ((Int32.toInt64 (2 : Int32)).toUInt64 &&& Int64.toUInt64 63)).toInt64) &&& (3689348814741910323 : Int64))) + ((Int64.toUInt64 (((a0 - (((Int64.toUInt64 a0 >>> ((Int32.toInt64 (1 : Int32)).toUInt64 &&& Int64.toUInt64 63)).toInt64) &&& (6148914691236517205 : Int64))) &&& (3689348814741910323 : Int64)) + (((Int64.toUInt64 (a0 - (((Int64.toUInt64 a0 >>> ((Int32.toInt64 (1 : Int32)).toUInt64 &&& Int64.toUInt64 63)).toInt64) &&& (6148914691236517205 : Int64))) >>> ((Int32.toInt64 (2 : Int32)).toUInt64 &&& Int64.toUInt64 63)).toInt64) &&& (3689348814741910323 : Int64))) >>> ((Int32.toInt64 (4 : Int32)).toUInt64 &&& Int64.toUInt64 63)).toInt64)) &&& (1085102592571150095 : Int64)) >>> ((Int32.toInt64 (8 : Int32)).toUInt64 &&& Int64.toUInt64 63)).toInt64)), tq_u]) rJ13_bitCount_95d88_40 (Nat.le_of_ble_eq_true rfl) rfl ?_
  refine tq_lload_n rJ13_bitCount_95d88_41 rfl ?_
  refine tq_lload_n rJ13_bitCount_95d88_42 rfl ?_
  refine tq_bipush (16 : Int32) rJ13_bitCount_95d88_43 (by decide) ?_
  refine tq_lushr rJ13_bitCount_95d88_45 ?_
  refine tq_ladd rJ13_bitCount_95d88_46 ?_
  refine tq_lstore_n ([.long (((((((a0 - (((Int64.toUInt64 a0 >>> ((Int32.toInt64 (1 : Int32)).toUInt64 &&& Int64.toUInt64 63)).toInt64) &&& (6148914691236517205 : Int64))) &&& (3689348814741910323 : Int64)) + (((Int64.toUInt64 (a0 - (((Int64.toUInt64 a0 >>> ((Int32.toInt64 (1 : Int32)).toUInt64 &&& Int64.toUInt64 63)).toInt64) &&& (6148914691236517205 : Int64))) >>> ((Int32.toInt64 (2 : Int32)).toUInt64 &&& Int64.toUInt64 63)).toInt64) &&& (3689348814741910323 : Int64))) + ((Int64.toUInt64 (((a0 - (((Int64.toUInt64 a0 >>> ((Int32.toInt64 (1 : Int32)).toUInt64 &&& Int64.toUInt64 63)).toInt64) &&& (6148914691236517205 : Int64))) &&& (3689348814741910323 : Int64)) + (((Int64.toUInt64 (a0 - (((Int64.toUInt64 a0 >>> ((Int32.toInt64 (1 : Int32)).toUInt64 &&& Int64.toUInt64 63)).toInt64) &&& (6148914691236517205 : Int64))) >>> ((Int32.toInt64 (2 : Int32)).toUInt64 &&& Int64.toUInt64 63)).toInt64) &&& (3689348814741910323 : Int64))) >>> ((Int32.toInt64 (4 : Int32)).toUInt64 &&& Int64.toUInt64 63)).toInt64)) &&& (1085102592571150095 : Int64)) + ((Int64.toUInt64 (((((a0 - (((Int64.toUInt64 a0 >>> ((Int32.toInt64 (1 : Int32)).toUInt64 &&& Int64.toUInt64 63)).toInt64) &&& (6148914691236517205 : Int64))) &&& (3689348814741910323 : Int64)) + (((Int64.toUInt64 (a0 - (((Int64.toUInt64 a0 >>> ((Int32.toInt64 (1 : Int32)).toUInt64 &&& Int64.toUInt64 63)).toInt64) &&& (6148914691236517205 : Int64))) >>> ((Int32.toInt64 (2 : Int32)).toUInt64 &&& Int64.toUInt64 63)).toInt64) &&& (3689348814741910323 : Int64))) + ((Int64.toUInt64 (((a0 - (((Int64.toUInt64 a0 >>> ((Int32.toInt64 (1 : Int32)).toUInt64 &&& Int64.toUInt64 63)).toInt64) &&& (6148914691236517205 : Int64))) &&& (3689348814741910323 : Int64)) + (((Int64.toUInt64 (a0 - (((Int64.toUInt64 a0 >>> ((Int32.toInt64 (1 : Int32)).toUInt64 &&& Int64.toUInt64 63)).toInt64) &&& (6148914691236517205 : Int64))) >>> ((Int32.toInt64 (2 : Int32)).toUInt64 &&& Int64.toUInt64 63)).toInt64) &&& (3689348814741910323 : Int64))) >>> ((Int32.toInt64 (4 : Int32)).toUInt64 &&& Int64.toUInt64 63)).toInt64)) &&& (1085102592571150095 : Int64)) >>> ((Int32.toInt64 (8 : Int32)).toUInt64 &&& Int64.toUInt64 63)).toInt64)) + ((Int64.toUInt64 ((((((a0 - (((Int64.toUInt64 a0 >>> ((Int32.toInt64 (1 : Int32)).toUInt64 &&& Int64.toUInt64 63)).toInt64) &&& (6148914691236517205 : Int64))) &&& (3689348814741910323 : Int64)) + (((Int64.toUInt64 (a0 - (((Int64.toUInt64 a0 >>> ((Int32.toInt64 (1 : Int32)).toUInt64 &&& Int64.toUInt64 63)).toInt64) &&& (6148914691236517205 : Int64))) >>> ((Int32.toInt64 (2 : Int32)).toUInt64 &&& Int64.toUInt64 63)).toInt64) &&& (3689348814741910323 : Int64))) + ((Int64.toUInt64 (((a0 - (((Int64.toUInt64 a0 >>> ((Int32.toInt64 (1 : Int32)).toUInt64 &&& Int64.toUInt64 63)).toInt64) &&& (6148914691236517205 : Int64))) &&& (3689348814741910323 : Int64)) + (((Int64.toUInt64 (a0 - (((Int64.toUInt64 a0 >>> ((Int32.toInt64 (1 : Int32)).toUInt64 &&& Int64.toUInt64 63)).toInt64) &&& (6148914691236517205 : Int64))) >>> ((Int32.toInt64 (2 : Int32)).toUInt64 &&& Int64.toUInt64 63)).toInt64) &&& (3689348814741910323 : Int64))) >>> ((Int32.toInt64 (4 : Int32)).toUInt64 &&& Int64.toUInt64 63)).toInt64)) &&& (1085102592571150095 : Int64)) + ((Int64.toUInt64 (((((a0 - (((Int64.toUInt64 a0 >>> ((Int32.toInt64 (1 : Int32)).toUInt64 &&& Int64.toUInt64 63)).toInt64) &&& (6148914691236517205 : Int64))) &&& (3689348814741910323 : Int64)) + (((Int64.toUInt64 (a0 - (((Int64.toUInt64 a0 >>> ((Int32.toInt64 (1 : Int32)).toUInt64 &&& Int64.toUInt64 63)).toInt64) &&& (6148914691236517205 : Int64))) >>> ((Int32.toInt64 (2 : Int32)).toUInt64 &&& Int64.toUInt64 63)).toInt64) &&& (3689348814741910323 : Int64))) + ((Int64.toUInt64 (((a0 - (((Int64.toUInt64 a0 >>> ((Int32.toInt64 (1 : Int32)).toUInt64 &&& Int64.toUInt64 63)).toInt64) &&& (6148914691236517205 : Int64))) &&& (3689348814741910323 : Int64)) + (((Int64.toUInt64 (a0 - (((Int64.toUInt64 a0 >>> ((Int32.toInt64 (1 : Int32)).toUInt64 &&& Int64.toUInt64 63)).toInt64) &&& (6148914691236517205 : Int64))) >>> ((Int32.toInt64 (2 : Int32)).toUInt64 &&& Int64.toUInt64 63)).toInt64) &&& (3689348814741910323 : Int64))) >>> ((Int32.toInt64 (4 : Int32)).toUInt64 &&& Int64.toUInt64 63)).toInt64)) &&& (1085102592571150095 : Int64)) >>> ((Int32.toInt64 (8 : Int32)).toUInt64 &&& Int64.toUInt64 63)).toInt64)) >>> ((Int32.toInt64 (16 : Int32)).toUInt64 &&& Int64.toUInt64 63)).toInt64)), tq_u]) rJ13_bitCount_95d88_47 (Nat.le_of_ble_eq_true rfl) rfl ?_
  refine tq_lload_n rJ13_bitCount_95d88_48 rfl ?_
  refine tq_lload_n rJ13_bitCount_95d88_49 rfl ?_
  refine tq_bipush (32 : Int32) rJ13_bitCount_95d88_50 (by decide) ?_
  refine tq_lushr rJ13_bitCount_95d88_52 ?_
  refine tq_ladd rJ13_bitCount_95d88_53 ?_
  refine tq_lstore_n ([.long ((((((((a0 - (((Int64.toUInt64 a0 >>> ((Int32.toInt64 (1 : Int32)).toUInt64 &&& Int64.toUInt64 63)).toInt64) &&& (6148914691236517205 : Int64))) &&& (3689348814741910323 : Int64)) + (((Int64.toUInt64 (a0 - (((Int64.toUInt64 a0 >>> ((Int32.toInt64 (1 : Int32)).toUInt64 &&& Int64.toUInt64 63)).toInt64) &&& (6148914691236517205 : Int64))) >>> ((Int32.toInt64 (2 : Int32)).toUInt64 &&& Int64.toUInt64 63)).toInt64) &&& (3689348814741910323 : Int64))) + ((Int64.toUInt64 (((a0 - (((Int64.toUInt64 a0 >>> ((Int32.toInt64 (1 : Int32)).toUInt64 &&& Int64.toUInt64 63)).toInt64) &&& (6148914691236517205 : Int64))) &&& (3689348814741910323 : Int64)) + (((Int64.toUInt64 (a0 - (((Int64.toUInt64 a0 >>> ((Int32.toInt64 (1 : Int32)).toUInt64 &&& Int64.toUInt64 63)).toInt64) &&& (6148914691236517205 : Int64))) >>> ((Int32.toInt64 (2 : Int32)).toUInt64 &&& Int64.toUInt64 63)).toInt64) &&& (3689348814741910323 : Int64))) >>> ((Int32.toInt64 (4 : Int32)).toUInt64 &&& Int64.toUInt64 63)).toInt64)) &&& (1085102592571150095 : Int64)) + ((Int64.toUInt64 (((((a0 - (((Int64.toUInt64 a0 >>> ((Int32.toInt64 (1 : Int32)).toUInt64 &&& Int64.toUInt64 63)).toInt64) &&& (6148914691236517205 : Int64))) &&& (3689348814741910323 : Int64)) + (((Int64.toUInt64 (a0 - (((Int64.toUInt64 a0 >>> ((Int32.toInt64 (1 : Int32)).toUInt64 &&& Int64.toUInt64 63)).toInt64) &&& (6148914691236517205 : Int64))) >>> ((Int32.toInt64 (2 : Int32)).toUInt64 &&& Int64.toUInt64 63)).toInt64) &&& (3689348814741910323 : Int64))) + ((Int64.toUInt64 (((a0 - (((Int64.toUInt64 a0 >>> ((Int32.toInt64 (1 : Int32)).toUInt64 &&& Int64.toUInt64 63)).toInt64) &&& (6148914691236517205 : Int64))) &&& (3689348814741910323 : Int64)) + (((Int64.toUInt64 (a0 - (((Int64.toUInt64 a0 >>> ((Int32.toInt64 (1 : Int32)).toUInt64 &&& Int64.toUInt64 63)).toInt64) &&& (6148914691236517205 : Int64))) >>> ((Int32.toInt64 (2 : Int32)).toUInt64 &&& Int64.toUInt64 63)).toInt64) &&& (3689348814741910323 : Int64))) >>> ((Int32.toInt64 (4 : Int32)).toUInt64 &&& Int64.toUInt64 63)).toInt64)) &&& (1085102592571150095 : Int64)) >>> ((Int32.toInt64 (8 : Int32)).toUInt64 &&& Int64.toUInt64 63)).toInt64)) + ((Int64.toUInt64 ((((((a0 - (((Int64.toUInt64 a0 >>> ((Int32.toInt64 (1 : Int32)).toUInt64 &&& Int64.toUInt64 63)).toInt64) &&& (6148914691236517205 : Int64))) &&& (3689348814741910323 : Int64)) + (((Int64.toUInt64 (a0 - (((Int64.toUInt64 a0 >>> ((Int32.toInt64 (1 : Int32)).toUInt64 &&& Int64.toUInt64 63)).toInt64) &&& (6148914691236517205 : Int64))) >>> ((Int32.toInt64 (2 : Int32)).toUInt64 &&& Int64.toUInt64 63)).toInt64) &&& (3689348814741910323 : Int64))) + ((Int64.toUInt64 (((a0 - (((Int64.toUInt64 a0 >>> ((Int32.toInt64 (1 : Int32)).toUInt64 &&& Int64.toUInt64 63)).toInt64) &&& (6148914691236517205 : Int64))) &&& (3689348814741910323 : Int64)) + (((Int64.toUInt64 (a0 - (((Int64.toUInt64 a0 >>> ((Int32.toInt64 (1 : Int32)).toUInt64 &&& Int64.toUInt64 63)).toInt64) &&& (6148914691236517205 : Int64))) >>> ((Int32.toInt64 (2 : Int32)).toUInt64 &&& Int64.toUInt64 63)).toInt64) &&& (3689348814741910323 : Int64))) >>> ((Int32.toInt64 (4 : Int32)).toUInt64 &&& Int64.toUInt64 63)).toInt64)) &&& (1085102592571150095 : Int64)) + ((Int64.toUInt64 (((((a0 - (((Int64.toUInt64 a0 >>> ((Int32.toInt64 (1 : Int32)).toUInt64 &&& Int64.toUInt64 63)).toInt64) &&& (6148914691236517205 : Int64))) &&& (3689348814741910323 : Int64)) + (((Int64.toUInt64 (a0 - (((Int64.toUInt64 a0 >>> ((Int32.toInt64 (1 : Int32)).toUInt64 &&& Int64.toUInt64 63)).toInt64) &&& (6148914691236517205 : Int64))) >>> ((Int32.toInt64 (2 : Int32)).toUInt64 &&& Int64.toUInt64 63)).toInt64) &&& (3689348814741910323 : Int64))) + ((Int64.toUInt64 (((a0 - (((Int64.toUInt64 a0 >>> ((Int32.toInt64 (1 : Int32)).toUInt64 &&& Int64.toUInt64 63)).toInt64) &&& (6148914691236517205 : Int64))) &&& (3689348814741910323 : Int64)) + (((Int64.toUInt64 (a0 - (((Int64.toUInt64 a0 >>> ((Int32.toInt64 (1 : Int32)).toUInt64 &&& Int64.toUInt64 63)).toInt64) &&& (6148914691236517205 : Int64))) >>> ((Int32.toInt64 (2 : Int32)).toUInt64 &&& Int64.toUInt64 63)).toInt64) &&& (3689348814741910323 : Int64))) >>> ((Int32.toInt64 (4 : Int32)).toUInt64 &&& Int64.toUInt64 63)).toInt64)) &&& (1085102592571150095 : Int64)) >>> ((Int32.toInt64 (8 : Int32)).toUInt64 &&& Int64.toUInt64 63)).toInt64)) >>> ((Int32.toInt64 (16 : Int32)).toUInt64 &&& Int64.toUInt64 63)).toInt64)) + ((Int64.toUInt64 (((((((a0 - (((Int64.toUInt64 a0 >>> ((Int32.toInt64 (1 : Int32)).toUInt64 &&& Int64.toUInt64 63)).toInt64) &&& (6148914691236517205 : Int64))) &&& (3689348814741910323 : Int64)) + (((Int64.toUInt64 (a0 - (((Int64.toUInt64 a0 >>> ((Int32.toInt64 (1 : Int32)).toUInt64 &&& Int64.toUInt64 63)).toInt64) &&& (6148914691236517205 : Int64))) >>> ((Int32.toInt64 (2 : Int32)).toUInt64 &&& Int64.toUInt64 63)).toInt64) &&& (3689348814741910323 : Int64))) + ((Int64.toUInt64 (((a0 - (((Int64.toUInt64 a0 >>> ((Int32.toInt64 (1 : Int32)).toUInt64 &&& Int64.toUInt64 63)).toInt64) &&& (6148914691236517205 : Int64))) &&& (3689348814741910323 : Int64)) + (((Int64.toUInt64 (a0 - (((Int64.toUInt64 a0 >>> ((Int32.toInt64 (1 : Int32)).toUInt64 &&& Int64.toUInt64 63)).toInt64) &&& (6148914691236517205 : Int64))) >>> ((Int32.toInt64 (2 : Int32)).toUInt64 &&& Int64.toUInt64 63)).toInt64) &&& (3689348814741910323 : Int64))) >>> ((Int32.toInt64 (4 : Int32)).toUInt64 &&& Int64.toUInt64 63)).toInt64)) &&& (1085102592571150095 : Int64)) + ((Int64.toUInt64 (((((a0 - (((Int64.toUInt64 a0 >>> ((Int32.toInt64 (1 : Int32)).toUInt64 &&& Int64.toUInt64 63)).toInt64) &&& (6148914691236517205 : Int64))) &&& (3689348814741910323 : Int64)) + (((Int64.toUInt64 (a0 - (((Int64.toUInt64 a0 >>> ((Int32.toInt64 (1 : Int32)).toUInt64 &&& Int64.toUInt64 63)).toInt64) &&& (6148914691236517205 : Int64))) >>> ((Int32.toInt64 (2 : Int32)).toUInt64 &&& Int64.toUInt64 63)).toInt64) &&& (3689348814741910323 : Int64))) + ((Int64.toUInt64 (((a0 - (((Int64.toUInt64 a0 >>> ((Int32.toInt64 (1 : Int32)).toUInt64 &&& Int64.toUInt64 63)).toInt64) &&& (6148914691236517205 : Int64))) &&& (3689348814741910323 : Int64)) + (((Int64.toUInt64 (a0 - (((Int64.toUInt64 a0 >>> ((Int32.toInt64 (1 : Int32)).toUInt64 &&& Int64.toUInt64 63)).toInt64) &&& (6148914691236517205 : Int64))) >>> ((Int32.toInt64 (2 : Int32)).toUInt64 &&& Int64.toUInt64 63)).toInt64) &&& (3689348814741910323 : Int64))) >>> ((Int32.toInt64 (4 : Int32)).toUInt64 &&& Int64.toUInt64 63)).toInt64)) &&& (1085102592571150095 : Int64)) >>> ((Int32.toInt64 (8 : Int32)).toUInt64 &&& Int64.toUInt64 63)).toInt64)) + ((Int64.toUInt64 ((((((a0 - (((Int64.toUInt64 a0 >>> ((Int32.toInt64 (1 : Int32)).toUInt64 &&& Int64.toUInt64 63)).toInt64) &&& (6148914691236517205 : Int64))) &&& (3689348814741910323 : Int64)) + (((Int64.toUInt64 (a0 - (((Int64.toUInt64 a0 >>> ((Int32.toInt64 (1 : Int32)).toUInt64 &&& Int64.toUInt64 63)).toInt64) &&& (6148914691236517205 : Int64))) >>> ((Int32.toInt64 (2 : Int32)).toUInt64 &&& Int64.toUInt64 63)).toInt64) &&& (3689348814741910323 : Int64))) + ((Int64.toUInt64 (((a0 - (((Int64.toUInt64 a0 >>> ((Int32.toInt64 (1 : Int32)).toUInt64 &&& Int64.toUInt64 63)).toInt64) &&& (6148914691236517205 : Int64))) &&& (3689348814741910323 : Int64)) + (((Int64.toUInt64 (a0 - (((Int64.toUInt64 a0 >>> ((Int32.toInt64 (1 : Int32)).toUInt64 &&& Int64.toUInt64 63)).toInt64) &&& (6148914691236517205 : Int64))) >>> ((Int32.toInt64 (2 : Int32)).toUInt64 &&& Int64.toUInt64 63)).toInt64) &&& (3689348814741910323 : Int64))) >>> ((Int32.toInt64 (4 : Int32)).toUInt64 &&& Int64.toUInt64 63)).toInt64)) &&& (1085102592571150095 : Int64)) + ((Int64.toUInt64 (((((a0 - (((Int64.toUInt64 a0 >>> ((Int32.toInt64 (1 : Int32)).toUInt64 &&& Int64.toUInt64 63)).toInt64) &&& (6148914691236517205 : Int64))) &&& (3689348814741910323 : Int64)) + (((Int64.toUInt64 (a0 - (((Int64.toUInt64 a0 >>> ((Int32.toInt64 (1 : Int32)).toUInt64 &&& Int64.toUInt64 63)).toInt64) &&& (6148914691236517205 : Int64))) >>> ((Int32.toInt64 (2 : Int32)).toUInt64 &&& Int64.toUInt64 63)).toInt64) &&& (3689348814741910323 : Int64))) + ((Int64.toUInt64 (((a0 - (((Int64.toUInt64 a0 >>> ((Int32.toInt64 (1 : Int32)).toUInt64 &&& Int64.toUInt64 63)).toInt64) &&& (6148914691236517205 : Int64))) &&& (3689348814741910323 : Int64)) + (((Int64.toUInt64 (a0 - (((Int64.toUInt64 a0 >>> ((Int32.toInt64 (1 : Int32)).toUInt64 &&& Int64.toUInt64 63)).toInt64) &&& (6148914691236517205 : Int64))) >>> ((Int32.toInt64 (2 : Int32)).toUInt64 &&& Int64.toUInt64 63)).toInt64) &&& (3689348814741910323 : Int64))) >>> ((Int32.toInt64 (4 : Int32)).toUInt64 &&& Int64.toUInt64 63)).toInt64)) &&& (1085102592571150095 : Int64)) >>> ((Int32.toInt64 (8 : Int32)).toUInt64 &&& Int64.toUInt64 63)).toInt64)) >>> ((Int32.toInt64 (16 : Int32)).toUInt64 &&& Int64.toUInt64 63)).toInt64)) >>> ((Int32.toInt64 (32 : Int32)).toUInt64 &&& Int64.toUInt64 63)).toInt64)), tq_u]) rJ13_bitCount_95d88_54 (Nat.le_of_ble_eq_true rfl) rfl ?_
  refine tq_lload_n rJ13_bitCount_95d88_55 rfl ?_
  refine tq_l2i rJ13_bitCount_95d88_56 ?_
  refine tq_bipush (127 : Int32) rJ13_bitCount_95d88_57 (by decide) ?_
  refine tq_iand rJ13_bitCount_95d88_59 ?_
  refine ty_iret rJ13_bitCount_95d88_60 rfl rfl ?_
  subst hf
  exact ⟨rfl, rfl, rfl⟩

abbrev mX11_lowest : tq_M := (yX11_lowest, cX11_lowest, 2, (Option.some Jvm.ClassFile.FieldType.long), 0, 0)
theorem rX11_lowest_0 : tq_D cX11_lowest 0 (.lload_n 0) 1 1 := ⟨by decide +kernel, rfl⟩
theorem rX11_lowest_1 : tq_D cX11_lowest 1 (.lload_n 0) 1 2 := ⟨by decide +kernel, rfl⟩
theorem rX11_lowest_2 : tq_D cX11_lowest 2 (.lneg) 1 3 := ⟨by decide +kernel, rfl⟩
theorem rX11_lowest_3 : tq_D cX11_lowest 3 (.land) 1 4 := ⟨by decide +kernel, rfl⟩
theorem rX11_lowest_4 : decode cX11_lowest 4 = .ok (.lreturn, 1) := by decide +kernel
def FX11_lowest (I : tq_PI) (L : tq_PL) (a0 : Int64) : Int64 :=
  (a0 &&& (-a0))
set_option maxRecDepth 100000 in
set_option maxHeartbeats 4000000 in
theorem CX11_lowest {S : Nat × (Nat → Int32)} {d : Nat} {I : tq_PI} {L : tq_PL} {a0 : Int64}  {out : Int64} (hf : FX11_lowest I L a0 = out) : tq_K S mX11_lowest d [.long a0] I L (tq_one2 (some (.long out)) I L) := by
  unfold FX11_lowest at hf
  refine tq_K_of (by decide) (Nat.le_of_ble_eq_true rfl) (ls := [.long a0, tq_u]) rfl ?_
  refine tq_lload_n rX11_lowest_0 rfl ?_
  refine tq_lload_n rX11_lowest_1 rfl ?_
  refine tq_lneg rX11_lowest_2 ?_
  refine tq_land rX11_lowest_3 ?_
  refine ty_lret rX11_lowest_4 rfl rfl ?_
  subst hf
  exact ⟨rfl, rfl, rfl⟩

abbrev mX11_leftOf : tq_M := (yX11_leftOf, cX11_leftOf, 2, (Option.some Jvm.ClassFile.FieldType.long), 0, 0)
theorem k_X11_411 : Cond.constantLong RX11 411 (-141289400074369) ∈ lw_tbl := tq_sg4 _ (List.mem_of_getElem? (i := 41) rfl)
theorem rX11_leftOf_0 : tq_D cX11_leftOf 0 (.lload_n 0) 1 1 := ⟨by decide +kernel, rfl⟩
theorem rX11_leftOf_1 : tq_D cX11_leftOf 1 (.iconst 1) 1 2 := ⟨by decide +kernel, rfl⟩
theorem rX11_leftOf_2 : tq_D cX11_leftOf 2 (.lushr) 1 3 := ⟨by decide +kernel, rfl⟩
theorem rX11_leftOf_3 : tq_D cX11_leftOf 3 (.ldc2_w 411) 3 6 := ⟨by decide +kernel, rfl⟩
theorem rX11_leftOf_6 : tq_D cX11_leftOf 6 (.land) 1 7 := ⟨by decide +kernel, rfl⟩
theorem rX11_leftOf_7 : decode cX11_leftOf 7 = .ok (.lreturn, 1) := by decide +kernel
def FX11_leftOf (I : tq_PI) (L : tq_PL) (a0 : Int64) : Int64 :=
  (((Int64.toUInt64 a0 >>> ((Int32.toInt64 (1 : Int32)).toUInt64 &&& Int64.toUInt64 63)).toInt64) &&& (-141289400074369 : Int64))
set_option maxRecDepth 100000 in
set_option maxHeartbeats 4000000 in
theorem CX11_leftOf {S : Nat × (Nat → Int32)} {d : Nat} {I : tq_PI} {L : tq_PL} {a0 : Int64}  {out : Int64} (hf : FX11_leftOf I L a0 = out) : tq_K S mX11_leftOf d [.long a0] I L (tq_one2 (some (.long out)) I L) := by
  unfold FX11_leftOf at hf
  refine tq_K_of (by decide) (Nat.le_of_ble_eq_true rfl) (ls := [.long a0, tq_u]) rfl ?_
  refine tq_lload_n rX11_leftOf_0 rfl ?_
  refine tq_iconst (1 : Int32) rX11_leftOf_1 (by decide) ?_
  refine tq_lushr rX11_leftOf_2 ?_
  refine tq_ldc2 rX11_leftOf_3 (k_X11_411) ?_
  refine tq_land rX11_leftOf_6 ?_
  refine ty_lret rX11_leftOf_7 rfl rfl ?_
  subst hf
  exact ⟨rfl, rfl, rfl⟩

abbrev mX11_rightOf : tq_M := (yX11_rightOf, cX11_rightOf, 2, (Option.some Jvm.ClassFile.FieldType.long), 0, 0)
theorem k_X11_413 : Cond.constantLong RX11 413 (-1103823438082) ∈ lw_tbl := tq_sg4 _ (List.mem_of_getElem? (i := 42) rfl)
theorem rX11_rightOf_0 : tq_D cX11_rightOf 0 (.lload_n 0) 1 1 := ⟨by decide +kernel, rfl⟩
theorem rX11_rightOf_1 : tq_D cX11_rightOf 1 (.iconst 1) 1 2 := ⟨by decide +kernel, rfl⟩
theorem rX11_rightOf_2 : tq_D cX11_rightOf 2 (.lshl) 1 3 := ⟨by decide +kernel, rfl⟩
theorem rX11_rightOf_3 : tq_D cX11_rightOf 3 (.ldc2_w 413) 3 6 := ⟨by decide +kernel, rfl⟩
theorem rX11_rightOf_6 : tq_D cX11_rightOf 6 (.land) 1 7 := ⟨by decide +kernel, rfl⟩
theorem rX11_rightOf_7 : decode cX11_rightOf 7 = .ok (.lreturn, 1) := by decide +kernel
def FX11_rightOf (I : tq_PI) (L : tq_PL) (a0 : Int64) : Int64 :=
  ((a0 <<< (Int32.toInt64 (1 : Int32) &&& 63)) &&& (-1103823438082 : Int64))
set_option maxRecDepth 100000 in
set_option maxHeartbeats 4000000 in
theorem CX11_rightOf {S : Nat × (Nat → Int32)} {d : Nat} {I : tq_PI} {L : tq_PL} {a0 : Int64}  {out : Int64} (hf : FX11_rightOf I L a0 = out) : tq_K S mX11_rightOf d [.long a0] I L (tq_one2 (some (.long out)) I L) := by
  unfold FX11_rightOf at hf
  refine tq_K_of (by decide) (Nat.le_of_ble_eq_true rfl) (ls := [.long a0, tq_u]) rfl ?_
  refine tq_lload_n rX11_rightOf_0 rfl ?_
  refine tq_iconst (1 : Int32) rX11_rightOf_1 (by decide) ?_
  refine tq_lshl rX11_rightOf_2 ?_
  refine tq_ldc2 rX11_rightOf_3 (k_X11_413) ?_
  refine tq_land rX11_rightOf_6 ?_
  refine ty_lret rX11_rightOf_7 rfl rfl ?_
  subst hf
  exact ⟨rfl, rfl, rfl⟩

abbrev mX11_nextTo : tq_M := (yX11_nextTo, cX11_nextTo, 2, (Option.some Jvm.ClassFile.FieldType.long), 0, 0)
theorem moX11_leftOf : tq_mok mX11_leftOf 1 := ⟨tq_sg1 _ (List.mem_of_getElem? (i := 1) rfl), tq_sg4 _ (List.mem_of_getElem? (i := 52) rfl), ⟨by decide, by decide, by decide +kernel⟩, by decide⟩
theorem msX11_leftOf : Cond.static mX11_leftOf.1 ∈ lw_tbl := tq_sg4 _ (List.mem_of_getElem? (i := 51) rfl)
theorem moX11_rightOf : tq_mok mX11_rightOf 1 := ⟨tq_sg1 _ (List.mem_of_getElem? (i := 1) rfl), tq_sg4 _ (List.mem_of_getElem? (i := 55) rfl), ⟨by decide, by decide, by decide +kernel⟩, by decide⟩
theorem msX11_rightOf : Cond.static mX11_rightOf.1 ∈ lw_tbl := tq_sg4 _ (List.mem_of_getElem? (i := 54) rfl)
theorem l_X11_415 : tq_lok RX11 415 mX11_leftOf.1 := Or.inl (tq_sg4 _ (List.mem_of_getElem? (i := 50) rfl))
theorem l_X11_419 : tq_lok RX11 419 mX11_rightOf.1 := Or.inl (tq_sg4 _ (List.mem_of_getElem? (i := 53) rfl))
theorem rX11_nextTo_0 : tq_D cX11_nextTo 0 (.lload_n 0) 1 1 := ⟨by decide +kernel, rfl⟩
theorem rX11_nextTo_1 : tq_D cX11_nextTo 1 (.invokestatic 415) 3 4 := ⟨by decide +kernel, rfl⟩
theorem rX11_nextTo_4 : tq_D cX11_nextTo 4 (.lload_n 0) 1 5 := ⟨by decide +kernel, rfl⟩
theorem rX11_nextTo_5 : tq_D cX11_nextTo 5 (.invokestatic 419) 3 8 := ⟨by decide +kernel, rfl⟩
theorem rX11_nextTo_8 : tq_D cX11_nextTo 8 (.lor) 1 9 := ⟨by decide +kernel, rfl⟩
theorem rX11_nextTo_9 : tq_D cX11_nextTo 9 (.lload_n 0) 1 10 := ⟨by decide +kernel, rfl⟩
theorem rX11_nextTo_10 : tq_D cX11_nextTo 10 (.bipush 8) 2 12 := ⟨by decide +kernel, rfl⟩
theorem rX11_nextTo_12 : tq_D cX11_nextTo 12 (.lshl) 1 13 := ⟨by decide +kernel, rfl⟩
theorem rX11_nextTo_13 : tq_D cX11_nextTo 13 (.lor) 1 14 := ⟨by decide +kernel, rfl⟩
theorem rX11_nextTo_14 : tq_D cX11_nextTo 14 (.lload_n 0) 1 15 := ⟨by decide +kernel, rfl⟩
theorem rX11_nextTo_15 : tq_D cX11_nextTo 15 (.bipush 8) 2 17 := ⟨by decide +kernel, rfl⟩
theorem rX11_nextTo_17 : tq_D cX11_nextTo 17 (.lushr) 1 18 := ⟨by decide +kernel, rfl⟩
theorem rX11_nextTo_18 : tq_D cX11_nextTo 18 (.lor) 1 19 := ⟨by decide +kernel, rfl⟩
theorem rX11_nextTo_19 : decode cX11_nextTo 19 = .ok (.lreturn, 1) := by decide +kernel
def FX11_nextTo (I : tq_PI) (L : tq_PL) (a0 : Int64) : Int64 :=
  (tq_let (FX11_leftOf I L a0) fun p1 => (tq_let (FX11_rightOf I L a0) fun p2 => (((p1 ||| p2) ||| (a0 <<< (Int32.toInt64 (8 : Int32) &&& 63))) ||| ((Int64.toUInt64 a0 >>> ((Int32.toInt64 (8 : Int32)).toUInt64 &&& Int64.toUInt64 63)).toInt64))))
set_option maxRecDepth 100000 in
set_option maxHeartbeats 4000000 in
theorem CX11_nextTo {S : Nat × (Nat → Int32)} {d : Nat} {I : tq_PI} {L : tq_PL} {a0 : Int64}  {out : Int64} (hf : FX11_nextTo I L a0 = out) : tq_K S mX11_nextTo (d + 1) [.long a0] I L (tq_one2 (some (.long out)) I L) := by
  unfold FX11_nextTo at hf
  refine tq_K_of (by decide) (Nat.le_of_ble_eq_true rfl) (ls := [.long a0, tq_u]) rfl ?_
  refine tq_lload_n rX11_nextTo_0 rfl ?_
  obtain ⟨p1, e1, hf⟩ := tq_let_elim hf
  refine ty_callSJ p1 ([.long a0]) ([]) rX11_nextTo_1 l_X11_415 moX11_leftOf msX11_leftOf rfl rfl (Nat.le_of_ble_eq_true rfl) ⟨rfl, rfl⟩ (CX11_leftOf  e1) ?_
  refine tq_lload_n rX11_nextTo_4 rfl ?_
  obtain ⟨p2, e2, hf⟩ := tq_let_elim hf
  refine ty_callSJ p2 ([.long a0]) ([.long p1]) rX11_nextTo_5 l_X11_419 moX11_rightOf msX11_rightOf rfl rfl (Nat.le_of_ble_eq_true rfl) ⟨rfl, rfl⟩ (CX11_rightOf  e2) ?_
  refine tq_lor rX11_nextTo_8 ?_
  refine tq_lload_n rX11_nextTo_9 rfl ?_
  refine tq_bipush (8 : Int32) rX11_nextTo_10 (by decide) ?_
  refine tq_lshl rX11_nextTo_12 ?_
  refine tq_lor rX11_nextTo_13 ?_
  refine tq_lload_n rX11_nextTo_14 rfl ?_
  refine tq_bipush (8 : Int32) rX11_nextTo_15 (by decide) ?_
  refine tq_lushr rX11_nextTo_17 ?_
  refine tq_lor rX11_nextTo_18 ?_
  refine ty_lret rX11_nextTo_19 rfl rfl ?_
  subst hf
  exact ⟨rfl, rfl, rfl⟩

abbrev mX11_flood : tq_M := (yX11_flood, cX11_flood, 11, (Option.some Jvm.ClassFile.FieldType.long), 0, 0)
theorem rX11_flood_0 : tq_D cX11_flood 0 (.lload_n 0) 1 1 := ⟨by decide +kernel, rfl⟩
theorem rX11_flood_1 : tq_D cX11_flood 1 (.lstore 4) 2 3 := ⟨by decide +kernel, rfl⟩
theorem rX11_flood_3 : tq_D cX11_flood 3 (.iconst 0) 1 4 := ⟨by decide +kernel, rfl⟩
theorem rX11_flood_4 : tq_D cX11_flood 4 (.istore 6) 2 6 := ⟨by decide +kernel, rfl⟩
theorem rX11_flood_6 : tq_D cX11_flood 6 (.iload 6) 2 8 := ⟨by decide +kernel, rfl⟩
theorem rX11_flood_8 : tq_D cX11_flood 8 (.bipush 48) 2 10 := ⟨by decide +kernel, rfl⟩
theorem rX11_flood_10 : tq_J cX11_flood 10 (.if_icmp .ge) 74 13 := ⟨64, by decide +kernel, by decide, rfl⟩
theorem rX11_flood_13 : tq_D cX11_flood 13 (.lload 4) 2 15 := ⟨by decide +kernel, rfl⟩
theorem rX11_flood_15 : tq_D cX11_flood 15 (.iconst 1) 1 16 := ⟨by decide +kernel, rfl⟩
theorem rX11_flood_16 : tq_D cX11_flood 16 (.lushr) 1 17 := ⟨by decide +kernel, rfl⟩
theorem rX11_flood_17 : tq_D cX11_flood 17 (.ldc2_w 411) 3 20 := ⟨by decide +kernel, rfl⟩
theorem rX11_flood_20 : tq_D cX11_flood 20 (.land) 1 21 := ⟨by decide +kernel, rfl⟩
theorem rX11_flood_21 : tq_D cX11_flood 21 (.lload 4) 2 23 := ⟨by decide +kernel, rfl⟩
theorem rX11_flood_23 : tq_D cX11_flood 23 (.iconst 1) 1 24 := ⟨by decide +kernel, rfl⟩
theorem rX11_flood_24 : tq_D cX11_flood 24 (.lshl) 1 25 := ⟨by decide +kernel, rfl⟩
theorem rX11_flood_25 : tq_D cX11_flood 25 (.ldc2_w 413) 3 28 := ⟨by decide +kernel, rfl⟩
theorem rX11_flood_28 : tq_D cX11_flood 28 (.land) 1 29 := ⟨by decide +kernel, rfl⟩
theorem rX11_flood_29 : tq_D cX11_flood 29 (.lor) 1 30 := ⟨by decide +kernel, rfl⟩
theorem rX11_flood_30 : tq_D cX11_flood 30 (.lstore 7) 2 32 := ⟨by decide +kernel, rfl⟩
theorem rX11_flood_32 : tq_D cX11_flood 32 (.lload 4) 2 34 := ⟨by decide +kernel, rfl⟩
theorem rX11_flood_34 : tq_D cX11_flood 34 (.lload 7) 2 36 := ⟨by decide +kernel, rfl⟩
theorem rX11_flood_36 : tq_D cX11_flood 36 (.lload 4) 2 38 := ⟨by decide +kernel, rfl⟩
theorem rX11_flood_38 : tq_D cX11_flood 38 (.bipush 8) 2 40 := ⟨by decide +kernel, rfl⟩
theorem rX11_flood_40 : tq_D cX11_flood 40 (.lshl) 1 41 := ⟨by decide +kernel, rfl⟩
theorem rX11_flood_41 : tq_D cX11_flood 41 (.lor) 1 42 := ⟨by decide +kernel, rfl⟩
theorem rX11_flood_42 : tq_D cX11_flood 42 (.lload 4) 2 44 := ⟨by decide +kernel, rfl⟩
theorem rX11_flood_44 : tq_D cX11_flood 44 (.bipush 8) 2 46 := ⟨by decide +kernel, rfl⟩
theorem rX11_flood_46 : tq_D cX11_flood 46 (.lushr) 1 47 := ⟨by decide +kernel, rfl⟩
theorem rX11_flood_47 : tq_D cX11_flood 47 (.lor) 1 48 := ⟨by decide +kernel, rfl⟩
theorem rX11_flood_48 : tq_D cX11_flood 48 (.lload_n 2) 1 49 := ⟨by decide +kernel, rfl⟩
theorem rX11_flood_49 : tq_D cX11_flood 49 (.land) 1 50 := ⟨by decide +kernel, rfl⟩
theorem rX11_flood_50 : tq_D cX11_flood 50 (.lor) 1 51 := ⟨by decide +kernel, rfl⟩
theorem rX11_flood_51 : tq_D cX11_flood 51 (.lstore 9) 2 53 := ⟨by decide +kernel, rfl⟩
theorem rX11_flood_53 : tq_D cX11_flood 53 (.lload 9) 2 55 := ⟨by decide +kernel, rfl⟩
theorem rX11_flood_55 : tq_D cX11_flood 55 (.lload 4) 2 57 := ⟨by decide +kernel, rfl⟩
theorem rX11_flood_57 : tq_D cX11_flood 57 (.lcmp) 1 58 := ⟨by decide +kernel, rfl⟩
theorem rX11_flood_58 : tq_J cX11_flood 58 (.ifCond .ne) 64 61 := ⟨6, by decide +kernel, by decide, rfl⟩
theorem rX11_flood_61 : tq_J cX11_flood 61 .goto 74 64 := ⟨13, by decide +kernel, by decide, rfl⟩
theorem rX11_flood_64 : tq_D cX11_flood 64 (.lload 9) 2 66 := ⟨by decide +kernel, rfl⟩
theorem rX11_flood_66 : tq_D cX11_flood 66 (.lstore 4) 2 68 := ⟨by decide +kernel, rfl⟩
theorem rX11_flood_68 : tq_D cX11_flood 68 (.iinc 6 1) 3 71 := ⟨by decide +kernel, rfl⟩
theorem rX11_flood_71 : tq_J cX11_flood 71 .goto 6 74 := ⟨(-65), by decide +kernel, by decide, rfl⟩
theorem rX11_flood_74 : tq_D cX11_flood 74 (.lload 4) 2 76 := ⟨by decide +kernel, rfl⟩
theorem rX11_flood_76 : decode cX11_flood 76 = .ok (.lreturn, 1) := by decide +kernel
def FX11_flood_s6 (I : tq_PI) (L : tq_PL) (a2 : Int64) (a4 : Int64) (a6 : Int32) : Option ((Int64 × Int32) ⊕ (Int64)) :=
  (if (48 : Int32) ≤ a6 then some (.inr a4) else (if (lg_cmp (a4 ||| (((((((Int64.toUInt64 a4 >>> ((Int32.toInt64 (1 : Int32)).toUInt64 &&& Int64.toUInt64 63)).toInt64) &&& (-141289400074369 : Int64)) ||| ((a4 <<< (Int32.toInt64 (1 : Int32) &&& 63)) &&& (-1103823438082 : Int64))) ||| (a4 <<< (Int32.toInt64 (8 : Int32) &&& 63))) ||| ((Int64.toUInt64 a4 >>> ((Int32.toInt64 (8 : Int32)).toUInt64 &&& Int64.toUInt64 63)).toInt64)) &&& a2)) a4) = 0 then some (.inr a4) else some (.inl ((a4 ||| (((((((Int64.toUInt64 a4 >>> ((Int32.toInt64 (1 : Int32)).toUInt64 &&& Int64.toUInt64 63)).toInt64) &&& (-141289400074369 : Int64)) ||| ((a4 <<< (Int32.toInt64 (1 : Int32) &&& 63)) &&& (-1103823438082 : Int64))) ||| (a4 <<< (Int32.toInt64 (8 : Int32) &&& 63))) ||| ((Int64.toUInt64 a4 >>> ((Int32.toInt64 (8 : Int32)).toUInt64 &&& Int64.toUInt64 63)).toInt64)) &&& a2)), (a6 + 1)))))
def FX11_flood (I : tq_PI) (L : tq_PL) (a0 : Int64) (a2 : Int64) : Option (Int64) :=
  ((tq_it (fun p : Int64 × Int32 => FX11_flood_s6 I L a2 p.1 p.2) 100000 (a0, (0 : Int32))).bind fun p3 => some p3)
set_option maxRecDepth 100000 in
set_option maxHeartbeats 4000000 in
theorem FX11_flood_s6_x {S : Nat × (Nat → Int32)} {d : Nat} {I : tq_PI} {L : tq_PL} {a2 : Int64} {a4 : Int64} {a6 : Int32}  {q0 : Option Value → tq_PI → tq_PL → Prop} {out : (Int64 × Int32) ⊕ (Int64)} (hf : FX11_flood_s6 I L a2 a4 a6 = some out) (hk : Sum.elim (fun p : Int64 × Int32 => tq_X S mX11_flood d tq_k0 6 ([tq_u, tq_u, .long a2, tq_u, .long p.1, tq_u, .int p.2, tq_u, tq_u, tq_u, tq_u]) [] (tq_st I L) (tq_Q q0)) (fun p : Int64 => tq_X S mX11_flood d tq_k0 74 ([tq_u, tq_u, tq_u, tq_u, .long p, tq_u, tq_u, tq_u, tq_u, tq_u, tq_u]) [] (tq_st I L) (tq_Q q0)) out) : tq_X S mX11_flood d tq_k0 6 ([tq_u, tq_u, .long a2, tq_u, .long a4, tq_u, .int a6, tq_u, tq_u, tq_u, tq_u]) [] (tq_st I L) (tq_Q q0) := by
  unfold FX11_flood_s6 at hf
  refine tq_iload rX11_flood_6 rfl ?_
  refine tq_bipush (48 : Int32) rX11_flood_8 (by decide) ?_
  refine tq_icmp_ge rX11_flood_10 (fun c1 => ?_) (fun c1 => ?_)
  · rw [if_pos c1] at hf
    have hf := Option.some.inj hf
    subst hf
    exact tq_forget _ (tq_le_u (tq_le_u (tq_le_u (tq_le_u (tq_le_s (tq_le_u (tq_le_u (tq_le_u (tq_le_u (tq_le_u (tq_le_u tq_le_n))))))))))) hk
  · rw [if_neg c1] at hf
    refine tq_lload rX11_flood_13 rfl ?_
    refine tq_iconst (1 : Int32) rX11_flood_15 (by decide) ?_
    refine tq_lushr rX11_flood_16 ?_
    refine tq_ldc2 rX11_flood_17 (k_X11_411) ?_
    refine tq_land rX11_flood_20 ?_
    refine tq_lload rX11_flood_21 rfl ?_
    refine tq_iconst (1 : Int32) rX11_flood_23 (by decide) ?_
    refine tq_lshl rX11_flood_24 ?_
    refine tq_ldc2 rX11_flood_25 (k_X11_413) ?_
    refine tq_land rX11_flood_28 ?_
    refine tq_lor rX11_flood_29 ?_
    refine tq_lstore ([tq_u, tq_u, .long a2, tq_u, .long a4, tq_u, .int a6, .long ((((Int64.toUInt64 a4 >>> ((Int32.toInt64 (1 : Int32)).toUInt64 &&& Int64.toUInt64 63)).toInt64) &&& (-141289400074369 : Int64)) ||| ((a4 <<< (Int32.toInt64 (1 : Int32) &&& 63)) &&& (-1103823438082 : Int64))), tq_u, tq_u, tq_u]) rX11_flood_30 (Nat.le_of_ble_eq_true rfl) rfl ?_
    refine tq_lload rX11_flood_32 rfl ?_
    refine tq_lload rX11_flood_34 rfl ?_
    refine tq_lload rX11_flood_36 rfl ?_
    refine tq_bipush (8 : Int32) rX11_flood_38 (by decide) ?_
    refine tq_lshl rX11_flood_40 ?_
    refine tq_lor rX11_flood_41 ?_
    refine tq_lload rX11_flood_42 rfl ?_
    refine tq_bipush (8 : Int32) rX11_flood_44 (by decide) ?_
    refine tq_lushr rX11_flood_46 ?_
    refine tq_lor rX11_flood_47 ?_
    refine tq_lload_n rX11_flood_48 rfl ?_
    refine tq_land rX11_flood_49 ?_
    refine tq_lor rX11_flood_50 ?_
    refine tq_lstore ([tq_u, tq_u, .long a2, tq_u, .long a4, tq_u, .int a6, .long ((((Int64.toUInt64 a4 >>> ((Int32.toInt64 (1 : Int32)).toUInt64 &&& Int64.toUInt64 63)).toInt64) &&& (-141289400074369 : Int64)) ||| ((a4 <<< (Int32.toInt64 (1 : Int32) &&& 63)) &&& (-1103823438082 : Int64))), tq_u, .long (a4 ||| (((((((Int64.toUInt64 a4 >>> ((Int32.toInt64 (1 : Int32)).toUInt64 &&& Int64.toUInt64 63)).toInt64) &&& (-141289400074369 : Int64)) ||| ((a4 <<< (Int32.toInt64 (1 : Int32) &&& 63)) &&& (-1103823438082 : Int64))) ||| (a4 <<< (Int32.toInt64 (8 : Int32) &&& 63))) ||| ((Int64.toUInt64 a4 >>> ((Int32.toInt64 (8 : Int32)).toUInt64 &&& Int64.toUInt64 63)).toInt64)) &&& a2)), tq_u]) rX11_flood_51 (Nat.le_of_ble_eq_true rfl) rfl ?_
    refine tq_lload rX11_flood_53 rfl ?_
    refine tq_lload rX11_flood_55 rfl ?_
    refine tq_lcmp rX11_flood_57 ?_
    refine tq_if_ne rX11_flood_58 (fun c2 => ?_) (fun c2 => ?_)
    · rw [if_neg c2] at hf
      refine tq_lload rX11_flood_64 rfl ?_
      refine tq_lstore ([tq_u, tq_u, .long a2, tq_u, .long (a4 ||| (((((((Int64.toUInt64 a4 >>> ((Int32.toInt64 (1 : Int32)).toUInt64 &&& Int64.toUInt64 63)).toInt64) &&& (-141289400074369 : Int64)) ||| ((a4 <<< (Int32.toInt64 (1 : Int32) &&& 63)) &&& (-1103823438082 : Int64))) ||| (a4 <<< (Int32.toInt64 (8 : Int32) &&& 63))) ||| ((Int64.toUInt64 a4 >>> ((Int32.toInt64 (8 : Int32)).toUInt64 &&& Int64.toUInt64 63)).toInt64)) &&& a2)), tq_u, .int a6, .long ((((Int64.toUInt64 a4 >>> ((Int32.toInt64 (1 : Int32)).toUInt64 &&& Int64.toUInt64 63)).toInt64) &&& (-141289400074369 : Int64)) ||| ((a4 <<< (Int32.toInt64 (1 : Int32) &&& 63)) &&& (-1103823438082 : Int64))), tq_u, .long (a4 ||| (((((((Int64.toUInt64 a4 >>> ((Int32.toInt64 (1 : Int32)).toUInt64 &&& Int64.toUInt64 63)).toInt64) &&& (-141289400074369 : Int64)) ||| ((a4 <<< (Int32.toInt64 (1 : Int32) &&& 63)) &&& (-1103823438082 : Int64))) ||| (a4 <<< (Int32.toInt64 (8 : Int32) &&& 63))) ||| ((Int64.toUInt64 a4 >>> ((Int32.toInt64 (8 : Int32)).toUInt64 &&& Int64.toUInt64 63)).toInt64)) &&& a2)), tq_u]) rX11_flood_66 (Nat.le_of_ble_eq_true rfl) rfl ?_
      refine tq_iinc (a6 + 1) ([tq_u, tq_u, .long a2, tq_u, .long (a4 ||| (((((((Int64.toUInt64 a4 >>> ((Int32.toInt64 (1 : Int32)).toUInt64 &&& Int64.toUInt64 63)).toInt64) &&& (-141289400074369 : Int64)) ||| ((a4 <<< (Int32.toInt64 (1 : Int32) &&& 63)) &&& (-1103823438082 : Int64))) ||| (a4 <<< (Int32.toInt64 (8 : Int32) &&& 63))) ||| ((Int64.toUInt64 a4 >>> ((Int32.toInt64 (8 : Int32)).toUInt64 &&& Int64.toUInt64 63)).toInt64)) &&& a2)), tq_u, .int (a6 + 1), .long ((((Int64.toUInt64 a4 >>> ((Int32.toInt64 (1 : Int32)).toUInt64 &&& Int64.toUInt64 63)).toInt64) &&& (-141289400074369 : Int64)) ||| ((a4 <<< (Int32.toInt64 (1 : Int32) &&& 63)) &&& (-1103823438082 : Int64))), tq_u, .long (a4 ||| (((((((Int64.toUInt64 a4 >>> ((Int32.toInt64 (1 : Int32)).toUInt64 &&& Int64.toUInt64 63)).toInt64) &&& (-141289400074369 : Int64)) ||| ((a4 <<< (Int32.toInt64 (1 : Int32) &&& 63)) &&& (-1103823438082 : Int64))) ||| (a4 <<< (Int32.toInt64 (8 : Int32) &&& 63))) ||| ((Int64.toUInt64 a4 >>> ((Int32.toInt64 (8 : Int32)).toUInt64 &&& Int64.toUInt64 63)).toInt64)) &&& a2)), tq_u]) rX11_flood_68 rfl (tq_inc (by decide)) (Nat.le_of_ble_eq_true rfl) rfl ?_
      refine tq_goto rX11_flood_71 ?_
      have hf := Option.some.inj hf
      subst hf
      exact tq_forget _ (tq_le_u (tq_le_u (tq_le_s (tq_le_u (tq_le_s (tq_le_u (tq_le_s (tq_le_u (tq_le_u (tq_le_u (tq_le_u tq_le_n))))))))))) hk
    · rw [if_pos c2] at hf
      refine tq_goto rX11_flood_61 ?_
      have hf := Option.some.inj hf
      subst hf
      exact tq_forget _ (tq_le_u (tq_le_u (tq_le_u (tq_le_u (tq_le_s (tq_le_u (tq_le_u (tq_le_u (tq_le_u (tq_le_u (tq_le_u tq_le_n))))))))))) hk

set_option maxRecDepth 100000 in
set_option maxHeartbeats 4000000 in
theorem CX11_flood {S : Nat × (Nat → Int32)} {d : Nat} {I : tq_PI} {L : tq_PL} {a0 : Int64} {a2 : Int64}  {out : Int64} (hf : FX11_flood I L a0 a2 = some out) : tq_K S mX11_flood d [.long a0, .long a2] I L (tq_one2 (some (.long out)) I L) := by
  unfold FX11_flood at hf
  refine tq_K_of (by decide) (Nat.le_of_ble_eq_true rfl) (ls := [.long a0, tq_u, .long a2, tq_u, tq_u, tq_u, tq_u, tq_u, tq_u, tq_u, tq_u]) rfl ?_
  refine tq_lload_n rX11_flood_0 rfl ?_
  refine tq_lstore ([.long a0, tq_u, .long a2, tq_u, .long a0, tq_u, tq_u, tq_u, tq_u, tq_u, tq_u]) rX11_flood_1 (Nat.le_of_ble_eq_true rfl) rfl ?_
  refine tq_iconst (0 : Int32) rX11_flood_3 (by decide) ?_
  refine tq_istore ([.long a0, tq_u, .long a2, tq_u, .long a0, tq_u, .int (0 : Int32), tq_u, tq_u, tq_u, tq_u]) rX11_flood_4 (Nat.le_of_ble_eq_true rfl) rfl ?_
  obtain ⟨p3, e3, hf⟩ := Option.bind_eq_some_iff.mp hf
  refine tq_forget _ (tq_le_u (tq_le_u (tq_le_s (tq_le_u (tq_le_s (tq_le_u (tq_le_s (tq_le_u (tq_le_u (tq_le_u (tq_le_u tq_le_n))))))))))) ?_
  refine tq_it_elim (P := fun p : Int64 × Int32 => tq_X S mX11_flood d tq_k0 6 ([tq_u, tq_u, .long a2, tq_u, .long p.1, tq_u, .int p.2, tq_u, tq_u, tq_u, tq_u]) [] (tq_st I L) (tq_Q (tq_one2 (some (.long out)) I L))) (R := fun p : Int64 => tq_X S mX11_flood d tq_k0 74 ([tq_u, tq_u, tq_u, tq_u, .long p, tq_u, tq_u, tq_u, tq_u, tq_u, tq_u]) [] (tq_st I L) (tq_Q (tq_one2 (some (.long out)) I L))) (fun p o hp hk => FX11_flood_s6_x  hp hk) _ _ _ e3 ?_
  show tq_X _ _ _ _ _ _ _ _ _
  refine tq_lload rX11_flood_74 rfl ?_
  refine ty_lret rX11_flood_76 rfl rfl ?_
  have hf := Option.some.inj hf
  subst hf
  exact ⟨rfl, rfl, rfl⟩

abbrev mX3_stones : tq_M := (yX3_stones, cX3_stones, 1, (Option.some Jvm.ClassFile.FieldType.long), 0, 0)
theorem f_X3_31 : tq_fok RX3 31 3 6 := ⟨by decide, by decide, Or.inl (tq_sg1 _ (List.mem_of_getElem? (i := 58) rfl))⟩
theorem f_X3_34 : tq_fok RX3 34 3 7 := ⟨by decide, by decide, Or.inl (tq_sg1 _ (List.mem_of_getElem? (i := 59) rfl))⟩
theorem f_X3_37 : tq_fok RX3 37 3 8 := ⟨by decide, by decide, Or.inl (tq_sg1 _ (List.mem_of_getElem? (i := 60) rfl))⟩
theorem rX3_stones_0 : tq_D cX3_stones 0 (.aload_n 0) 1 1 := ⟨by decide +kernel, rfl⟩
theorem rX3_stones_1 : tq_D cX3_stones 1 (.getfield 31) 3 4 := ⟨by decide +kernel, rfl⟩
theorem rX3_stones_4 : tq_D cX3_stones 4 (.aload_n 0) 1 5 := ⟨by decide +kernel, rfl⟩
theorem rX3_stones_5 : tq_D cX3_stones 5 (.getfield 34) 3 8 := ⟨by decide +kernel, rfl⟩
theorem rX3_stones_8 : tq_D cX3_stones 8 (.lor) 1 9 := ⟨by decide +kernel, rfl⟩
theorem rX3_stones_9 : tq_D cX3_stones 9 (.aload_n 0) 1 10 := ⟨by decide +kernel, rfl⟩
theorem rX3_stones_10 : tq_D cX3_stones 10 (.getfield 37) 3 13 := ⟨by decide +kernel, rfl⟩
theorem rX3_stones_13 : tq_D cX3_stones 13 (.lor) 1 14 := ⟨by decide +kernel, rfl⟩
theorem rX3_stones_14 : decode cX3_stones 14 = .ok (.lreturn, 1) := by decide +kernel
def FX3_stones (I : tq_PI) (L : tq_PL) (a0 : Nat) : Int64 :=
  (((L a0 6) ||| (L a0 7)) ||| (L a0 8))
set_option maxRecDepth 100000 in
set_option maxHeartbeats 4000000 in
theorem CX3_stones {S : Nat × (Nat → Int32)} {d : Nat} {I : tq_PI} {L : tq_PL} {a0 : Nat} (h0 : tq_sh0 a0 = 3) {out : Int64} (hf : FX3_stones I L a0 = out) : tq_K S mX3_stones d [.ref a0] I L (tq_one2 (some (.long out)) I L) := by
  unfold FX3_stones at hf
  refine tq_K_of (by decide) (Nat.le_of_ble_eq_true rfl) (ls := [.ref a0]) rfl ?_
  refine tq_aload_n rX3_stones_0 rfl ?_
  refine ty_getL rX3_stones_1 f_X3_31 rfl h0 ?_
  refine tq_aload_n rX3_stones_4 rfl ?_
  refine ty_getL rX3_stones_5 f_X3_34 rfl h0 ?_
  refine tq_lor rX3_stones_8 ?_
  refine tq_aload_n rX3_stones_9 rfl ?_
  refine ty_getL rX3_stones_10 f_X3_37 rfl h0 ?_
  refine tq_lor rX3_stones_13 ?_
  refine ty_lret rX3_stones_14 rfl rfl ?_
  subst hf
  exact ⟨rfl, rfl, rfl⟩

abbrev mX3_solid : tq_M := (yX3_solid, cX3_solid, 1, (Option.some Jvm.ClassFile.FieldType.long), 0, 0)
theorem moX3_stones : tq_mok mX3_stones 0 := ⟨tq_sg1 _ (List.mem_of_getElem? (i := 3) rfl), tq_sg3 _ (List.mem_of_getElem? (i := 118) rfl), ⟨by decide, by decide, by decide +kernel⟩, by decide⟩
theorem mvX3_stones : 3 < 13 ∧ (tq_cl 3).1 = mX3_stones.1.cls ∧ Cond.instanceMethod mX3_stones.1 ∈ lw_tbl ∧ Cond.selects mX3_stones.1.cls mX3_stones.1 mX3_stones.1 ∈ lw_tbl := ⟨by decide, rfl, tq_sg3 _ (List.mem_of_getElem? (i := 116) rfl), tq_sg3 _ (List.mem_of_getElem? (i := 117) rfl)⟩
theorem f_X3_40 : tq_fok RX3 40 3 9 := ⟨by decide, by decide, Or.inl (tq_sg1 _ (List.mem_of_getElem? (i := 61) rfl))⟩
theorem l_X3_55 : tq_lok RX3 55 mX3_stones.1 := Or.inl (tq_sg3 _ (List.mem_of_getElem? (i := 115) rfl))
theorem rX3_solid_0 : tq_D cX3_solid 0 (.aload_n 0) 1 1 := ⟨by decide +kernel, rfl⟩
theorem rX3_solid_1 : tq_D cX3_solid 1 (.invokevirtual 55) 3 4 := ⟨by decide +kernel, rfl⟩
theorem rX3_solid_4 : tq_D cX3_solid 4 (.aload_n 0) 1 5 := ⟨by decide +kernel, rfl⟩
theorem rX3_solid_5 : tq_D cX3_solid 5 (.getfield 40) 3 8 := ⟨by decide +kernel, rfl⟩
theorem rX3_solid_8 : tq_D cX3_solid 8 (.lor) 1 9 := ⟨by decide +kernel, rfl⟩
theorem rX3_solid_9 : decode cX3_solid 9 = .ok (.lreturn, 1) := by decide +kernel
def FX3_solid (I : tq_PI) (L : tq_PL) (a0 : Nat) : Int64 :=
  (tq_let (FX3_stones I L a0) fun p1 => (p1 ||| (L a0 9)))
set_option maxRecDepth 100000 in
set_option maxHeartbeats 4000000 in
theorem CX3_solid {S : Nat × (Nat → Int32)} {d : Nat} {I : tq_PI} {L : tq_PL} {a0 : Nat} (h0 : tq_sh0 a0 = 3) {out : Int64} (hf : FX3_solid I L a0 = out) : tq_K S mX3_solid (d + 1) [.ref a0] I L (tq_one2 (some (.long out)) I L) := by
  unfold FX3_solid at hf
  refine tq_K_of (by decide) (Nat.le_of_ble_eq_true rfl) (ls := [.ref a0]) rfl ?_
  refine tq_aload_n rX3_solid_0 rfl ?_
  obtain ⟨p1, e1, hf⟩ := tq_let_elim hf
  refine ty_callVJ p1 ([]) ([]) rX3_solid_1 l_X3_55 moX3_stones mvX3_stones h0 rfl rfl (Nat.le_of_ble_eq_true rfl) ⟨rfl, rfl⟩ (CX3_stones h0 e1) ?_
  refine tq_aload_n rX3_solid_4 rfl ?_
  refine ty_getL rX3_solid_5 f_X3_40 rfl h0 ?_
  refine tq_lor rX3_solid_8 ?_
  refine ty_lret rX3_solid_9 rfl rfl ?_
  subst hf
  exact ⟨rfl, rfl, rfl⟩

abbrev mX3_carried : tq_M := (yX3_carried, cX3_carried, 3, (Option.some Jvm.ClassFile.FieldType.long), 0, 0)
theorem f_X3_28 : tq_fok RX3 28 3 5 := ⟨by decide, by decide, Or.inl (tq_sg1 _ (List.mem_of_getElem? (i := 56) rfl))⟩
theorem rX3_carried_0 : tq_D cX3_carried 0 (.lload_n 1) 1 1 := ⟨by decide +kernel, rfl⟩
theorem rX3_carried_1 : tq_D cX3_carried 1 (.aload_n 0) 1 2 := ⟨by decide +kernel, rfl⟩
theorem rX3_carried_2 : tq_D cX3_carried 2 (.getfield 28) 3 5 := ⟨by decide +kernel, rfl⟩
theorem rX3_carried_5 : tq_D cX3_carried 5 (.lload_n 1) 1 6 := ⟨by decide +kernel, rfl⟩
theorem rX3_carried_6 : tq_D cX3_carried 6 (.bipush 8) 2 8 := ⟨by decide +kernel, rfl⟩
theorem rX3_carried_8 : tq_D cX3_carried 8 (.lushr) 1 9 := ⟨by decide +kernel, rfl⟩
theorem rX3_carried_9 : tq_D cX3_carried 9 (.lor) 1 10 := ⟨by decide +kernel, rfl⟩
theorem rX3_carried_10 : tq_D cX3_carried 10 (.land) 1 11 := ⟨by decide +kernel, rfl⟩
theorem rX3_carried_11 : decode cX3_carried 11 = .ok (.lreturn, 1) := by decide +kernel
def FX3_carried (I : tq_PI) (L : tq_PL) (a0 : Nat) (a1 : Int64) : Int64 :=
  (a1 &&& ((L a0 5) ||| ((Int64.toUInt64 a1 >>> ((Int32.toInt64 (8 : Int32)).toUInt64 &&& Int64.toUInt64 63)).toInt64)))
set_option maxRecDepth 100000 in
set_option maxHeartbeats 4000000 in
theorem CX3_carried {S : Nat × (Nat → Int32)} {d : Nat} {I : tq_PI} {L : tq_PL} {a0 : Nat} {a1 : Int64} (h0 : tq_sh0 a0 = 3) {out : Int64} (hf : FX3_carried I L a0 a1 = out) : tq_K S mX3_carried d [.ref a0, .long a1] I L (tq_one2 (some (.long out)) I L) := by
  unfold FX3_carried at hf
  refine tq_K_of (by decide) (Nat.le_of_ble_eq_true rfl) (ls := [.ref a0, .long a1, tq_u]) rfl ?_
  refine tq_lload_n rX3_carried_0 rfl ?_
  refine tq_aload_n rX3_carried_1 rfl ?_
  refine ty_getL rX3_carried_2 f_X3_28 rfl h0 ?_
  refine tq_lload_n rX3_carried_5 rfl ?_
  refine tq_bipush (8 : Int32) rX3_carried_6 (by decide) ?_
  refine tq_lushr rX3_carried_8 ?_
  refine tq_lor rX3_carried_9 ?_
  refine tq_land rX3_carried_10 ?_
  refine ty_lret rX3_carried_11 rfl rfl ?_
  subst hf
  exact ⟨rfl, rfl, rfl⟩

abbrev mX3_bridged : tq_M := (yX3_bridged, cX3_bridged, 3, (Option.some Jvm.ClassFile.FieldType.long), 0, 0)
theorem k_X3_89 : Cond.constantLong RX3 89 (-141289400074369) ∈ lw_tbl := tq_sg3 _ (List.mem_of_getElem? (i := 131) rfl)
theorem k_X3_91 : Cond.constantLong RX3 91 (-1103823438082) ∈ lw_tbl := tq_sg3 _ (List.mem_of_getElem? (i := 132) rfl)
theorem rX3_bridged_0 : tq_D cX3_bridged 0 (.lload_n 1) 1 1 := ⟨by decide +kernel, rfl⟩
theorem rX3_bridged_1 : tq_D cX3_bridged 1 (.lload_n 1) 1 2 := ⟨by decide +kernel, rfl⟩
theorem rX3_bridged_2 : tq_D cX3_bridged 2 (.iconst 1) 1 3 := ⟨by decide +kernel, rfl⟩
theorem rX3_bridged_3 : tq_D cX3_bridged 3 (.lushr) 1 4 := ⟨by decide +kernel, rfl⟩
theorem rX3_bridged_4 : tq_D cX3_bridged 4 (.land) 1 5 := ⟨by decide +kernel, rfl⟩
theorem rX3_bridged_5 : tq_D cX3_bridged 5 (.ldc2_w 89) 3 8 := ⟨by decide +kernel, rfl⟩
theorem rX3_bridged_8 : tq_D cX3_bridged 8 (.land) 1 9 := ⟨by decide +kernel, rfl⟩
theorem rX3_bridged_9 : tq_D cX3_bridged 9 (.lload_n 1) 1 10 := ⟨by decide +kernel, rfl⟩
theorem rX3_bridged_10 : tq_D cX3_bridged 10 (.iconst 1) 1 11 := ⟨by decide +kernel, rfl⟩
theorem rX3_bridged_11 : tq_D cX3_bridged 11 (.lshl) 1 12 := ⟨by decide +kernel, rfl⟩
theorem rX3_bridged_12 : tq_D cX3_bridged 12 (.land) 1 13 := ⟨by decide +kernel, rfl⟩
theorem rX3_bridged_13 : tq_D cX3_bridged 13 (.ldc2_w 91) 3 16 := ⟨by decide +kernel, rfl⟩
theorem rX3_bridged_16 : tq_D cX3_bridged 16 (.land) 1 17 := ⟨by decide +kernel, rfl⟩
theorem rX3_bridged_17 : decode cX3_bridged 17 = .ok (.lreturn, 1) := by decide +kernel
def FX3_bridged (I : tq_PI) (L : tq_PL) (a0 : Nat) (a1 : Int64) : Int64 :=
  ((((a1 &&& ((Int64.toUInt64 a1 >>> ((Int32.toInt64 (1 : Int32)).toUInt64 &&& Int64.toUInt64 63)).toInt64)) &&& (-141289400074369 : Int64)) &&& (a1 <<< (Int32.toInt64 (1 : Int32) &&& 63))) &&& (-1103823438082 : Int64))
set_option maxRecDepth 100000 in
set_option maxHeartbeats 4000000 in
theorem CX3_bridged {S : Nat × (Nat → Int32)} {d : Nat} {I : tq_PI} {L : tq_PL} {a0 : Nat} {a1 : Int64} (h0 : tq_sh0 a0 = 3) {out : Int64} (hf : FX3_bridged I L a0 a1 = out) : tq_K S mX3_bridged d [.ref a0, .long a1] I L (tq_one2 (some (.long out)) I L) := by
  unfold FX3_bridged at hf
  refine tq_K_of (by decide) (Nat.le_of_ble_eq_true rfl) (ls := [.ref a0, .long a1, tq_u]) rfl ?_
  refine tq_lload_n rX3_bridged_0 rfl ?_
  refine tq_lload_n rX3_bridged_1 rfl ?_
  refine tq_iconst (1 : Int32) rX3_bridged_2 (by decide) ?_
  refine tq_lushr rX3_bridged_3 ?_
  refine tq_land rX3_bridged_4 ?_
  refine tq_ldc2 rX3_bridged_5 (k_X3_89) ?_
  refine tq_land rX3_bridged_8 ?_
  refine tq_lload_n rX3_bridged_9 rfl ?_
  refine tq_iconst (1 : Int32) rX3_bridged_10 (by decide) ?_
  refine tq_lshl rX3_bridged_11 ?_
  refine tq_land rX3_bridged_12 ?_
  refine tq_ldc2 rX3_bridged_13 (k_X3_91) ?_
  refine tq_land rX3_bridged_16 ?_
  refine ty_lret rX3_bridged_17 rfl rfl ?_
  subst hf
  exact ⟨rfl, rfl, rfl⟩

abbrev mX3_standing : tq_M := (yX3_standing, cX3_standing, 3, (Option.some Jvm.ClassFile.FieldType.long), 0, 0)
theorem moX3_bridged : tq_mok mX3_bridged 1 := ⟨tq_sg1 _ (List.mem_of_getElem? (i := 3) rfl), tq_sg3 _ (List.mem_of_getElem? (i := 130) rfl), ⟨by decide, by decide, by decide +kernel⟩, by decide⟩
theorem mvX3_bridged : 3 < 13 ∧ (tq_cl 3).1 = mX3_bridged.1.cls ∧ Cond.instanceMethod mX3_bridged.1 ∈ lw_tbl ∧ Cond.selects mX3_bridged.1.cls mX3_bridged.1 mX3_bridged.1 ∈ lw_tbl := ⟨by decide, rfl, tq_sg3 _ (List.mem_of_getElem? (i := 129) rfl), List.mem_append_left _ (List.mem_map.mpr ⟨_, List.mem_of_getElem? (i := 16) rfl, rfl⟩)⟩
theorem moX3_carried : tq_mok mX3_carried 1 := ⟨tq_sg1 _ (List.mem_of_getElem? (i := 3) rfl), tq_sg3 _ (List.mem_of_getElem? (i := 126) rfl), ⟨by decide, by decide, by decide +kernel⟩, by decide⟩
theorem mvX3_carried : 3 < 13 ∧ (tq_cl 3).1 = mX3_carried.1.cls ∧ Cond.instanceMethod mX3_carried.1 ∈ lw_tbl ∧ Cond.selects mX3_carried.1.cls mX3_carried.1 mX3_carried.1 ∈ lw_tbl := ⟨by decide, rfl, tq_sg3 _ (List.mem_of_getElem? (i := 125) rfl), List.mem_append_left _ (List.mem_map.mpr ⟨_, List.mem_of_getElem? (i := 15) rfl, rfl⟩)⟩
theorem l_X3_93 : tq_lok RX3 93 mX3_carried.1 := Or.inl (tq_sg3 _ (List.mem_of_getElem? (i := 123) rfl))
theorem l_X3_96 : tq_lok RX3 96 mX3_bridged.1 := Or.inl (tq_sg3 _ (List.mem_of_getElem? (i := 127) rfl))
theorem rX3_standing_0 : tq_D cX3_standing 0 (.aload_n 0) 1 1 := ⟨by decide +kernel, rfl⟩
theorem rX3_standing_1 : tq_D cX3_standing 1 (.lload_n 1) 1 2 := ⟨by decide +kernel, rfl⟩
theorem rX3_standing_2 : tq_D cX3_standing 2 (.invokevirtual 93) 3 5 := ⟨by decide +kernel, rfl⟩
theorem rX3_standing_5 : tq_D cX3_standing 5 (.aload_n 0) 1 6 := ⟨by decide +kernel, rfl⟩
theorem rX3_standing_6 : tq_D cX3_standing 6 (.lload_n 1) 1 7 := ⟨by decide +kernel, rfl⟩
theorem rX3_standing_7 : tq_D cX3_standing 7 (.invokevirtual 96) 3 10 := ⟨by decide +kernel, rfl⟩
theorem rX3_standing_10 : tq_D cX3_standing 10 (.lor) 1 11 := ⟨by decide +kernel, rfl⟩
theorem rX3_standing_11 : decode cX3_standing 11 = .ok (.lreturn, 1) := by decide +kernel
def FX3_standing (I : tq_PI) (L : tq_PL) (a0 : Nat) (a1 : Int64) : Int64 :=
  (tq_let (FX3_carried I L a0 a1) fun p1 => (tq_let (FX3_bridged I L a0 a1) fun p2 => (p1 ||| p2)))
set_option maxRecDepth 100000 in
set_option maxHeartbeats 4000000 in
theorem CX3_standing {S : Nat × (Nat → Int32)} {d : Nat} {I : tq_PI} {L : tq_PL} {a0 : Nat} {a1 : Int64} (h0 : tq_sh0 a0 = 3) {out : Int64} (hf : FX3_standing I L a0 a1 = out) : tq_K S mX3_standing (d + 1) [.ref a0, .long a1] I L (tq_one2 (some (.long out)) I L) := by
  unfold FX3_standing at hf
  refine tq_K_of (by decide) (Nat.le_of_ble_eq_true rfl) (ls := [.ref a0, .long a1, tq_u]) rfl ?_
  refine tq_aload_n rX3_standing_0 rfl ?_
  refine tq_lload_n rX3_standing_1 rfl ?_
  obtain ⟨p1, e1, hf⟩ := tq_let_elim hf
  refine ty_callVJ p1 ([.long a1]) ([]) rX3_standing_2 l_X3_93 moX3_carried mvX3_carried h0 rfl rfl (Nat.le_of_ble_eq_true rfl) ⟨rfl, rfl⟩ (CX3_carried h0 e1) ?_
  refine tq_aload_n rX3_standing_5 rfl ?_
  refine tq_lload_n rX3_standing_6 rfl ?_
  obtain ⟨p2, e2, hf⟩ := tq_let_elim hf
  refine ty_callVJ p2 ([.long a1]) ([.long p1]) rX3_standing_7 l_X3_96 moX3_bridged mvX3_bridged h0 rfl rfl (Nat.le_of_ble_eq_true rfl) ⟨rfl, rfl⟩ (CX3_bridged h0 e2) ?_
  refine tq_lor rX3_standing_10 ?_
  refine ty_lret rX3_standing_11 rfl rfl ?_
  subst hf
  exact ⟨rfl, rfl, rfl⟩

abbrev mX3_settled : tq_M := (yX3_settled, cX3_settled, 8, (Option.some Jvm.ClassFile.FieldType.long), 0, 0)
theorem moX3_standing : tq_mok mX3_standing 1 := ⟨tq_sg1 _ (List.mem_of_getElem? (i := 3) rfl), tq_sg3 _ (List.mem_of_getElem? (i := 122) rfl), ⟨by decide, by decide, by decide +kernel⟩, by decide⟩
theorem mvX3_standing : 3 < 13 ∧ (tq_cl 3).1 = mX3_standing.1.cls ∧ Cond.instanceMethod mX3_standing.1 ∈ lw_tbl ∧ Cond.selects mX3_standing.1.cls mX3_standing.1 mX3_standing.1 ∈ lw_tbl := ⟨by decide, rfl, tq_sg3 _ (List.mem_of_getElem? (i := 120) rfl), tq_sg3 _ (List.mem_of_getElem? (i := 121) rfl)⟩
theorem l_X3_99 : tq_lok RX3 99 mX3_standing.1 := Or.inl (tq_sg4 _ (List.mem_of_getElem? (i := 86) rfl))
theorem rX3_settled_0 : tq_D cX3_settled 0 (.lload_n 1) 1 1 := ⟨by decide +kernel, rfl⟩
theorem rX3_settled_1 : tq_D cX3_settled 1 (.lstore_n 3) 1 2 := ⟨by decide +kernel, rfl⟩
theorem rX3_settled_2 : tq_D cX3_settled 2 (.iconst 0) 1 3 := ⟨by decide +kernel, rfl⟩
theorem rX3_settled_3 : tq_D cX3_settled 3 (.istore 5) 2 5 := ⟨by decide +kernel, rfl⟩
theorem rX3_settled_5 : tq_D cX3_settled 5 (.iload 5) 2 7 := ⟨by decide +kernel, rfl⟩
theorem rX3_settled_7 : tq_D cX3_settled 7 (.bipush 48) 2 9 := ⟨by decide +kernel, rfl⟩
theorem rX3_settled_9 : tq_J cX3_settled 9 (.if_icmp .ge) 38 12 := ⟨29, by decide +kernel, by decide, rfl⟩
theorem rX3_settled_12 : tq_D cX3_settled 12 (.aload_n 0) 1 13 := ⟨by decide +kernel, rfl⟩
theorem rX3_settled_13 : tq_D cX3_settled 13 (.lload_n 3) 1 14 := ⟨by decide +kernel, rfl⟩
theorem rX3_settled_14 : tq_D cX3_settled 14 (.invokevirtual 99) 3 17 := ⟨by decide +kernel, rfl⟩
theorem rX3_settled_17 : tq_D cX3_settled 17 (.lstore 6) 2 19 := ⟨by decide +kernel, rfl⟩
theorem rX3_settled_19 : tq_D cX3_settled 19 (.lload 6) 2 21 := ⟨by decide +kernel, rfl⟩
theorem rX3_settled_21 : tq_D cX3_settled 21 (.lload_n 3) 1 22 := ⟨by decide +kernel, rfl⟩
theorem rX3_settled_22 : tq_D cX3_settled 22 (.lcmp) 1 23 := ⟨by decide +kernel, rfl⟩
theorem rX3_settled_23 : tq_J cX3_settled 23 (.ifCond .ne) 29 26 := ⟨6, by decide +kernel, by decide, rfl⟩
theorem rX3_settled_26 : tq_J cX3_settled 26 .goto 38 29 := ⟨12, by decide +kernel, by decide, rfl⟩
theorem rX3_settled_29 : tq_D cX3_settled 29 (.lload 6) 2 31 := ⟨by decide +kernel, rfl⟩
theorem rX3_settled_31 : tq_D cX3_settled 31 (.lstore_n 3) 1 32 := ⟨by decide +kernel, rfl⟩
theorem rX3_settled_32 : tq_D cX3_settled 32 (.iinc 5 1) 3 35 := ⟨by decide +kernel, rfl⟩
theorem rX3_settled_35 : tq_J cX3_settled 35 .goto 5 38 := ⟨(-30), by decide +kernel, by decide, rfl⟩
theorem rX3_settled_38 : tq_D cX3_settled 38 (.lload_n 3) 1 39 := ⟨by decide +kernel, rfl⟩
theorem rX3_settled_39 : decode cX3_settled 39 = .ok (.lreturn, 1) := by decide +kernel
def FX3_settled_s5 (I : tq_PI) (L : tq_PL) (a0 : Nat) (a3 : Int64) (a5 : Int32) : Option ((Int64 × Int32) ⊕ (Int64)) :=
  (if (48 : Int32) ≤ a5 then some (.inr a3) else (tq_let (FX3_standing I L a0 a3) fun p2 => (if (lg_cmp p2 a3) = 0 then some (.inr a3) else some (.inl (p2, (a5 + 1))))))
def FX3_settled (I : tq_PI) (L : tq_PL) (a0 : Nat) (a1 : Int64) : Option (Int64) :=
  ((tq_it (fun p : Int64 × Int32 => FX3_settled_s5 I L a0 p.1 p.2) 100000 (a1, (0 : Int32))).bind fun p4 => some p4)
set_option maxRecDepth 100000 in
set_option maxHeartbeats 4000000 in
theorem FX3_settled_s5_x {S : Nat × (Nat → Int32)} {d : Nat} {I : tq_PI} {L : tq_PL} {a0 : Nat} {a3 : Int64} {a5 : Int32} (h0 : tq_sh0 a0 = 3) {q0 : Option Value → tq_PI → tq_PL → Prop} {out : (Int64 × Int32) ⊕ (Int64)} (hf : FX3_settled_s5 I L a0 a3 a5 = some out) (hk : Sum.elim (fun p : Int64 × Int32 => tq_X S mX3_settled (d + 2) tq_k0 5 ([.ref a0, tq_u, tq_u, .long p.1, tq_u, .int p.2, tq_u, tq_u]) [] (tq_st I L) (tq_Q q0)) (fun p : Int64 => tq_X S mX3_settled (d + 2) tq_k0 38 ([tq_u, tq_u, tq_u, .long p, tq_u, tq_u, tq_u, tq_u]) [] (tq_st I L) (tq_Q q0)) out) : tq_X S mX3_settled (d + 2) tq_k0 5 ([.ref a0, tq_u, tq_u, .long a3, tq_u, .int a5, tq_u, tq_u]) [] (tq_st I L) (tq_Q q0) := by
  unfold FX3_settled_s5 at hf
  refine tq_iload rX3_settled_5 rfl ?_
  refine tq_bipush (48 : Int32) rX3_settled_7 (by decide) ?_
  refine tq_icmp_ge rX3_settled_9 (fun c1 => ?_) (fun c1 => ?_)
  · rw [if_pos c1] at hf
    have hf := Option.some.inj hf
    subst hf
    exact tq_forget _ (tq_le_u (tq_le_u (tq_le_u (tq_le_s (tq_le_u (tq_le_u (tq_le_u (tq_le_u tq_le_n)))))))) hk
  · rw [if_neg c1] at hf
    refine tq_aload_n rX3_settled_12 rfl ?_
    refine tq_lload_n rX3_settled_13 rfl ?_
    obtain ⟨p2, e2, hf⟩ := tq_let_elim hf
    refine ty_callVJ p2 ([.long a3]) ([]) rX3_settled_14 l_X3_99 moX3_standing mvX3_standing h0 rfl rfl (Nat.le_of_ble_eq_true rfl) ⟨rfl, rfl⟩ (CX3_standing h0 e2) ?_
    refine tq_lstore ([.ref a0, tq_u, tq_u, .long a3, tq_u, .int a5, .long p2, tq_u]) rX3_settled_17 (Nat.le_of_ble_eq_true rfl) rfl ?_
    refine tq_lload rX3_settled_19 rfl ?_
    refine tq_lload_n rX3_settled_21 rfl ?_
    refine tq_lcmp rX3_settled_22 ?_
    refine tq_if_ne rX3_settled_23 (fun c3 => ?_) (fun c3 => ?_)
    · rw [if_neg c3] at hf
      refine tq_lload rX3_settled_29 rfl ?_
      refine tq_lstore_n ([.ref a0, tq_u, tq_u, .long p2, tq_u, .int a5, .long p2, tq_u]) rX3_settled_31 (Nat.le_of_ble_eq_true rfl) rfl ?_
      refine tq_iinc (a5 + 1) ([.ref a0, tq_u, tq_u, .long p2, tq_u, .int (a5 + 1), .long p2, tq_u]) rX3_settled_32 rfl (tq_inc (by decide)) (Nat.le_of_ble_eq_true rfl) rfl ?_
      refine tq_goto rX3_settled_35 ?_
      have hf := Option.some.inj hf
      subst hf
      exact tq_forget _ (tq_le_s (tq_le_u (tq_le_u (tq_le_s (tq_le_u (tq_le_s (tq_le_u (tq_le_u tq_le_n)))))))) hk
    · rw [if_pos c3] at hf
      refine tq_goto rX3_settled_26 ?_
      have hf := Option.some.inj hf
      subst hf
      exact tq_forget _ (tq_le_u (tq_le_u (tq_le_u (tq_le_s (tq_le_u (tq_le_u (tq_le_u (tq_le_u tq_le_n)))))))) hk

set_option maxRecDepth 100000 in
set_option maxHeartbeats 4000000 in
theorem CX3_settled {S : Nat × (Nat → Int32)} {d : Nat} {I : tq_PI} {L : tq_PL} {a0 : Nat} {a1 : Int64} (h0 : tq_sh0 a0 = 3) {out : Int64} (hf : FX3_settled I L a0 a1 = some out) : tq_K S mX3_settled (d + 2) [.ref a0, .long a1] I L (tq_one2 (some (.long out)) I L) := by
  unfold FX3_settled at hf
  refine tq_K_of (by decide) (Nat.le_of_ble_eq_true rfl) (ls := [.ref a0, .long a1, tq_u, tq_u, tq_u, tq_u, tq_u, tq_u]) rfl ?_
  refine tq_lload_n rX3_settled_0 rfl ?_
  refine tq_lstore_n ([.ref a0, .long a1, tq_u, .long a1, tq_u, tq_u, tq_u, tq_u]) rX3_settled_1 (Nat.le_of_ble_eq_true rfl) rfl ?_
  refine tq_iconst (0 : Int32) rX3_settled_2 (by decide) ?_
  refine tq_istore ([.ref a0, .long a1, tq_u, .long a1, tq_u, .int (0 : Int32), tq_u, tq_u]) rX3_settled_3 (Nat.le_of_ble_eq_true rfl) rfl ?_
  obtain ⟨p4, e4, hf⟩ := Option.bind_eq_some_iff.mp hf
  refine tq_forget _ (tq_le_s (tq_le_u (tq_le_u (tq_le_s (tq_le_u (tq_le_s (tq_le_u (tq_le_u tq_le_n)))))))) ?_
  refine tq_it_elim (P := fun p : Int64 × Int32 => tq_X S mX3_settled (d + 2) tq_k0 5 ([.ref a0, tq_u, tq_u, .long p.1, tq_u, .int p.2, tq_u, tq_u]) [] (tq_st I L) (tq_Q (tq_one2 (some (.long out)) I L))) (R := fun p : Int64 => tq_X S mX3_settled (d + 2) tq_k0 38 ([tq_u, tq_u, tq_u, .long p, tq_u, tq_u, tq_u, tq_u]) [] (tq_st I L) (tq_Q (tq_one2 (some (.long out)) I L))) (fun p o hp hk => FX3_settled_s5_x h0 hp hk) _ _ _ e4 ?_
  show tq_X _ _ _ _ _ _ _ _ _
  refine tq_lload_n rX3_settled_38 rfl ?_
  refine ty_lret rX3_settled_39 rfl rfl ?_
  have hf := Option.some.inj hf
  subst hf
  exact ⟨rfl, rfl, rfl⟩

abbrev mX3_bitAt : tq_M := (yX3_bitAt, cX3_bitAt, 3, (Option.some Jvm.ClassFile.FieldType.long), 0, 0)
theorem f_X3_15 : tq_fok RX3 15 3 1 := ⟨by decide, by decide, Or.inl (tq_sg1 _ (List.mem_of_getElem? (i := 50) rfl))⟩
theorem f_X3_9 : tq_fok RX3 9 3 0 := ⟨by decide, by decide, Or.inl (tq_sg1 _ (List.mem_of_getElem? (i := 48) rfl))⟩
theorem rX3_bitAt_0 : tq_D cX3_bitAt 0 (.iload_n 1) 1 1 := ⟨by decide +kernel, rfl⟩
theorem rX3_bitAt_1 : tq_J cX3_bitAt 1 (.ifCond .lt) 24 4 := ⟨23, by decide +kernel, by decide, rfl⟩
theorem rX3_bitAt_4 : tq_D cX3_bitAt 4 (.iload_n 1) 1 5 := ⟨by decide +kernel, rfl⟩
theorem rX3_bitAt_5 : tq_D cX3_bitAt 5 (.aload_n 0) 1 6 := ⟨by decide +kernel, rfl⟩
theorem rX3_bitAt_6 : tq_D cX3_bitAt 6 (.getfield 9) 3 9 := ⟨by decide +kernel, rfl⟩
theorem rX3_bitAt_9 : tq_J cX3_bitAt 9 (.if_icmp .ge) 24 12 := ⟨15, by decide +kernel, by decide, rfl⟩
theorem rX3_bitAt_12 : tq_D cX3_bitAt 12 (.iload_n 2) 1 13 := ⟨by decide +kernel, rfl⟩
theorem rX3_bitAt_13 : tq_J cX3_bitAt 13 (.ifCond .lt) 24 16 := ⟨11, by decide +kernel, by decide, rfl⟩
theorem rX3_bitAt_16 : tq_D cX3_bitAt 16 (.iload_n 2) 1 17 := ⟨by decide +kernel, rfl⟩
theorem rX3_bitAt_17 : tq_D cX3_bitAt 17 (.aload_n 0) 1 18 := ⟨by decide +kernel, rfl⟩
theorem rX3_bitAt_18 : tq_D cX3_bitAt 18 (.getfield 15) 3 21 := ⟨by decide +kernel, rfl⟩
theorem rX3_bitAt_21 : tq_J cX3_bitAt 21 (.if_icmp .lt) 26 24 := ⟨5, by decide +kernel, by decide, rfl⟩
theorem rX3_bitAt_24 : tq_D cX3_bitAt 24 (.lconst 0) 1 25 := ⟨by decide +kernel, rfl⟩
theorem rX3_bitAt_25 : decode cX3_bitAt 25 = .ok (.lreturn, 1) := by decide +kernel
theorem rX3_bitAt_26 : tq_D cX3_bitAt 26 (.lconst 1) 1 27 := ⟨by decide +kernel, rfl⟩
theorem rX3_bitAt_27 : tq_D cX3_bitAt 27 (.bipush 8) 2 29 := ⟨by decide +kernel, rfl⟩
theorem rX3_bitAt_29 : tq_D cX3_bitAt 29 (.iload_n 2) 1 30 := ⟨by decide +kernel, rfl⟩
theorem rX3_bitAt_30 : tq_D cX3_bitAt 30 (.imul) 1 31 := ⟨by decide +kernel, rfl⟩
theorem rX3_bitAt_31 : tq_D cX3_bitAt 31 (.iload_n 1) 1 32 := ⟨by decide +kernel, rfl⟩
theorem rX3_bitAt_32 : tq_D cX3_bitAt 32 (.iadd) 1 33 := ⟨by decide +kernel, rfl⟩
theorem rX3_bitAt_33 : tq_D cX3_bitAt 33 (.lshl) 1 34 := ⟨by decide +kernel, rfl⟩
theorem rX3_bitAt_34 : decode cX3_bitAt 34 = .ok (.lreturn, 1) := by decide +kernel
def FX3_bitAt_j24 (I : tq_PI) (L : tq_PL)  : Int64 :=
  (0 : Int64)
def FX3_bitAt (I : tq_PI) (L : tq_PL) (a0 : Nat) (a1 : Int32) (a2 : Int32) : Int64 :=
  (if a1 < 0 then (FX3_bitAt_j24 I L ) else (if (I a0 0) ≤ a1 then (FX3_bitAt_j24 I L ) else (if a2 < 0 then (FX3_bitAt_j24 I L ) else (if a2 < (I a0 1) then ((1 : Int64) <<< (Int32.toInt64 (((8 : Int32) * a2) + a1) &&& 63)) else (FX3_bitAt_j24 I L )))))
set_option maxRecDepth 100000 in
set_option maxHeartbeats 4000000 in
theorem FX3_bitAt_j24_x {S : Nat × (Nat → Int32)} {d : Nat} {I : tq_PI} {L : tq_PL}   {q0 : Option Value → tq_PI → tq_PL → Prop} {out : Int64} (hf : FX3_bitAt_j24 I L = out) (hk : q0 (some (.long out)) I L) : tq_X S mX3_bitAt d tq_k0 24 ([tq_u, tq_u, tq_u]) ([]) (tq_st I L) (tq_Q q0) := by
  unfold FX3_bitAt_j24 at hf
  refine tq_lconst (0 : Int64) rX3_bitAt_24 (by decide) ?_
  refine ty_lret rX3_bitAt_25 rfl rfl ?_
  subst hf
  exact hk

set_option maxRecDepth 100000 in
set_option maxHeartbeats 4000000 in
theorem CX3_bitAt {S : Nat × (Nat → Int32)} {d : Nat} {I : tq_PI} {L : tq_PL} {a0 : Nat} {a1 : Int32} {a2 : Int32} (h0 : tq_sh0 a0 = 3) {out : Int64} (hf : FX3_bitAt I L a0 a1 a2 = out) : tq_K S mX3_bitAt d [.ref a0, .int a1, .int a2] I L (tq_one2 (some (.long out)) I L) := by
  unfold FX3_bitAt at hf
  refine tq_K_of (by decide) (Nat.le_of_ble_eq_true rfl) (ls := [.ref a0, .int a1, .int a2]) rfl ?_
  refine tq_iload_n rX3_bitAt_0 rfl ?_
  refine tq_if_lt rX3_bitAt_1 (fun c1 => ?_) (fun c1 => ?_)
  · rw [if_pos c1] at hf
    exact tq_forget _ (tq_le_u (tq_le_u (tq_le_u tq_le_n))) (FX3_bitAt_j24_x  hf ⟨rfl, rfl, rfl⟩)
  · rw [if_neg c1] at hf
    refine tq_iload_n rX3_bitAt_4 rfl ?_
    refine tq_aload_n rX3_bitAt_5 rfl ?_
    refine ty_getI rX3_bitAt_6 f_X3_9 rfl h0 ?_
    refine tq_icmp_ge rX3_bitAt_9 (fun c2 => ?_) (fun c2 => ?_)
    · rw [if_pos c2] at hf
      exact tq_forget _ (tq_le_u (tq_le_u (tq_le_u tq_le_n))) (FX3_bitAt_j24_x  hf ⟨rfl, rfl, rfl⟩)
    · rw [if_neg c2] at hf
      refine tq_iload_n rX3_bitAt_12 rfl ?_
      refine tq_if_lt rX3_bitAt_13 (fun c3 => ?_) (fun c3 => ?_)
      · rw [if_pos c3] at hf
        exact tq_forget _ (tq_le_u (tq_le_u (tq_le_u tq_le_n))) (FX3_bitAt_j24_x  hf ⟨rfl, rfl, rfl⟩)
      · rw [if_neg c3] at hf
        refine tq_iload_n rX3_bitAt_16 rfl ?_
        refine tq_aload_n rX3_bitAt_17 rfl ?_
        refine ty_getI rX3_bitAt_18 f_X3_15 rfl h0 ?_
        refine tq_icmp_lt rX3_bitAt_21 (fun c4 => ?_) (fun c4 => ?_)
        · rw [if_pos c4] at hf
          refine tq_lconst (1 : Int64) rX3_bitAt_26 (by decide) ?_
          refine tq_bipush (8 : Int32) rX3_bitAt_27 (by decide) ?_
          refine tq_iload_n rX3_bitAt_29 rfl ?_
          refine tq_imul rX3_bitAt_30 ?_
          refine tq_iload_n rX3_bitAt_31 rfl ?_
          refine tq_iadd rX3_bitAt_32 ?_
          refine tq_lshl rX3_bitAt_33 ?_
          refine ty_lret rX3_bitAt_34 rfl rfl ?_
          subst hf
          exact ⟨rfl, rfl, rfl⟩
        · rw [if_neg c4] at hf
          exact tq_forget _ (tq_le_u (tq_le_u (tq_le_u tq_le_n))) (FX3_bitAt_j24_x  hf ⟨rfl, rfl, rfl⟩)

abbrev mX3_cellCount : tq_M := (yX3_cellCount, cX3_cellCount, 1, (Option.some Jvm.ClassFile.FieldType.int), 0, 0)
theorem rX3_cellCount_0 : tq_D cX3_cellCount 0 (.aload_n 0) 1 1 := ⟨by decide +kernel, rfl⟩
theorem rX3_cellCount_1 : tq_D cX3_cellCount 1 (.getfield 9) 3 4 := ⟨by decide +kernel, rfl⟩
theorem rX3_cellCount_4 : tq_D cX3_cellCount 4 (.aload_n 0) 1 5 := ⟨by decide +kernel, rfl⟩
theorem rX3_cellCount_5 : tq_D cX3_cellCount 5 (.getfield 15) 3 8 := ⟨by decide +kernel, rfl⟩
theorem rX3_cellCount_8 : tq_D cX3_cellCount 8 (.imul) 1 9 := ⟨by decide +kernel, rfl⟩
theorem rX3_cellCount_9 : decode cX3_cellCount 9 = .ok (.ireturn, 1) := by decide +kernel
def FX3_cellCount (I : tq_PI) (L : tq_PL) (a0 : Nat) : Int32 :=
  ((I a0 0) * (I a0 1))
set_option maxRecDepth 100000 in
set_option maxHeartbeats 4000000 in
theorem CX3_cellCount {S : Nat × (Nat → Int32)} {d : Nat} {I : tq_PI} {L : tq_PL} {a0 : Nat} (h0 : tq_sh0 a0 = 3) {out : Int32} (hf : FX3_cellCount I L a0 = out) : tq_K S mX3_cellCount d [.ref a0] I L (tq_one2 (some (.int out)) I L) := by
  unfold FX3_cellCount at hf
  refine tq_K_of (by decide) (Nat.le_of_ble_eq_true rfl) (ls := [.ref a0]) rfl ?_
  refine tq_aload_n rX3_cellCount_0 rfl ?_
  refine ty_getI rX3_cellCount_1 f_X3_9 rfl h0 ?_
  refine tq_aload_n rX3_cellCount_4 rfl ?_
  refine ty_getI rX3_cellCount_5 f_X3_15 rfl h0 ?_
  refine tq_imul rX3_cellCount_8 ?_
  refine ty_iret rX3_cellCount_9 rfl rfl ?_
  subst hf
  exact ⟨rfl, rfl, rfl⟩

abbrev mX3_bitOf : tq_M := (yX3_bitOf, cX3_bitOf, 2, (Option.some Jvm.ClassFile.FieldType.long), 0, 0)
theorem moX3_bitAt : tq_mok mX3_bitAt 2 := ⟨tq_sg1 _ (List.mem_of_getElem? (i := 3) rfl), tq_sg3 _ (List.mem_of_getElem? (i := 217) rfl), ⟨by decide, by decide, by decide +kernel⟩, by decide⟩
theorem mvX3_bitAt : 3 < 13 ∧ (tq_cl 3).1 = mX3_bitAt.1.cls ∧ Cond.instanceMethod mX3_bitAt.1 ∈ lw_tbl ∧ Cond.selects mX3_bitAt.1.cls mX3_bitAt.1 mX3_bitAt.1 ∈ lw_tbl := ⟨by decide, rfl, tq_sg3 _ (List.mem_of_getElem? (i := 215) rfl), tq_sg3 _ (List.mem_of_getElem? (i := 216) rfl)⟩
theorem moX3_cellCount : tq_mok mX3_cellCount 0 := ⟨tq_sg1 _ (List.mem_of_getElem? (i := 3) rfl), tq_sg3 _ (List.mem_of_getElem? (i := 213) rfl), ⟨by decide, by decide, by decide +kernel⟩, by decide⟩
theorem mvX3_cellCount : 3 < 13 ∧ (tq_cl 3).1 = mX3_cellCount.1.cls ∧ Cond.instanceMethod mX3_cellCount.1 ∈ lw_tbl ∧ Cond.selects mX3_cellCount.1.cls mX3_cellCount.1 mX3_cellCount.1 ∈ lw_tbl := ⟨by decide, rfl, tq_sg3 _ (List.mem_of_getElem? (i := 211) rfl), tq_sg3 _ (List.mem_of_getElem? (i := 212) rfl)⟩
theorem l_X3_62 : tq_lok RX3 62 mX3_cellCount.1 := Or.inl (tq_sg3 _ (List.mem_of_getElem? (i := 210) rfl))
theorem l_X3_66 : tq_lok RX3 66 mX3_bitAt.1 := Or.inl (tq_sg3 _ (List.mem_of_getElem? (i := 214) rfl))
theorem rX3_bitOf_0 : tq_D cX3_bitOf 0 (.aload_n 0) 1 1 := ⟨by decide +kernel, rfl⟩
theorem rX3_bitOf_1 : tq_D cX3_bitOf 1 (.getfield 9) 3 4 := ⟨by decide +kernel, rfl⟩
theorem rX3_bitOf_4 : tq_D cX3_bitOf 4 (.iconst 1) 1 5 := ⟨by decide +kernel, rfl⟩
theorem rX3_bitOf_5 : tq_J cX3_bitOf 5 (.if_icmp .lt) 20 8 := ⟨15, by decide +kernel, by decide, rfl⟩
theorem rX3_bitOf_8 : tq_D cX3_bitOf 8 (.iload_n 1) 1 9 := ⟨by decide +kernel, rfl⟩
theorem rX3_bitOf_9 : tq_J cX3_bitOf 9 (.ifCond .lt) 20 12 := ⟨11, by decide +kernel, by decide, rfl⟩
theorem rX3_bitOf_12 : tq_D cX3_bitOf 12 (.iload_n 1) 1 13 := ⟨by decide +kernel, rfl⟩
theorem rX3_bitOf_13 : tq_D cX3_bitOf 13 (.aload_n 0) 1 14 := ⟨by decide +kernel, rfl⟩
theorem rX3_bitOf_14 : tq_D cX3_bitOf 14 (.invokevirtual 62) 3 17 := ⟨by decide +kernel, rfl⟩
theorem rX3_bitOf_17 : tq_J cX3_bitOf 17 (.if_icmp .lt) 22 20 := ⟨5, by decide +kernel, by decide, rfl⟩
theorem rX3_bitOf_20 : tq_D cX3_bitOf 20 (.lconst 0) 1 21 := ⟨by decide +kernel, rfl⟩
theorem rX3_bitOf_21 : decode cX3_bitOf 21 = .ok (.lreturn, 1) := by decide +kernel
theorem rX3_bitOf_22 : tq_D cX3_bitOf 22 (.aload_n 0) 1 23 := ⟨by decide +kernel, rfl⟩
theorem rX3_bitOf_23 : tq_D cX3_bitOf 23 (.iload_n 1) 1 24 := ⟨by decide +kernel, rfl⟩
theorem rX3_bitOf_24 : tq_D cX3_bitOf 24 (.aload_n 0) 1 25 := ⟨by decide +kernel, rfl⟩
theorem rX3_bitOf_25 : tq_D cX3_bitOf 25 (.getfield 9) 3 28 := ⟨by decide +kernel, rfl⟩
theorem rX3_bitOf_28 : tq_D cX3_bitOf 28 (.irem) 1 29 := ⟨by decide +kernel, rfl⟩
theorem rX3_bitOf_29 : tq_D cX3_bitOf 29 (.iload_n 1) 1 30 := ⟨by decide +kernel, rfl⟩
theorem rX3_bitOf_30 : tq_D cX3_bitOf 30 (.aload_n 0) 1 31 := ⟨by decide +kernel, rfl⟩
theorem rX3_bitOf_31 : tq_D cX3_bitOf 31 (.getfield 9) 3 34 := ⟨by decide +kernel, rfl⟩
theorem rX3_bitOf_34 : tq_D cX3_bitOf 34 (.idiv) 1 35 := ⟨by decide +kernel, rfl⟩
theorem rX3_bitOf_35 : tq_D cX3_bitOf 35 (.invokevirtual 66) 3 38 := ⟨by decide +kernel, rfl⟩
theorem rX3_bitOf_38 : decode cX3_bitOf 38 = .ok (.lreturn, 1) := by decide +kernel
def FX3_bitOf_j20 (I : tq_PI) (L : tq_PL)  : Option (Int64) :=
  some (0 : Int64)
def FX3_bitOf (I : tq_PI) (L : tq_PL) (a0 : Nat) (a1 : Int32) : Option (Int64) :=
  (if (I a0 0) < (1 : Int32) then (FX3_bitOf_j20 I L ) else (if a1 < 0 then (FX3_bitOf_j20 I L ) else (tq_let (FX3_cellCount I L a0) fun p3 => (if a1 < p3 then (if ¬ (I a0 0) = 0 then (if ¬ (I a0 0) = 0 then (tq_let (FX3_bitAt I L a0 ((a1 - a1 / (I a0 0) * (I a0 0))) ((a1 / (I a0 0)))) fun p7 => some p7) else none) else none) else (FX3_bitOf_j20 I L )))))
set_option maxRecDepth 100000 in
set_option maxHeartbeats 4000000 in
theorem FX3_bitOf_j20_x {S : Nat × (Nat → Int32)} {d : Nat} {I : tq_PI} {L : tq_PL}   {q0 : Option Value → tq_PI → tq_PL → Prop} {out : Int64} (hf : FX3_bitOf_j20 I L = some out) (hk : q0 (some (.long out)) I L) : tq_X S mX3_bitOf (d + 1) tq_k0 20 ([tq_u, tq_u]) ([]) (tq_st I L) (tq_Q q0) := by
  unfold FX3_bitOf_j20 at hf
  refine tq_lconst (0 : Int64) rX3_bitOf_20 (by decide) ?_
  refine ty_lret rX3_bitOf_21 rfl rfl ?_
  have hf := Option.some.inj hf
  subst hf
  exact hk

set_option maxRecDepth 100000 in
set_option maxHeartbeats 4000000 in
theorem CX3_bitOf {S : Nat × (Nat → Int32)} {d : Nat} {I : tq_PI} {L : tq_PL} {a0 : Nat} {a1 : Int32} (h0 : tq_sh0 a0 = 3) {out : Int64} (hf : FX3_bitOf I L a0 a1 = some out) : tq_K S mX3_bitOf (d + 1) [.ref a0, .int a1] I L (tq_one2 (some (.long out)) I L) := by
  unfold FX3_bitOf at hf
  refine tq_K_of (by decide) (Nat.le_of_ble_eq_true rfl) (ls := [.ref a0, .int a1]) rfl ?_
  refine tq_aload_n rX3_bitOf_0 rfl ?_
  refine ty_getI rX3_bitOf_1 f_X3_9 rfl h0 ?_
  refine tq_iconst (1 : Int32) rX3_bitOf_4 (by decide) ?_
  refine tq_icmp_lt rX3_bitOf_5 (fun c1 => ?_) (fun c1 => ?_)
  · rw [if_pos c1] at hf
    exact tq_forget _ (tq_le_u (tq_le_u tq_le_n)) (FX3_bitOf_j20_x  hf ⟨rfl, rfl, rfl⟩)
  · rw [if_neg c1] at hf
    refine tq_iload_n rX3_bitOf_8 rfl ?_
    refine tq_if_lt rX3_bitOf_9 (fun c2 => ?_) (fun c2 => ?_)
    · rw [if_pos c2] at hf
      exact tq_forget _ (tq_le_u (tq_le_u tq_le_n)) (FX3_bitOf_j20_x  hf ⟨rfl, rfl, rfl⟩)
    · rw [if_neg c2] at hf
      refine tq_iload_n rX3_bitOf_12 rfl ?_
      refine tq_aload_n rX3_bitOf_13 rfl ?_
      obtain ⟨p3, e3, hf⟩ := tq_let_elim hf
      refine ty_callVI p3 ([]) ([.int a1]) rX3_bitOf_14 l_X3_62 moX3_cellCount mvX3_cellCount h0 rfl rfl (Nat.le_of_ble_eq_true rfl) ⟨rfl, rfl⟩ (CX3_cellCount h0 e3) ?_
      refine tq_icmp_lt rX3_bitOf_17 (fun c4 => ?_) (fun c4 => ?_)
      · rw [if_pos c4] at hf
        refine tq_aload_n rX3_bitOf_22 rfl ?_
        refine tq_iload_n rX3_bitOf_23 rfl ?_
        refine tq_aload_n rX3_bitOf_24 rfl ?_
        refine ty_getI rX3_bitOf_25 f_X3_9 rfl h0 ?_
        obtain ⟨g5, hf⟩ := tq_chk hf
        refine tq_irem rX3_bitOf_28 g5 ?_
        refine tq_iload_n rX3_bitOf_29 rfl ?_
        refine tq_aload_n rX3_bitOf_30 rfl ?_
        refine ty_getI rX3_bitOf_31 f_X3_9 rfl h0 ?_
        obtain ⟨g6, hf⟩ := tq_chk hf
        refine tq_idiv rX3_bitOf_34 g6 ?_
        obtain ⟨p7, e7, hf⟩ := tq_let_elim hf
        refine ty_callVJ p7 ([.int (a1 - a1 / (I a0 0) * (I a0 0)), .int (a1 / (I a0 0))]) ([]) rX3_bitOf_35 l_X3_66 moX3_bitAt mvX3_bitAt h0 rfl rfl (Nat.le_of_ble_eq_true rfl) ⟨rfl, rfl⟩ (CX3_bitAt h0 e7) ?_
        refine ty_lret rX3_bitOf_38 rfl rfl ?_
        have hf := Option.some.inj hf
        subst hf
        exact ⟨rfl, rfl, rfl⟩
      · rw [if_neg c4] at hf
        exact tq_forget _ (tq_le_u (tq_le_u tq_le_n)) (FX3_bitOf_j20_x  hf ⟨rfl, rfl, rfl⟩)

abbrev mX3_numberOf : tq_M := (yX3_numberOf, cX3_numberOf, 4, (Option.some Jvm.ClassFile.FieldType.int), 0, 0)
theorem moJ13_bitCount_95d88 : tq_mok mJ13_bitCount_95d88 1 := ⟨tq_sg1 _ (List.mem_of_getElem? (i := 20) rfl), tq_sg3 _ (List.mem_of_getElem? (i := 193) rfl), ⟨by decide, by decide, by decide +kernel⟩, by decide⟩
theorem msJ13_bitCount_95d88 : Cond.static mJ13_bitCount_95d88.1 ∈ lw_tbl := tq_sg3 _ (List.mem_of_getElem? (i := 192) rfl)
theorem l_X3_70 : tq_lok RX3 70 mJ13_bitCount_95d88.1 := Or.inl (tq_sg3 _ (List.mem_of_getElem? (i := 201) rfl))
theorem rX3_numberOf_0 : tq_D cX3_numberOf 0 (.lload_n 1) 1 1 := ⟨by decide +kernel, rfl⟩
theorem rX3_numberOf_1 : tq_D cX3_numberOf 1 (.lconst 1) 1 2 := ⟨by decide +kernel, rfl⟩
theorem rX3_numberOf_2 : tq_D cX3_numberOf 2 (.lsub) 1 3 := ⟨by decide +kernel, rfl⟩
theorem rX3_numberOf_3 : tq_D cX3_numberOf 3 (.invokestatic 70) 3 6 := ⟨by decide +kernel, rfl⟩
theorem rX3_numberOf_6 : tq_D cX3_numberOf 6 (.istore_n 3) 1 7 := ⟨by decide +kernel, rfl⟩
theorem rX3_numberOf_7 : tq_D cX3_numberOf 7 (.aload_n 0) 1 8 := ⟨by decide +kernel, rfl⟩
theorem rX3_numberOf_8 : tq_D cX3_numberOf 8 (.getfield 9) 3 11 := ⟨by decide +kernel, rfl⟩
theorem rX3_numberOf_11 : tq_D cX3_numberOf 11 (.iload_n 3) 1 12 := ⟨by decide +kernel, rfl⟩
theorem rX3_numberOf_12 : tq_D cX3_numberOf 12 (.bipush 8) 2 14 := ⟨by decide +kernel, rfl⟩
theorem rX3_numberOf_14 : tq_D cX3_numberOf 14 (.idiv) 1 15 := ⟨by decide +kernel, rfl⟩
theorem rX3_numberOf_15 : tq_D cX3_numberOf 15 (.imul) 1 16 := ⟨by decide +kernel, rfl⟩
theorem rX3_numberOf_16 : tq_D cX3_numberOf 16 (.iload_n 3) 1 17 := ⟨by decide +kernel, rfl⟩
theorem rX3_numberOf_17 : tq_D cX3_numberOf 17 (.bipush 8) 2 19 := ⟨by decide +kernel, rfl⟩
theorem rX3_numberOf_19 : tq_D cX3_numberOf 19 (.irem) 1 20 := ⟨by decide +kernel, rfl⟩
theorem rX3_numberOf_20 : tq_D cX3_numberOf 20 (.iadd) 1 21 := ⟨by decide +kernel, rfl⟩
theorem rX3_numberOf_21 : decode cX3_numberOf 21 = .ok (.ireturn, 1) := by decide +kernel
def FX3_numberOf (I : tq_PI) (L : tq_PL) (a0 : Nat) (a1 : Int64) : Option (Int32) :=
  (tq_let (FJ13_bitCount_95d88 I L ((a1 - (1 : Int64)))) fun p1 => (if ¬ (8 : Int32) = 0 then (if ¬ (8 : Int32) = 0 then some (((I a0 0) * (p1 / (8 : Int32))) + (p1 - p1 / (8 : Int32) * (8 : Int32))) else none) else none))
set_option maxRecDepth 100000 in
set_option maxHeartbeats 4000000 in
theorem CX3_numberOf {S : Nat × (Nat → Int32)} {d : Nat} {I : tq_PI} {L : tq_PL} {a0 : Nat} {a1 : Int64} (h0 : tq_sh0 a0 = 3) {out : Int32} (hf : FX3_numberOf I L a0 a1 = some out) : tq_K S mX3_numberOf (d + 1) [.ref a0, .long a1] I L (tq_one2 (some (.int out)) I L) := by
  unfold FX3_numberOf at hf
  refine tq_K_of (by decide) (Nat.le_of_ble_eq_true rfl) (ls := [.ref a0, .long a1, tq_u, tq_u]) rfl ?_
  refine tq_lload_n rX3_numberOf_0 rfl ?_
  refine tq_lconst (1 : Int64) rX3_numberOf_1 (by decide) ?_
  refine tq_lsub rX3_numberOf_2 ?_
  obtain ⟨p1, e1, hf⟩ := tq_let_elim hf
  refine ty_callSI p1 ([.long (a1 - (1 : Int64))]) ([]) rX3_numberOf_3 l_X3_70 moJ13_bitCount_95d88 msJ13_bitCount_95d88 rfl rfl (Nat.le_of_ble_eq_true rfl) ⟨rfl, rfl⟩ (CJ13_bitCount_95d88  e1) ?_
  refine tq_istore_n ([.ref a0, .long a1, tq_u, .int p1]) rX3_numberOf_6 (Nat.le_of_ble_eq_true rfl) rfl ?_
  refine tq_aload_n rX3_numberOf_7 rfl ?_
  refine ty_getI rX3_numberOf_8 f_X3_9 rfl h0 ?_
  refine tq_iload_n rX3_numberOf_11 rfl ?_
  refine tq_bipush (8 : Int32) rX3_numberOf_12 (by decide) ?_
  obtain ⟨g2, hf⟩ := tq_chk hf
  refine tq_idiv rX3_numberOf_14 g2 ?_
  refine tq_imul rX3_numberOf_15 ?_
  refine tq_iload_n rX3_numberOf_16 rfl ?_
  refine tq_bipush (8 : Int32) rX3_numberOf_17 (by decide) ?_
  obtain ⟨g3, hf⟩ := tq_chk hf
  refine tq_irem rX3_numberOf_19 g3 ?_
  refine tq_iadd rX3_numberOf_20 ?_
  refine ty_iret rX3_numberOf_21 rfl rfl ?_
  have hf := Option.some.inj hf
  subst hf
  exact ⟨rfl, rfl, rfl⟩

abbrev mX3_pick : tq_M := (yX3_pick, cX3_pick, 7, (Option.some Jvm.ClassFile.FieldType.int), 0, 0)
theorem moX3_numberOf : tq_mok mX3_numberOf 1 := ⟨tq_sg1 _ (List.mem_of_getElem? (i := 3) rfl), tq_sg4 _ (List.mem_of_getElem? (i := 138) rfl), ⟨by decide, by decide, by decide +kernel⟩, by decide⟩
theorem mvX3_numberOf : 3 < 13 ∧ (tq_cl 3).1 = mX3_numberOf.1.cls ∧ Cond.instanceMethod mX3_numberOf.1 ∈ lw_tbl ∧ Cond.selects mX3_numberOf.1.cls mX3_numberOf.1 mX3_numberOf.1 ∈ lw_tbl := ⟨by decide, rfl, tq_sg4 _ (List.mem_of_getElem? (i := 136) rfl), tq_sg4 _ (List.mem_of_getElem? (i := 137) rfl)⟩
theorem moX11_lowest : tq_mok mX11_lowest 1 := ⟨tq_sg1 _ (List.mem_of_getElem? (i := 1) rfl), tq_sg4 _ (List.mem_of_getElem? (i := 134) rfl), ⟨by decide, by decide, by decide +kernel⟩, by decide⟩
theorem msX11_lowest : Cond.static mX11_lowest.1 ∈ lw_tbl := tq_sg4 _ (List.mem_of_getElem? (i := 133) rfl)
theorem l_X3_76 : tq_lok RX3 76 mX11_lowest.1 := Or.inr ⟨_, tq_sg4 _ (List.mem_of_getElem? (i := 132) rfl)⟩
theorem l_X3_80 : tq_lok RX3 80 mX3_numberOf.1 := Or.inl (tq_sg4 _ (List.mem_of_getElem? (i := 135) rfl))
theorem rX3_pick_0 : tq_D cX3_pick 0 (.iload_n 3) 1 1 := ⟨by decide +kernel, rfl⟩
theorem rX3_pick_1 : tq_J cX3_pick 1 (.ifCond .lt) 12 4 := ⟨11, by decide +kernel, by decide, rfl⟩
theorem rX3_pick_4 : tq_D cX3_pick 4 (.iload_n 3) 1 5 := ⟨by decide +kernel, rfl⟩
theorem rX3_pick_5 : tq_D cX3_pick 5 (.lload_n 1) 1 6 := ⟨by decide +kernel, rfl⟩
theorem rX3_pick_6 : tq_D cX3_pick 6 (.invokestatic 70) 3 9 := ⟨by decide +kernel, rfl⟩
theorem rX3_pick_9 : tq_J cX3_pick 9 (.if_icmp .lt) 14 12 := ⟨5, by decide +kernel, by decide, rfl⟩
theorem rX3_pick_12 : tq_D cX3_pick 12 (.iconst (-1)) 1 13 := ⟨by decide +kernel, rfl⟩
theorem rX3_pick_13 : decode cX3_pick 13 = .ok (.ireturn, 1) := by decide +kernel
theorem rX3_pick_14 : tq_D cX3_pick 14 (.lload_n 1) 1 15 := ⟨by decide +kernel, rfl⟩
theorem rX3_pick_15 : tq_D cX3_pick 15 (.lstore 4) 2 17 := ⟨by decide +kernel, rfl⟩
theorem rX3_pick_17 : tq_D cX3_pick 17 (.iconst 0) 1 18 := ⟨by decide +kernel, rfl⟩
theorem rX3_pick_18 : tq_D cX3_pick 18 (.istore 6) 2 20 := ⟨by decide +kernel, rfl⟩
theorem rX3_pick_20 : tq_D cX3_pick 20 (.iload 6) 2 22 := ⟨by decide +kernel, rfl⟩
theorem rX3_pick_22 : tq_D cX3_pick 22 (.iload_n 3) 1 23 := ⟨by decide +kernel, rfl⟩
theorem rX3_pick_23 : tq_J cX3_pick 23 (.if_icmp .ge) 41 26 := ⟨18, by decide +kernel, by decide, rfl⟩
theorem rX3_pick_26 : tq_D cX3_pick 26 (.lload 4) 2 28 := ⟨by decide +kernel, rfl⟩
theorem rX3_pick_28 : tq_D cX3_pick 28 (.lload 4) 2 30 := ⟨by decide +kernel, rfl⟩
theorem rX3_pick_30 : tq_D cX3_pick 30 (.lconst 1) 1 31 := ⟨by decide +kernel, rfl⟩
theorem rX3_pick_31 : tq_D cX3_pick 31 (.lsub) 1 32 := ⟨by decide +kernel, rfl⟩
theorem rX3_pick_32 : tq_D cX3_pick 32 (.land) 1 33 := ⟨by decide +kernel, rfl⟩
theorem rX3_pick_33 : tq_D cX3_pick 33 (.lstore 4) 2 35 := ⟨by decide +kernel, rfl⟩
theorem rX3_pick_35 : tq_D cX3_pick 35 (.iinc 6 1) 3 38 := ⟨by decide +kernel, rfl⟩
theorem rX3_pick_38 : tq_J cX3_pick 38 .goto 20 41 := ⟨(-18), by decide +kernel, by decide, rfl⟩
theorem rX3_pick_41 : tq_D cX3_pick 41 (.aload_n 0) 1 42 := ⟨by decide +kernel, rfl⟩
theorem rX3_pick_42 : tq_D cX3_pick 42 (.lload 4) 2 44 := ⟨by decide +kernel, rfl⟩
theorem rX3_pick_44 : tq_D cX3_pick 44 (.invokestatic 76) 3 47 := ⟨by decide +kernel, rfl⟩
theorem rX3_pick_47 : tq_D cX3_pick 47 (.invokevirtual 80) 3 50 := ⟨by decide +kernel, rfl⟩
theorem rX3_pick_50 : decode cX3_pick 50 = .ok (.ireturn, 1) := by decide +kernel
def FX3_pick_j12 (I : tq_PI) (L : tq_PL)  : Option (Int32) :=
  some (-1 : Int32)
def FX3_pick_s20 (I : tq_PI) (L : tq_PL) (a0 : Nat) (a3 : Int32) (a4 : Int64) (a6 : Int32) : Option ((Int64 × Int32) ⊕ (Int64)) :=
  (if a3 ≤ a6 then some (.inr a4) else some (.inl ((a4 &&& (a4 - (1 : Int64))), (a6 + 1))))
def FX3_pick (I : tq_PI) (L : tq_PL) (a0 : Nat) (a1 : Int64) (a3 : Int32) : Option (Int32) :=
  (if a3 < 0 then (FX3_pick_j12 I L ) else (tq_let (FJ13_bitCount_95d88 I L a1) fun p2 => (if a3 < p2 then ((tq_it (fun p : Int64 × Int32 => FX3_pick_s20 I L a0 a3 p.1 p.2) 100000 (a1, (0 : Int32))).bind fun p5 => (tq_let (FX11_lowest I L p5) fun p6 => ((FX3_numberOf I L a0 p6).bind fun p7 => some p7))) else (FX3_pick_j12 I L ))))
set_option maxRecDepth 100000 in
set_option maxHeartbeats 4000000 in
theorem FX3_pick_j12_x {S : Nat × (Nat → Int32)} {d : Nat} {I : tq_PI} {L : tq_PL}   {q0 : Option Value → tq_PI → tq_PL → Prop} {out : Int32} (hf : FX3_pick_j12 I L = some out) (hk : q0 (some (.int out)) I L) : tq_X S mX3_pick (d + 2) tq_k0 12 ([tq_u, tq_u, tq_u, tq_u, tq_u, tq_u, tq_u]) ([]) (tq_st I L) (tq_Q q0) := by
  unfold FX3_pick_j12 at hf
  refine tq_iconst (-1 : Int32) rX3_pick_12 (by decide) ?_
  refine ty_iret rX3_pick_13 rfl rfl ?_
  have hf := Option.some.inj hf
  subst hf
  exact hk

set_option maxRecDepth 100000 in
set_option maxHeartbeats 4000000 in
theorem FX3_pick_s20_x {S : Nat × (Nat → Int32)} {d : Nat} {I : tq_PI} {L : tq_PL} {a0 : Nat} {a3 : Int32} {a4 : Int64} {a6 : Int32} (h0 : tq_sh0 a0 = 3) {q0 : Option Value → tq_PI → tq_PL → Prop} {out : (Int64 × Int32) ⊕ (Int64)} (hf : FX3_pick_s20 I L a0 a3 a4 a6 = some out) (hk : Sum.elim (fun p : Int64 × Int32 => tq_X S mX3_pick (d + 2) tq_k0 20 ([.ref a0, tq_u, tq_u, .int a3, .long p.1, tq_u, .int p.2]) [] (tq_st I L) (tq_Q q0)) (fun p : Int64 => tq_X S mX3_pick (d + 2) tq_k0 41 ([.ref a0, tq_u, tq_u, tq_u, .long p, tq_u, tq_u]) [] (tq_st I L) (tq_Q q0)) out) : tq_X S mX3_pick (d + 2) tq_k0 20 ([.ref a0, tq_u, tq_u, .int a3, .long a4, tq_u, .int a6]) [] (tq_st I L) (tq_Q q0) := by
  unfold FX3_pick_s20 at hf
  refine tq_iload rX3_pick_20 rfl ?_
  refine tq_iload_n rX3_pick_22 rfl ?_
  refine tq_icmp_ge rX3_pick_23 (fun c4 => ?_) (fun c4 => ?_)
  · rw [if_pos c4] at hf
    have hf := Option.some.inj hf
    subst hf
    exact tq_forget _ (tq_le_s (tq_le_u (tq_le_u (tq_le_u (tq_le_s (tq_le_u (tq_le_u tq_le_n))))))) hk
  · rw [if_neg c4] at hf
    refine tq_lload rX3_pick_26 rfl ?_
    refine tq_lload rX3_pick_28 rfl ?_
    refine tq_lconst (1 : Int64) rX3_pick_30 (by decide) ?_
    refine tq_lsub rX3_pick_31 ?_
    refine tq_land rX3_pick_32 ?_
    refine tq_lstore ([.ref a0, tq_u, tq_u, .int a3, .long (a4 &&& (a4 - (1 : Int64))), tq_u, .int a6]) rX3_pick_33 (Nat.le_of_ble_eq_true rfl) rfl ?_
    refine tq_iinc (a6 + 1) ([.ref a0, tq_u, tq_u, .int a3, .long (a4 &&& (a4 - (1 : Int64))), tq_u, .int (a6 + 1)]) rX3_pick_35 rfl (tq_inc (by decide)) (Nat.le_of_ble_eq_true rfl) rfl ?_
    refine tq_goto rX3_pick_38 ?_
    have hf := Option.some.inj hf
    subst hf
    exact tq_forget _ (tq_le_s (tq_le_u (tq_le_u (tq_le_s (tq_le_s (tq_le_u (tq_le_s tq_le_n))))))) hk

set_option maxRecDepth 100000 in
set_option maxHeartbeats 4000000 in
theorem CX3_pick {S : Nat × (Nat → Int32)} {d : Nat} {I : tq_PI} {L : tq_PL} {a0 : Nat} {a1 : Int64} {a3 : Int32} (h0 : tq_sh0 a0 = 3) {out : Int32} (hf : FX3_pick I L a0 a1 a3 = some out) : tq_K S mX3_pick (d + 2) [.ref a0, .long a1, .int a3] I L (tq_one2 (some (.int out)) I L) := by
  unfold FX3_pick at hf
  refine tq_K_of (by decide) (Nat.le_of_ble_eq_true rfl) (ls := [.ref a0, .long a1, tq_u, .int a3, tq_u, tq_u, tq_u]) rfl ?_
  refine tq_iload_n rX3_pick_0 rfl ?_
  refine tq_if_lt rX3_pick_1 (fun c1 => ?_) (fun c1 => ?_)
  · rw [if_pos c1] at hf
    exact tq_forget _ (tq_le_u (tq_le_u (tq_le_u (tq_le_u (tq_le_u (tq_le_u (tq_le_u tq_le_n))))))) (FX3_pick_j12_x  hf ⟨rfl, rfl, rfl⟩)
  · rw [if_neg c1] at hf
    refine tq_iload_n rX3_pick_4 rfl ?_
    refine tq_lload_n rX3_pick_5 rfl ?_
    obtain ⟨p2, e2, hf⟩ := tq_let_elim hf
    refine ty_callSI p2 ([.long a1]) ([.int a3]) rX3_pick_6 l_X3_70 moJ13_bitCount_95d88 msJ13_bitCount_95d88 rfl rfl (Nat.le_of_ble_eq_true rfl) ⟨rfl, rfl⟩ (CJ13_bitCount_95d88  e2) ?_
    refine tq_icmp_lt rX3_pick_9 (fun c3 => ?_) (fun c3 => ?_)
    · rw [if_pos c3] at hf
      refine tq_lload_n rX3_pick_14 rfl ?_
      refine tq_lstore ([.ref a0, .long a1, tq_u, .int a3, .long a1, tq_u, tq_u]) rX3_pick_15 (Nat.le_of_ble_eq_true rfl) rfl ?_
      refine tq_iconst (0 : Int32) rX3_pick_17 (by decide) ?_
      refine tq_istore ([.ref a0, .long a1, tq_u, .int a3, .long a1, tq_u, .int (0 : Int32)]) rX3_pick_18 (Nat.le_of_ble_eq_true rfl) rfl ?_
      obtain ⟨p5, e5, hf⟩ := Option.bind_eq_some_iff.mp hf
      refine tq_forget _ (tq_le_s (tq_le_u (tq_le_u (tq_le_s (tq_le_s (tq_le_u (tq_le_s tq_le_n))))))) ?_
      refine tq_it_elim (P := fun p : Int64 × Int32 => tq_X S mX3_pick (d + 2) tq_k0 20 ([.ref a0, tq_u, tq_u, .int a3, .long p.1, tq_u, .int p.2]) [] (tq_st I L) (tq_Q (tq_one2 (some (.int out)) I L))) (R := fun p : Int64 => tq_X S mX3_pick (d + 2) tq_k0 41 ([.ref a0, tq_u, tq_u, tq_u, .long p, tq_u, tq_u]) [] (tq_st I L) (tq_Q (tq_one2 (some (.int out)) I L))) (fun p o hp hk => FX3_pick_s20_x h0 hp hk) _ _ _ e5 ?_
      show tq_X _ _ _ _ _ _ _ _ _
      refine tq_aload_n rX3_pick_41 rfl ?_
      refine tq_lload rX3_pick_42 rfl ?_
      obtain ⟨p6, e6, hf⟩ := tq_let_elim hf
      refine ty_callSJ p6 ([.long p5]) ([.ref a0]) rX3_pick_44 l_X3_76 moX11_lowest msX11_lowest rfl rfl (Nat.le_of_ble_eq_true rfl) ⟨rfl, rfl⟩ (CX11_lowest  e6) ?_
      obtain ⟨p7, e7, hf⟩ := Option.bind_eq_some_iff.mp hf
      refine ty_callVI p7 ([.long p6]) ([]) rX3_pick_47 l_X3_80 moX3_numberOf mvX3_numberOf h0 rfl rfl (Nat.le_of_ble_eq_true rfl) ⟨rfl, rfl⟩ (CX3_numberOf h0 e7) ?_
      refine ty_iret rX3_pick_50 rfl rfl ?_
      have hf := Option.some.inj hf
      subst hf
      exact ⟨rfl, rfl, rfl⟩
    · rw [if_neg c3] at hf
      exact tq_forget _ (tq_le_u (tq_le_u (tq_le_u (tq_le_u (tq_le_u (tq_le_u (tq_le_u tq_le_n))))))) (FX3_pick_j12_x  hf ⟨rfl, rfl, rfl⟩)

