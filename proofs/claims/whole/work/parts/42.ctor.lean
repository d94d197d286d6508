set_option maxRecDepth 100000 in
set_option maxHeartbeats 4000000 in
theorem zc1 {S : Nat × (Nat → Int32)} {d : Nat} : tq_C S miX3_init (d + 1) [.ref 8] Z18 (fun r σ => r = none ∧ σ = Z28) := by
  refine tq_C_of (by decide) (Nat.le_of_ble_eq_true rfl) (ls := [.ref 8]) rfl ?_
  refine tq_aload_n rX3_init_0 rfl ?_
  refine tq_objInit rX3_init_1 (Nat.le_of_ble_eq_true rfl) (ob_X3_3) ?_
  refine tq_aload_n rX3_init_4 rfl ?_
  refine tq_iconst (0 : Int32) rX3_init_5 (by decide) ?_
  refine tq_putI rX3_init_6 f_X3_9 rfl (by decide +kernel) rfl ?_
  show tq_X _ _ _ _ _ _ _ Z19 _
  refine tq_aload_n rX3_init_9 rfl ?_
  refine tq_iconst (0 : Int32) rX3_init_10 (by decide) ?_
  refine tq_putI rX3_init_11 f_X3_15 rfl (by decide +kernel) rfl ?_
  show tq_X _ _ _ _ _ _ _ Z20 _
  refine tq_aload_n rX3_init_14 rfl ?_
  refine tq_lconst (0 : Int64) rX3_init_15 (by decide) ?_
  refine tq_putL rX3_init_16 f_X3_18 rfl (by decide +kernel) rfl ?_
  show tq_X _ _ _ _ _ _ _ Z21 _
  refine tq_aload_n rX3_init_19 rfl ?_
  refine tq_lconst (0 : Int64) rX3_init_20 (by decide) ?_
  refine tq_putL rX3_init_21 f_X3_22 rfl (by decide +kernel) rfl ?_
  show tq_X _ _ _ _ _ _ _ Z22 _
  refine tq_aload_n rX3_init_24 rfl ?_
  refine tq_lconst (0 : Int64) rX3_init_25 (by decide) ?_
  refine tq_putL rX3_init_26 f_X3_25 rfl (by decide +kernel) rfl ?_
  show tq_X _ _ _ _ _ _ _ Z23 _
  refine tq_aload_n rX3_init_29 rfl ?_
  refine tq_lconst (0 : Int64) rX3_init_30 (by decide) ?_
  refine tq_putL rX3_init_31 f_X3_28 rfl (by decide +kernel) rfl ?_
  show tq_X _ _ _ _ _ _ _ Z24 _
  refine tq_aload_n rX3_init_34 rfl ?_
  refine tq_lconst (0 : Int64) rX3_init_35 (by decide) ?_
  refine tq_putL rX3_init_36 f_X3_31 rfl (by decide +kernel) rfl ?_
  show tq_X _ _ _ _ _ _ _ Z25 _
  refine tq_aload_n rX3_init_39 rfl ?_
  refine tq_lconst (0 : Int64) rX3_init_40 (by decide) ?_
  refine tq_putL rX3_init_41 f_X3_34 rfl (by decide +kernel) rfl ?_
  show tq_X _ _ _ _ _ _ _ Z26 _
  refine tq_aload_n rX3_init_44 rfl ?_
  refine tq_lconst (0 : Int64) rX3_init_45 (by decide) ?_
  refine tq_putL rX3_init_46 f_X3_37 rfl (by decide +kernel) rfl ?_
  show tq_X _ _ _ _ _ _ _ Z27 _
  refine tq_aload_n rX3_init_49 rfl ?_
  refine tq_lconst (0 : Int64) rX3_init_50 (by decide) ?_
  refine tq_putL rX3_init_51 f_X3_40 rfl (by decide +kernel) rfl ?_
  show tq_X _ _ _ _ _ _ _ Z28 _
  exact tq_vret rX3_init_54 rfl (by decide +kernel) ⟨rfl, rfl⟩

set_option maxRecDepth 100000 in
set_option maxHeartbeats 4000000 in
theorem zc2 {S : Nat × (Nat → Int32)} {d : Nat} : tq_C S miX10_init (d + 1) [.ref 9] Z30 (fun r σ => r = none ∧ σ = Z37) := by
  refine tq_C_of (by decide) (Nat.le_of_ble_eq_true rfl) (ls := [.ref 9]) rfl ?_
  refine tq_aload_n rX10_init_0 rfl ?_
  refine tq_objInit rX10_init_1 (Nat.le_of_ble_eq_true rfl) (ob_X10_3) ?_
  refine tq_aload_n rX10_init_4 rfl ?_
  refine tq_iconst (0 : Int32) rX10_init_5 (by decide) ?_
  refine tq_putI rX10_init_6 f_X10_9 rfl (by decide +kernel) rfl ?_
  show tq_X _ _ _ _ _ _ _ Z31 _
  refine tq_aload_n rX10_init_9 rfl ?_
  refine tq_bipush (40 : Int32) rX10_init_10 (by decide) ?_
  refine tz_newa 10 (t := 100) (n := 40) rX10_init_12 (by decide) (na_100) (by decide) (by decide) (by decide +kernel) (by decide +kernel) ?_
  show tq_X _ _ _ _ _ _ _ Z32 _
  refine tq_putR rX10_init_14 f_X10_15 ⟨rfl, fun _ => ⟨rfl, rfl⟩⟩ (by decide +kernel) (ff_X10_15) ?_
  show tq_X _ _ _ _ _ _ _ Z33 _
  refine tq_aload_n rX10_init_17 rfl ?_
  refine tq_bipush (40 : Int32) rX10_init_18 (by decide) ?_
  refine tz_newa 11 (t := 100) (n := 40) rX10_init_20 (by decide) (na_100) (by decide) (by decide) (by decide +kernel) (by decide +kernel) ?_
  show tq_X _ _ _ _ _ _ _ Z34 _
  refine tq_putR rX10_init_22 f_X10_19 ⟨rfl, fun _ => ⟨rfl, rfl⟩⟩ (by decide +kernel) (ff_X10_19) ?_
  show tq_X _ _ _ _ _ _ _ Z35 _
  refine tq_aload_n rX10_init_25 rfl ?_
  refine tq_bipush (40 : Int32) rX10_init_26 (by decide) ?_
  refine tz_newa 12 (t := 100) (n := 40) rX10_init_28 (by decide) (na_100) (by decide) (by decide) (by decide +kernel) (by decide +kernel) ?_
  show tq_X _ _ _ _ _ _ _ Z36 _
  refine tq_putR rX10_init_30 f_X10_22 ⟨rfl, fun _ => ⟨rfl, rfl⟩⟩ (by decide +kernel) (ff_X10_22) ?_
  show tq_X _ _ _ _ _ _ _ Z37 _
  exact tq_vret rX10_init_33 rfl (by decide +kernel) ⟨rfl, rfl⟩

set_option maxRecDepth 100000 in
set_option maxHeartbeats 4000000 in
theorem zc3 {S : Nat × (Nat → Int32)} {d : Nat} : tq_C S miX4_init (d + 1) [.ref 13] Z39 (fun r σ => r = none ∧ σ = Z44) := by
  refine tq_C_of (by decide) (Nat.le_of_ble_eq_true rfl) (ls := [.ref 13]) rfl ?_
  refine tq_aload_n rX4_init_0 rfl ?_
  refine tq_objInit rX4_init_1 (Nat.le_of_ble_eq_true rfl) (ob_X4_3) ?_
  refine tq_aload_n rX4_init_4 rfl ?_
  refine tq_iconst (0 : Int32) rX4_init_5 (by decide) ?_
  refine tq_putI rX4_init_6 f_X4_9 rfl (by decide +kernel) rfl ?_
  show tq_X _ _ _ _ _ _ _ Z40 _
  refine tq_aload_n rX4_init_9 rfl ?_
  refine tq_bipush (8 : Int32) rX4_init_10 (by decide) ?_
  refine tz_newa 14 (t := 100) (n := 8) rX4_init_12 (by decide) (na_100) (by decide) (by decide) (by decide +kernel) (by decide +kernel) ?_
  show tq_X _ _ _ _ _ _ _ Z41 _
  refine tq_putR rX4_init_14 f_X4_15 ⟨rfl, fun _ => ⟨rfl, rfl⟩⟩ (by decide +kernel) (ff_X4_15) ?_
  show tq_X _ _ _ _ _ _ _ Z42 _
  refine tq_aload_n rX4_init_17 rfl ?_
  refine tq_bipush (8 : Int32) rX4_init_18 (by decide) ?_
  refine tz_newa 15 (t := 100) (n := 8) rX4_init_20 (by decide) (na_100) (by decide) (by decide) (by decide +kernel) (by decide +kernel) ?_
  show tq_X _ _ _ _ _ _ _ Z43 _
  refine tq_putR rX4_init_22 f_X4_19 ⟨rfl, fun _ => ⟨rfl, rfl⟩⟩ (by decide +kernel) (ff_X4_19) ?_
  show tq_X _ _ _ _ _ _ _ Z44 _
  exact tq_vret rX4_init_25 rfl (by decide +kernel) ⟨rfl, rfl⟩

set_option maxRecDepth 100000 in
set_option maxHeartbeats 4000000 in
theorem zc4 {S : Nat × (Nat → Int32)} {d : Nat} : tq_C S miX9_init (d + 1) [.ref 16] Z46 (fun r σ => r = none ∧ σ = Z49) := by
  refine tq_C_of (by decide) (Nat.le_of_ble_eq_true rfl) (ls := [.ref 16]) rfl ?_
  refine tq_aload_n rX9_init_0 rfl ?_
  refine tq_objInit rX9_init_1 (Nat.le_of_ble_eq_true rfl) (ob_X9_3) ?_
  refine tq_aload_n rX9_init_4 rfl ?_
  refine tq_iconst (0 : Int32) rX9_init_5 (by decide) ?_
  refine tq_putI rX9_init_6 f_X9_9 rfl (by decide +kernel) rfl ?_
  show tq_X _ _ _ _ _ _ _ Z47 _
  refine tq_aload_n rX9_init_9 rfl ?_
  refine tq_bipush (8 : Int32) rX9_init_10 (by decide) ?_
  refine tz_newa 17 (t := 100) (n := 8) rX9_init_12 (by decide) (na_100) (by decide) (by decide) (by decide +kernel) (by decide +kernel) ?_
  show tq_X _ _ _ _ _ _ _ Z48 _
  refine tq_putR rX9_init_14 f_X9_15 ⟨rfl, fun _ => ⟨rfl, rfl⟩⟩ (by decide +kernel) (ff_X9_15) ?_
  show tq_X _ _ _ _ _ _ _ Z49 _
  exact tq_vret rX9_init_17 rfl (by decide +kernel) ⟨rfl, rfl⟩

set_option maxRecDepth 100000 in
set_option maxHeartbeats 4000000 in
theorem zc5 {S : Nat × (Nat → Int32)} {d : Nat} : tq_C S miX3_init (d + 1) [.ref 18] Z51 (fun r σ => r = none ∧ σ = Z61) := by
  refine tq_C_of (by decide) (Nat.le_of_ble_eq_true rfl) (ls := [.ref 18]) rfl ?_
  refine tq_aload_n rX3_init_0 rfl ?_
  refine tq_objInit rX3_init_1 (Nat.le_of_ble_eq_true rfl) (ob_X3_3) ?_
  refine tq_aload_n rX3_init_4 rfl ?_
  refine tq_iconst (0 : Int32) rX3_init_5 (by decide) ?_
  refine tq_putI rX3_init_6 f_X3_9 rfl (by decide +kernel) rfl ?_
  show tq_X _ _ _ _ _ _ _ Z52 _
  refine tq_aload_n rX3_init_9 rfl ?_
  refine tq_iconst (0 : Int32) rX3_init_10 (by decide) ?_
  refine tq_putI rX3_init_11 f_X3_15 rfl (by decide +kernel) rfl ?_
  show tq_X _ _ _ _ _ _ _ Z53 _
  refine tq_aload_n rX3_init_14 rfl ?_
  refine tq_lconst (0 : Int64) rX3_init_15 (by decide) ?_
  refine tq_putL rX3_init_16 f_X3_18 rfl (by decide +kernel) rfl ?_
  show tq_X _ _ _ _ _ _ _ Z54 _
  refine tq_aload_n rX3_init_19 rfl ?_
  refine tq_lconst (0 : Int64) rX3_init_20 (by decide) ?_
  refine tq_putL rX3_init_21 f_X3_22 rfl (by decide +kernel) rfl ?_
  show tq_X _ _ _ _ _ _ _ Z55 _
  refine tq_aload_n rX3_init_24 rfl ?_
  refine tq_lconst (0 : Int64) rX3_init_25 (by decide) ?_
  refine tq_putL rX3_init_26 f_X3_25 rfl (by decide +kernel) rfl ?_
  show tq_X _ _ _ _ _ _ _ Z56 _
  refine tq_aload_n rX3_init_29 rfl ?_
  refine tq_lconst (0 : Int64) rX3_init_30 (by decide) ?_
  refine tq_putL rX3_init_31 f_X3_28 rfl (by decide +kernel) rfl ?_
  show tq_X _ _ _ _ _ _ _ Z57 _
  refine tq_aload_n rX3_init_34 rfl ?_
  refine tq_lconst (0 : Int64) rX3_init_35 (by decide) ?_
  refine tq_putL rX3_init_36 f_X3_31 rfl (by decide +kernel) rfl ?_
  show tq_X _ _ _ _ _ _ _ Z58 _
  refine tq_aload_n rX3_init_39 rfl ?_
  refine tq_lconst (0 : Int64) rX3_init_40 (by decide) ?_
  refine tq_putL rX3_init_41 f_X3_34 rfl (by decide +kernel) rfl ?_
  show tq_X _ _ _ _ _ _ _ Z59 _
  refine tq_aload_n rX3_init_44 rfl ?_
  refine tq_lconst (0 : Int64) rX3_init_45 (by decide) ?_
  refine tq_putL rX3_init_46 f_X3_37 rfl (by decide +kernel) rfl ?_
  show tq_X _ _ _ _ _ _ _ Z60 _
  refine tq_aload_n rX3_init_49 rfl ?_
  refine tq_lconst (0 : Int64) rX3_init_50 (by decide) ?_
  refine tq_putL rX3_init_51 f_X3_40 rfl (by decide +kernel) rfl ?_
  show tq_X _ _ _ _ _ _ _ Z61 _
  exact tq_vret rX3_init_54 rfl (by decide +kernel) ⟨rfl, rfl⟩

set_option maxRecDepth 100000 in
set_option maxHeartbeats 4000000 in
theorem zc6 {S : Nat × (Nat → Int32)} {d : Nat} : tq_C S miX10_init (d + 1) [.ref 19] Z63 (fun r σ => r = none ∧ σ = Z70) := by
  refine tq_C_of (by decide) (Nat.le_of_ble_eq_true rfl) (ls := [.ref 19]) rfl ?_
  refine tq_aload_n rX10_init_0 rfl ?_
  refine tq_objInit rX10_init_1 (Nat.le_of_ble_eq_true rfl) (ob_X10_3) ?_
  refine tq_aload_n rX10_init_4 rfl ?_
  refine tq_iconst (0 : Int32) rX10_init_5 (by decide) ?_
  refine tq_putI rX10_init_6 f_X10_9 rfl (by decide +kernel) rfl ?_
  show tq_X _ _ _ _ _ _ _ Z64 _
  refine tq_aload_n rX10_init_9 rfl ?_
  refine tq_bipush (40 : Int32) rX10_init_10 (by decide) ?_
  refine tz_newa 20 (t := 100) (n := 40) rX10_init_12 (by decide) (na_100) (by decide) (by decide) (by decide +kernel) (by decide +kernel) ?_
  show tq_X _ _ _ _ _ _ _ Z65 _
  refine tq_putR rX10_init_14 f_X10_15 ⟨rfl, fun _ => ⟨rfl, rfl⟩⟩ (by decide +kernel) (ff_X10_15) ?_
  show tq_X _ _ _ _ _ _ _ Z66 _
  refine tq_aload_n rX10_init_17 rfl ?_
  refine tq_bipush (40 : Int32) rX10_init_18 (by decide) ?_
  refine tz_newa 21 (t := 100) (n := 40) rX10_init_20 (by decide) (na_100) (by decide) (by decide) (by decide +kernel) (by decide +kernel) ?_
  show tq_X _ _ _ _ _ _ _ Z67 _
  refine tq_putR rX10_init_22 f_X10_19 ⟨rfl, fun _ => ⟨rfl, rfl⟩⟩ (by decide +kernel) (ff_X10_19) ?_
  show tq_X _ _ _ _ _ _ _ Z68 _
  refine tq_aload_n rX10_init_25 rfl ?_
  refine tq_bipush (40 : Int32) rX10_init_26 (by decide) ?_
  refine tz_newa 22 (t := 100) (n := 40) rX10_init_28 (by decide) (na_100) (by decide) (by decide) (by decide +kernel) (by decide +kernel) ?_
  show tq_X _ _ _ _ _ _ _ Z69 _
  refine tq_putR rX10_init_30 f_X10_22 ⟨rfl, fun _ => ⟨rfl, rfl⟩⟩ (by decide +kernel) (ff_X10_22) ?_
  show tq_X _ _ _ _ _ _ _ Z70 _
  exact tq_vret rX10_init_33 rfl (by decide +kernel) ⟨rfl, rfl⟩

set_option maxRecDepth 100000 in
set_option maxHeartbeats 4000000 in
theorem zc7 {S : Nat × (Nat → Int32)} {d : Nat} : tq_C S miX4_init (d + 1) [.ref 23] Z72 (fun r σ => r = none ∧ σ = Z77) := by
  refine tq_C_of (by decide) (Nat.le_of_ble_eq_true rfl) (ls := [.ref 23]) rfl ?_
  refine tq_aload_n rX4_init_0 rfl ?_
  refine tq_objInit rX4_init_1 (Nat.le_of_ble_eq_true rfl) (ob_X4_3) ?_
  refine tq_aload_n rX4_init_4 rfl ?_
  refine tq_iconst (0 : Int32) rX4_init_5 (by decide) ?_
  refine tq_putI rX4_init_6 f_X4_9 rfl (by decide +kernel) rfl ?_
  show tq_X _ _ _ _ _ _ _ Z73 _
  refine tq_aload_n rX4_init_9 rfl ?_
  refine tq_bipush (8 : Int32) rX4_init_10 (by decide) ?_
  refine tz_newa 24 (t := 100) (n := 8) rX4_init_12 (by decide) (na_100) (by decide) (by decide) (by decide +kernel) (by decide +kernel) ?_
  show tq_X _ _ _ _ _ _ _ Z74 _
  refine tq_putR rX4_init_14 f_X4_15 ⟨rfl, fun _ => ⟨rfl, rfl⟩⟩ (by decide +kernel) (ff_X4_15) ?_
  show tq_X _ _ _ _ _ _ _ Z75 _
  refine tq_aload_n rX4_init_17 rfl ?_
  refine tq_bipush (8 : Int32) rX4_init_18 (by decide) ?_
  refine tz_newa 25 (t := 100) (n := 8) rX4_init_20 (by decide) (na_100) (by decide) (by decide) (by decide +kernel) (by decide +kernel) ?_
  show tq_X _ _ _ _ _ _ _ Z76 _
  refine tq_putR rX4_init_22 f_X4_19 ⟨rfl, fun _ => ⟨rfl, rfl⟩⟩ (by decide +kernel) (ff_X4_19) ?_
  show tq_X _ _ _ _ _ _ _ Z77 _
  exact tq_vret rX4_init_25 rfl (by decide +kernel) ⟨rfl, rfl⟩

set_option maxRecDepth 100000 in
set_option maxHeartbeats 4000000 in
theorem zc8 {S : Nat × (Nat → Int32)} {d : Nat} : tq_C S miX9_init (d + 1) [.ref 26] Z79 (fun r σ => r = none ∧ σ = Z82) := by
  refine tq_C_of (by decide) (Nat.le_of_ble_eq_true rfl) (ls := [.ref 26]) rfl ?_
  refine tq_aload_n rX9_init_0 rfl ?_
  refine tq_objInit rX9_init_1 (Nat.le_of_ble_eq_true rfl) (ob_X9_3) ?_
  refine tq_aload_n rX9_init_4 rfl ?_
  refine tq_iconst (0 : Int32) rX9_init_5 (by decide) ?_
  refine tq_putI rX9_init_6 f_X9_9 rfl (by decide +kernel) rfl ?_
  show tq_X _ _ _ _ _ _ _ Z80 _
  refine tq_aload_n rX9_init_9 rfl ?_
  refine tq_bipush (8 : Int32) rX9_init_10 (by decide) ?_
  refine tz_newa 27 (t := 100) (n := 8) rX9_init_12 (by decide) (na_100) (by decide) (by decide) (by decide +kernel) (by decide +kernel) ?_
  show tq_X _ _ _ _ _ _ _ Z81 _
  refine tq_putR rX9_init_14 f_X9_15 ⟨rfl, fun _ => ⟨rfl, rfl⟩⟩ (by decide +kernel) (ff_X9_15) ?_
  show tq_X _ _ _ _ _ _ _ Z82 _
  exact tq_vret rX9_init_17 rfl (by decide +kernel) ⟨rfl, rfl⟩

set_option maxRecDepth 100000 in
set_option maxHeartbeats 4000000 in
theorem zc9 {S : Nat × (Nat → Int32)} {d : Nat} : tq_C S miX0_init (d + 2) [.ref 1] Z2 (fun r σ => r = none ∧ σ = Z83) := by
  refine tq_C_of (by decide) (Nat.le_of_ble_eq_true rfl) (ls := [.ref 1, tq_u]) rfl ?_
  refine tq_aload_n rX0_init_0 rfl ?_
  refine tq_objInit rX0_init_1 (Nat.le_of_ble_eq_true rfl) (ob_X0_3) ?_
  refine tq_aload_n rX0_init_4 rfl ?_
  refine tq_sipush (600 : Int32) rX0_init_5 (by decide) ?_
  refine tz_newa 2 (t := 102) (n := 600) rX0_init_8 (by decide) (na_102) (by decide) (by decide) (by decide +kernel) (by decide +kernel) ?_
  show tq_X _ _ _ _ _ _ _ Z3 _
  refine tq_putR rX0_init_10 f_X0_9 ⟨rfl, fun _ => ⟨rfl, rfl⟩⟩ (by decide +kernel) (ff_X0_9) ?_
  show tq_X _ _ _ _ _ _ _ Z4 _
  refine tq_aload_n rX0_init_13 rfl ?_
  refine tq_iconst (0 : Int32) rX0_init_14 (by decide) ?_
  refine tq_putI rX0_init_15 f_X0_15 rfl (by decide +kernel) rfl ?_
  show tq_X _ _ _ _ _ _ _ Z5 _
  refine tq_aload_n rX0_init_18 rfl ?_
  refine tq_iconst (0 : Int32) rX0_init_19 (by decide) ?_
  refine tq_putI rX0_init_20 f_X0_19 rfl (by decide +kernel) rfl ?_
  show tq_X _ _ _ _ _ _ _ Z6 _
  refine tq_aload_n rX0_init_23 rfl ?_
  refine tq_iconst (-1 : Int32) rX0_init_24 (by decide) ?_
  refine tq_putI rX0_init_25 f_X0_22 rfl (by decide +kernel) rfl ?_
  show tq_X _ _ _ _ _ _ _ Z7 _
  refine tq_aload_n rX0_init_28 rfl ?_
  refine tq_iconst (4 : Int32) rX0_init_29 (by decide) ?_
  refine tz_newa 3 (t := 100) (n := 4) rX0_init_30 (by decide) (na_100) (by decide) (by decide) (by decide +kernel) (by decide +kernel) ?_
  show tq_X _ _ _ _ _ _ _ Z8 _
  refine tq_putR rX0_init_32 f_X0_25 ⟨rfl, fun _ => ⟨rfl, rfl⟩⟩ (by decide +kernel) (ff_X0_25) ?_
  show tq_X _ _ _ _ _ _ _ Z9 _
  refine tq_aload_n rX0_init_35 rfl ?_
  refine tq_iconst (2 : Int32) rX0_init_36 (by decide) ?_
  refine tz_anew 4 (ci := 3) (n := 2) rX0_init_37 (by decide) (aw_X0_29) (by decide) (by decide) (by decide +kernel) (by decide +kernel) ?_
  show tq_X _ _ _ _ _ _ _ Z10 _
  refine tq_putR rX0_init_40 f_X0_31 ⟨rfl, fun _ => ⟨rfl, rfl⟩⟩ (by decide +kernel) (ff_X0_31) ?_
  show tq_X _ _ _ _ _ _ _ Z11 _
  refine tq_aload_n rX0_init_43 rfl ?_
  refine tq_iconst (2 : Int32) rX0_init_44 (by decide) ?_
  refine tz_anew 5 (ci := 10) (n := 2) rX0_init_45 (by decide) (aw_X0_35) (by decide) (by decide) (by decide +kernel) (by decide +kernel) ?_
  show tq_X _ _ _ _ _ _ _ Z12 _
  refine tq_putR rX0_init_48 f_X0_37 ⟨rfl, fun _ => ⟨rfl, rfl⟩⟩ (by decide +kernel) (ff_X0_37) ?_
  show tq_X _ _ _ _ _ _ _ Z13 _
  refine tq_aload_n rX0_init_51 rfl ?_
  refine tq_iconst (2 : Int32) rX0_init_52 (by decide) ?_
  refine tz_anew 6 (ci := 4) (n := 2) rX0_init_53 (by decide) (aw_X0_41) (by decide) (by decide) (by decide +kernel) (by decide +kernel) ?_
  show tq_X _ _ _ _ _ _ _ Z14 _
  refine tq_putR rX0_init_56 f_X0_43 ⟨rfl, fun _ => ⟨rfl, rfl⟩⟩ (by decide +kernel) (ff_X0_43) ?_
  show tq_X _ _ _ _ _ _ _ Z15 _
  refine tq_aload_n rX0_init_59 rfl ?_
  refine tq_iconst (2 : Int32) rX0_init_60 (by decide) ?_
  refine tz_anew 7 (ci := 9) (n := 2) rX0_init_61 (by decide) (aw_X0_47) (by decide) (by decide) (by decide +kernel) (by decide +kernel) ?_
  show tq_X _ _ _ _ _ _ _ Z16 _
  refine tq_putR rX0_init_64 f_X0_49 ⟨rfl, fun _ => ⟨rfl, rfl⟩⟩ (by decide +kernel) (ff_X0_49) ?_
  show tq_X _ _ _ _ _ _ _ Z17 _
  refine tq_iconst (0 : Int32) rX0_init_67 (by decide) ?_
  refine tq_istore_n ([.ref 1, .int (0 : Int32)]) rX0_init_68 (Nat.le_of_ble_eq_true rfl) rfl ?_
  refine tq_iload_n rX0_init_69 rfl ?_
  refine tq_iconst (2 : Int32) rX0_init_70 (by decide) ?_
  refine tq_icmp_ge rX0_init_71 (fun h => absurd h (by decide)) (fun _ => ?_)
  refine tq_aload_n rX0_init_74 rfl ?_
  refine tq_getR (b := 4) rX0_init_75 f_X0_31 rfl (by decide +kernel) (by decide +kernel) ?_
  refine tq_iload_n rX0_init_78 rfl ?_
  refine tz_new 8 (ci := 3) rX0_init_79 (by decide) (nw_X0_29) (by decide +kernel) (by decide +kernel) ?_
  show tq_X _ _ _ _ _ _ _ Z18 _
  refine tq_dup rX0_init_82 rfl ?_
  refine tq_callI (as := []) (st := [.ref 8, .int (0 : Int32), .ref 4]) rX0_init_83 l_X0_53 moiX3_init ⟨rfl, miiX3_init, rfl⟩ rfl rfl (Nat.le_of_ble_eq_true rfl) (by decide +kernel) zc1 ?_
  rintro r9 s9 ⟨rfl, rfl⟩
  show tq_X _ _ _ _ _ _ [.ref 8, .int (0 : Int32), .ref 4] Z28 _
  refine tz_aast (ci := 3) (j := 0) rX0_init_86 (by decide +kernel) (by decide) (by decide +kernel) (by decide +kernel) (by decide) ?_
  show tq_X _ _ _ _ _ _ _ Z29 _
  refine tq_aload_n rX0_init_87 rfl ?_
  refine tq_getR (b := 5) rX0_init_88 f_X0_37 rfl (by decide +kernel) (by decide +kernel) ?_
  refine tq_iload_n rX0_init_91 rfl ?_
  refine tz_new 9 (ci := 10) rX0_init_92 (by decide) (nw_X0_35) (by decide +kernel) (by decide +kernel) ?_
  show tq_X _ _ _ _ _ _ _ Z30 _
  refine tq_dup rX0_init_95 rfl ?_
  refine tq_callI (as := []) (st := [.ref 9, .int (0 : Int32), .ref 5]) rX0_init_96 l_X0_54 moiX10_init ⟨rfl, miiX10_init, rfl⟩ rfl rfl (Nat.le_of_ble_eq_true rfl) (by decide +kernel) zc2 ?_
  rintro r9 s9 ⟨rfl, rfl⟩
  show tq_X _ _ _ _ _ _ [.ref 9, .int (0 : Int32), .ref 5] Z37 _
  refine tz_aast (ci := 10) (j := 0) rX0_init_99 (by decide +kernel) (by decide) (by decide +kernel) (by decide +kernel) (by decide) ?_
  show tq_X _ _ _ _ _ _ _ Z38 _
  refine tq_aload_n rX0_init_100 rfl ?_
  refine tq_getR (b := 6) rX0_init_101 f_X0_43 rfl (by decide +kernel) (by decide +kernel) ?_
  refine tq_iload_n rX0_init_104 rfl ?_
  refine tz_new 13 (ci := 4) rX0_init_105 (by decide) (nw_X0_41) (by decide +kernel) (by decide +kernel) ?_
  show tq_X _ _ _ _ _ _ _ Z39 _
  refine tq_dup rX0_init_108 rfl ?_
  refine tq_callI (as := []) (st := [.ref 13, .int (0 : Int32), .ref 6]) rX0_init_109 l_X0_55 moiX4_init ⟨rfl, miiX4_init, rfl⟩ rfl rfl (Nat.le_of_ble_eq_true rfl) (by decide +kernel) zc3 ?_
  rintro r9 s9 ⟨rfl, rfl⟩
  show tq_X _ _ _ _ _ _ [.ref 13, .int (0 : Int32), .ref 6] Z44 _
  refine tz_aast (ci := 4) (j := 0) rX0_init_112 (by decide +kernel) (by decide) (by decide +kernel) (by decide +kernel) (by decide) ?_
  show tq_X _ _ _ _ _ _ _ Z45 _
  refine tq_aload_n rX0_init_113 rfl ?_
  refine tq_getR (b := 7) rX0_init_114 f_X0_49 rfl (by decide +kernel) (by decide +kernel) ?_
  refine tq_iload_n rX0_init_117 rfl ?_
  refine tz_new 16 (ci := 9) rX0_init_118 (by decide) (nw_X0_47) (by decide +kernel) (by decide +kernel) ?_
  show tq_X _ _ _ _ _ _ _ Z46 _
  refine tq_dup rX0_init_121 rfl ?_
  refine tq_callI (as := []) (st := [.ref 16, .int (0 : Int32), .ref 7]) rX0_init_122 l_X0_56 moiX9_init ⟨rfl, miiX9_init, rfl⟩ rfl rfl (Nat.le_of_ble_eq_true rfl) (by decide +kernel) zc4 ?_
  rintro r9 s9 ⟨rfl, rfl⟩
  show tq_X _ _ _ _ _ _ [.ref 16, .int (0 : Int32), .ref 7] Z49 _
  refine tz_aast (ci := 9) (j := 0) rX0_init_125 (by decide +kernel) (by decide) (by decide +kernel) (by decide +kernel) (by decide) ?_
  show tq_X _ _ _ _ _ _ _ Z50 _
  refine tq_iinc (1 : Int32) ([.ref 1, .int (1 : Int32)]) rX0_init_126 rfl (by decide) (Nat.le_of_ble_eq_true rfl) rfl ?_
  refine tq_goto rX0_init_129 ?_
  refine tq_iload_n rX0_init_69 rfl ?_
  refine tq_iconst (2 : Int32) rX0_init_70 (by decide) ?_
  refine tq_icmp_ge rX0_init_71 (fun h => absurd h (by decide)) (fun _ => ?_)
  refine tq_aload_n rX0_init_74 rfl ?_
  refine tq_getR (b := 4) rX0_init_75 f_X0_31 rfl (by decide +kernel) (by decide +kernel) ?_
  refine tq_iload_n rX0_init_78 rfl ?_
  refine tz_new 18 (ci := 3) rX0_init_79 (by decide) (nw_X0_29) (by decide +kernel) (by decide +kernel) ?_
  show tq_X _ _ _ _ _ _ _ Z51 _
  refine tq_dup rX0_init_82 rfl ?_
  refine tq_callI (as := []) (st := [.ref 18, .int (1 : Int32), .ref 4]) rX0_init_83 l_X0_53 moiX3_init ⟨rfl, miiX3_init, rfl⟩ rfl rfl (Nat.le_of_ble_eq_true rfl) (by decide +kernel) zc5 ?_
  rintro r9 s9 ⟨rfl, rfl⟩
  show tq_X _ _ _ _ _ _ [.ref 18, .int (1 : Int32), .ref 4] Z61 _
  refine tz_aast (ci := 3) (j := 1) rX0_init_86 (by decide +kernel) (by decide) (by decide +kernel) (by decide +kernel) (by decide) ?_
  show tq_X _ _ _ _ _ _ _ Z62 _
  refine tq_aload_n rX0_init_87 rfl ?_
  refine tq_getR (b := 5) rX0_init_88 f_X0_37 rfl (by decide +kernel) (by decide +kernel) ?_
  refine tq_iload_n rX0_init_91 rfl ?_
  refine tz_new 19 (ci := 10) rX0_init_92 (by decide) (nw_X0_35) (by decide +kernel) (by decide +kernel) ?_
  show tq_X _ _ _ _ _ _ _ Z63 _
  refine tq_dup rX0_init_95 rfl ?_
  refine tq_callI (as := []) (st := [.ref 19, .int (1 : Int32), .ref 5]) rX0_init_96 l_X0_54 moiX10_init ⟨rfl, miiX10_init, rfl⟩ rfl rfl (Nat.le_of_ble_eq_true rfl) (by decide +kernel) zc6 ?_
  rintro r9 s9 ⟨rfl, rfl⟩
  show tq_X _ _ _ _ _ _ [.ref 19, .int (1 : Int32), .ref 5] Z70 _
  refine tz_aast (ci := 10) (j := 1) rX0_init_99 (by decide +kernel) (by decide) (by decide +kernel) (by decide +kernel) (by decide) ?_
  show tq_X _ _ _ _ _ _ _ Z71 _
  refine tq_aload_n rX0_init_100 rfl ?_
  refine tq_getR (b := 6) rX0_init_101 f_X0_43 rfl (by decide +kernel) (by decide +kernel) ?_
  refine tq_iload_n rX0_init_104 rfl ?_
  refine tz_new 23 (ci := 4) rX0_init_105 (by decide) (nw_X0_41) (by decide +kernel) (by decide +kernel) ?_
  show tq_X _ _ _ _ _ _ _ Z72 _
  refine tq_dup rX0_init_108 rfl ?_
  refine tq_callI (as := []) (st := [.ref 23, .int (1 : Int32), .ref 6]) rX0_init_109 l_X0_55 moiX4_init ⟨rfl, miiX4_init, rfl⟩ rfl rfl (Nat.le_of_ble_eq_true rfl) (by decide +kernel) zc7 ?_
  rintro r9 s9 ⟨rfl, rfl⟩
  show tq_X _ _ _ _ _ _ [.ref 23, .int (1 : Int32), .ref 6] Z77 _
  refine tz_aast (ci := 4) (j := 1) rX0_init_112 (by decide +kernel) (by decide) (by decide +kernel) (by decide +kernel) (by decide) ?_
  show tq_X _ _ _ _ _ _ _ Z78 _
  refine tq_aload_n rX0_init_113 rfl ?_
  refine tq_getR (b := 7) rX0_init_114 f_X0_49 rfl (by decide +kernel) (by decide +kernel) ?_
  refine tq_iload_n rX0_init_117 rfl ?_
  refine tz_new 26 (ci := 9) rX0_init_118 (by decide) (nw_X0_47) (by decide +kernel) (by decide +kernel) ?_
  show tq_X _ _ _ _ _ _ _ Z79 _
  refine tq_dup rX0_init_121 rfl ?_
  refine tq_callI (as := []) (st := [.ref 26, .int (1 : Int32), .ref 7]) rX0_init_122 l_X0_56 moiX9_init ⟨rfl, miiX9_init, rfl⟩ rfl rfl (Nat.le_of_ble_eq_true rfl) (by decide +kernel) zc8 ?_
  rintro r9 s9 ⟨rfl, rfl⟩
  show tq_X _ _ _ _ _ _ [.ref 26, .int (1 : Int32), .ref 7] Z82 _
  refine tz_aast (ci := 9) (j := 1) rX0_init_125 (by decide +kernel) (by decide) (by decide +kernel) (by decide +kernel) (by decide) ?_
  show tq_X _ _ _ _ _ _ _ Z83 _
  refine tq_iinc (2 : Int32) ([.ref 1, .int (2 : Int32)]) rX0_init_126 rfl (by decide) (Nat.le_of_ble_eq_true rfl) rfl ?_
  refine tq_goto rX0_init_129 ?_
  refine tq_iload_n rX0_init_69 rfl ?_
  refine tq_iconst (2 : Int32) rX0_init_70 (by decide) ?_
  refine tq_icmp_ge rX0_init_71 (fun _ => ?_) (fun h => absurd (by decide) h)
  exact tq_vret rX0_init_132 rfl (by decide +kernel) ⟨rfl, rfl⟩

set_option maxRecDepth 100000 in
set_option maxHeartbeats 4000000 in
theorem zc10 {S : Nat × (Nat → Int32)} {d : Nat} : tq_C S miX3_init (d + 1) [.ref 32] Z92 (fun r σ => r = none ∧ σ = Z102) := by
  refine tq_C_of (by decide) (Nat.le_of_ble_eq_true rfl) (ls := [.ref 32]) rfl ?_
  refine tq_aload_n rX3_init_0 rfl ?_
  refine tq_objInit rX3_init_1 (Nat.le_of_ble_eq_true rfl) (ob_X3_3) ?_
  refine tq_aload_n rX3_init_4 rfl ?_
  refine tq_iconst (0 : Int32) rX3_init_5 (by decide) ?_
  refine tq_putI rX3_init_6 f_X3_9 rfl (by decide +kernel) rfl ?_
  show tq_X _ _ _ _ _ _ _ Z93 _
  refine tq_aload_n rX3_init_9 rfl ?_
  refine tq_iconst (0 : Int32) rX3_init_10 (by decide) ?_
  refine tq_putI rX3_init_11 f_X3_15 rfl (by decide +kernel) rfl ?_
  show tq_X _ _ _ _ _ _ _ Z94 _
  refine tq_aload_n rX3_init_14 rfl ?_
  refine tq_lconst (0 : Int64) rX3_init_15 (by decide) ?_
  refine tq_putL rX3_init_16 f_X3_18 rfl (by decide +kernel) rfl ?_
  show tq_X _ _ _ _ _ _ _ Z95 _
  refine tq_aload_n rX3_init_19 rfl ?_
  refine tq_lconst (0 : Int64) rX3_init_20 (by decide) ?_
  refine tq_putL rX3_init_21 f_X3_22 rfl (by decide +kernel) rfl ?_
  show tq_X _ _ _ _ _ _ _ Z96 _
  refine tq_aload_n rX3_init_24 rfl ?_
  refine tq_lconst (0 : Int64) rX3_init_25 (by decide) ?_
  refine tq_putL rX3_init_26 f_X3_25 rfl (by decide +kernel) rfl ?_
  show tq_X _ _ _ _ _ _ _ Z97 _
  refine tq_aload_n rX3_init_29 rfl ?_
  refine tq_lconst (0 : Int64) rX3_init_30 (by decide) ?_
  refine tq_putL rX3_init_31 f_X3_28 rfl (by decide +kernel) rfl ?_
  show tq_X _ _ _ _ _ _ _ Z98 _
  refine tq_aload_n rX3_init_34 rfl ?_
  refine tq_lconst (0 : Int64) rX3_init_35 (by decide) ?_
  refine tq_putL rX3_init_36 f_X3_31 rfl (by decide +kernel) rfl ?_
  show tq_X _ _ _ _ _ _ _ Z99 _
  refine tq_aload_n rX3_init_39 rfl ?_
  refine tq_lconst (0 : Int64) rX3_init_40 (by decide) ?_
  refine tq_putL rX3_init_41 f_X3_34 rfl (by decide +kernel) rfl ?_
  show tq_X _ _ _ _ _ _ _ Z100 _
  refine tq_aload_n rX3_init_44 rfl ?_
  refine tq_lconst (0 : Int64) rX3_init_45 (by decide) ?_
  refine tq_putL rX3_init_46 f_X3_37 rfl (by decide +kernel) rfl ?_
  show tq_X _ _ _ _ _ _ _ Z101 _
  refine tq_aload_n rX3_init_49 rfl ?_
  refine tq_lconst (0 : Int64) rX3_init_50 (by decide) ?_
  refine tq_putL rX3_init_51 f_X3_40 rfl (by decide +kernel) rfl ?_
  show tq_X _ _ _ _ _ _ _ Z102 _
  exact tq_vret rX3_init_54 rfl (by decide +kernel) ⟨rfl, rfl⟩

set_option maxRecDepth 100000 in
set_option maxHeartbeats 4000000 in
theorem zc11 {S : Nat × (Nat → Int32)} {d : Nat} : tq_C S miX10_init (d + 1) [.ref 33] Z104 (fun r σ => r = none ∧ σ = Z111) := by
  refine tq_C_of (by decide) (Nat.le_of_ble_eq_true rfl) (ls := [.ref 33]) rfl ?_
  refine tq_aload_n rX10_init_0 rfl ?_
  refine tq_objInit rX10_init_1 (Nat.le_of_ble_eq_true rfl) (ob_X10_3) ?_
  refine tq_aload_n rX10_init_4 rfl ?_
  refine tq_iconst (0 : Int32) rX10_init_5 (by decide) ?_
  refine tq_putI rX10_init_6 f_X10_9 rfl (by decide +kernel) rfl ?_
  show tq_X _ _ _ _ _ _ _ Z105 _
  refine tq_aload_n rX10_init_9 rfl ?_
  refine tq_bipush (40 : Int32) rX10_init_10 (by decide) ?_
  refine tz_newa 34 (t := 100) (n := 40) rX10_init_12 (by decide) (na_100) (by decide) (by decide) (by decide +kernel) (by decide +kernel) ?_
  show tq_X _ _ _ _ _ _ _ Z106 _
  refine tq_putR rX10_init_14 f_X10_15 ⟨rfl, fun _ => ⟨rfl, rfl⟩⟩ (by decide +kernel) (ff_X10_15) ?_
  show tq_X _ _ _ _ _ _ _ Z107 _
  refine tq_aload_n rX10_init_17 rfl ?_
  refine tq_bipush (40 : Int32) rX10_init_18 (by decide) ?_
  refine tz_newa 35 (t := 100) (n := 40) rX10_init_20 (by decide) (na_100) (by decide) (by decide) (by decide +kernel) (by decide +kernel) ?_
  show tq_X _ _ _ _ _ _ _ Z108 _
  refine tq_putR rX10_init_22 f_X10_19 ⟨rfl, fun _ => ⟨rfl, rfl⟩⟩ (by decide +kernel) (ff_X10_19) ?_
  show tq_X _ _ _ _ _ _ _ Z109 _
  refine tq_aload_n rX10_init_25 rfl ?_
  refine tq_bipush (40 : Int32) rX10_init_26 (by decide) ?_
  refine tz_newa 36 (t := 100) (n := 40) rX10_init_28 (by decide) (na_100) (by decide) (by decide) (by decide +kernel) (by decide +kernel) ?_
  show tq_X _ _ _ _ _ _ _ Z110 _
  refine tq_putR rX10_init_30 f_X10_22 ⟨rfl, fun _ => ⟨rfl, rfl⟩⟩ (by decide +kernel) (ff_X10_22) ?_
  show tq_X _ _ _ _ _ _ _ Z111 _
  exact tq_vret rX10_init_33 rfl (by decide +kernel) ⟨rfl, rfl⟩

set_option maxRecDepth 100000 in
set_option maxHeartbeats 4000000 in
theorem zc12 {S : Nat × (Nat → Int32)} {d : Nat} : tq_C S miX4_init (d + 1) [.ref 37] Z113 (fun r σ => r = none ∧ σ = Z118) := by
  refine tq_C_of (by decide) (Nat.le_of_ble_eq_true rfl) (ls := [.ref 37]) rfl ?_
  refine tq_aload_n rX4_init_0 rfl ?_
  refine tq_objInit rX4_init_1 (Nat.le_of_ble_eq_true rfl) (ob_X4_3) ?_
  refine tq_aload_n rX4_init_4 rfl ?_
  refine tq_iconst (0 : Int32) rX4_init_5 (by decide) ?_
  refine tq_putI rX4_init_6 f_X4_9 rfl (by decide +kernel) rfl ?_
  show tq_X _ _ _ _ _ _ _ Z114 _
  refine tq_aload_n rX4_init_9 rfl ?_
  refine tq_bipush (8 : Int32) rX4_init_10 (by decide) ?_
  refine tz_newa 38 (t := 100) (n := 8) rX4_init_12 (by decide) (na_100) (by decide) (by decide) (by decide +kernel) (by decide +kernel) ?_
  show tq_X _ _ _ _ _ _ _ Z115 _
  refine tq_putR rX4_init_14 f_X4_15 ⟨rfl, fun _ => ⟨rfl, rfl⟩⟩ (by decide +kernel) (ff_X4_15) ?_
  show tq_X _ _ _ _ _ _ _ Z116 _
  refine tq_aload_n rX4_init_17 rfl ?_
  refine tq_bipush (8 : Int32) rX4_init_18 (by decide) ?_
  refine tz_newa 39 (t := 100) (n := 8) rX4_init_20 (by decide) (na_100) (by decide) (by decide) (by decide +kernel) (by decide +kernel) ?_
  show tq_X _ _ _ _ _ _ _ Z117 _
  refine tq_putR rX4_init_22 f_X4_19 ⟨rfl, fun _ => ⟨rfl, rfl⟩⟩ (by decide +kernel) (ff_X4_19) ?_
  show tq_X _ _ _ _ _ _ _ Z118 _
  exact tq_vret rX4_init_25 rfl (by decide +kernel) ⟨rfl, rfl⟩

set_option maxRecDepth 100000 in
set_option maxHeartbeats 4000000 in
theorem zc13 {S : Nat × (Nat → Int32)} {d : Nat} : tq_C S miX9_init (d + 1) [.ref 40] Z120 (fun r σ => r = none ∧ σ = Z123) := by
  refine tq_C_of (by decide) (Nat.le_of_ble_eq_true rfl) (ls := [.ref 40]) rfl ?_
  refine tq_aload_n rX9_init_0 rfl ?_
  refine tq_objInit rX9_init_1 (Nat.le_of_ble_eq_true rfl) (ob_X9_3) ?_
  refine tq_aload_n rX9_init_4 rfl ?_
  refine tq_iconst (0 : Int32) rX9_init_5 (by decide) ?_
  refine tq_putI rX9_init_6 f_X9_9 rfl (by decide +kernel) rfl ?_
  show tq_X _ _ _ _ _ _ _ Z121 _
  refine tq_aload_n rX9_init_9 rfl ?_
  refine tq_bipush (8 : Int32) rX9_init_10 (by decide) ?_
  refine tz_newa 41 (t := 100) (n := 8) rX9_init_12 (by decide) (na_100) (by decide) (by decide) (by decide +kernel) (by decide +kernel) ?_
  show tq_X _ _ _ _ _ _ _ Z122 _
  refine tq_putR rX9_init_14 f_X9_15 ⟨rfl, fun _ => ⟨rfl, rfl⟩⟩ (by decide +kernel) (ff_X9_15) ?_
  show tq_X _ _ _ _ _ _ _ Z123 _
  exact tq_vret rX9_init_17 rfl (by decide +kernel) ⟨rfl, rfl⟩

set_option maxRecDepth 100000 in
set_option maxHeartbeats 4000000 in
theorem zc14 {S : Nat × (Nat → Int32)} {d : Nat} : tq_C S miX7_init (d + 2) [.ref 30] Z89 (fun r σ => r = none ∧ σ = Z133) := by
  refine tq_C_of (by decide) (Nat.le_of_ble_eq_true rfl) (ls := [.ref 30]) rfl ?_
  refine tq_aload_n rX7_init_0 rfl ?_
  refine tq_objInit rX7_init_1 (Nat.le_of_ble_eq_true rfl) (ob_X7_3) ?_
  refine tq_aload_n rX7_init_4 rfl ?_
  refine tq_sipush (600 : Int32) rX7_init_5 (by decide) ?_
  refine tz_newa 31 (t := 102) (n := 600) rX7_init_8 (by decide) (na_102) (by decide) (by decide) (by decide +kernel) (by decide +kernel) ?_
  show tq_X _ _ _ _ _ _ _ Z90 _
  refine tq_putR rX7_init_10 f_X7_9 ⟨rfl, fun _ => ⟨rfl, rfl⟩⟩ (by decide +kernel) (ff_X7_9) ?_
  show tq_X _ _ _ _ _ _ _ Z91 _
  refine tq_aload_n rX7_init_13 rfl ?_
  refine tz_new 32 (ci := 3) rX7_init_14 (by decide) (nw_X7_15) (by decide +kernel) (by decide +kernel) ?_
  show tq_X _ _ _ _ _ _ _ Z92 _
  refine tq_dup rX7_init_17 rfl ?_
  refine tq_callI (as := []) (st := [.ref 32, .ref 30]) rX7_init_18 l_X7_17 moiX3_init ⟨rfl, miiX3_init, rfl⟩ rfl rfl (Nat.le_of_ble_eq_true rfl) (by decide +kernel) zc10 ?_
  rintro r9 s9 ⟨rfl, rfl⟩
  show tq_X _ _ _ _ _ _ [.ref 32, .ref 30] Z102 _
  refine tq_putR rX7_init_21 f_X7_18 ⟨rfl, fun _ => ⟨rfl, rfl⟩⟩ (by decide +kernel) (ff_X7_18) ?_
  show tq_X _ _ _ _ _ _ _ Z103 _
  refine tq_aload_n rX7_init_24 rfl ?_
  refine tz_new 33 (ci := 10) rX7_init_25 (by decide) (nw_X7_22) (by decide +kernel) (by decide +kernel) ?_
  show tq_X _ _ _ _ _ _ _ Z104 _
  refine tq_dup rX7_init_28 rfl ?_
  refine tq_callI (as := []) (st := [.ref 33, .ref 30]) rX7_init_29 l_X7_24 moiX10_init ⟨rfl, miiX10_init, rfl⟩ rfl rfl (Nat.le_of_ble_eq_true rfl) (by decide +kernel) zc11 ?_
  rintro r9 s9 ⟨rfl, rfl⟩
  show tq_X _ _ _ _ _ _ [.ref 33, .ref 30] Z111 _
  refine tq_putR rX7_init_32 f_X7_25 ⟨rfl, fun _ => ⟨rfl, rfl⟩⟩ (by decide +kernel) (ff_X7_25) ?_
  show tq_X _ _ _ _ _ _ _ Z112 _
  refine tq_aload_n rX7_init_35 rfl ?_
  refine tz_new 37 (ci := 4) rX7_init_36 (by decide) (nw_X7_29) (by decide +kernel) (by decide +kernel) ?_
  show tq_X _ _ _ _ _ _ _ Z113 _
  refine tq_dup rX7_init_39 rfl ?_
  refine tq_callI (as := []) (st := [.ref 37, .ref 30]) rX7_init_40 l_X7_31 moiX4_init ⟨rfl, miiX4_init, rfl⟩ rfl rfl (Nat.le_of_ble_eq_true rfl) (by decide +kernel) zc12 ?_
  rintro r9 s9 ⟨rfl, rfl⟩
  show tq_X _ _ _ _ _ _ [.ref 37, .ref 30] Z118 _
  refine tq_putR rX7_init_43 f_X7_32 ⟨rfl, fun _ => ⟨rfl, rfl⟩⟩ (by decide +kernel) (ff_X7_32) ?_
  show tq_X _ _ _ _ _ _ _ Z119 _
  refine tq_aload_n rX7_init_46 rfl ?_
  refine tz_new 40 (ci := 9) rX7_init_47 (by decide) (nw_X7_36) (by decide +kernel) (by decide +kernel) ?_
  show tq_X _ _ _ _ _ _ _ Z120 _
  refine tq_dup rX7_init_50 rfl ?_
  refine tq_callI (as := []) (st := [.ref 40, .ref 30]) rX7_init_51 l_X7_38 moiX9_init ⟨rfl, miiX9_init, rfl⟩ rfl rfl (Nat.le_of_ble_eq_true rfl) (by decide +kernel) zc13 ?_
  rintro r9 s9 ⟨rfl, rfl⟩
  show tq_X _ _ _ _ _ _ [.ref 40, .ref 30] Z123 _
  refine tq_putR rX7_init_54 f_X7_39 ⟨rfl, fun _ => ⟨rfl, rfl⟩⟩ (by decide +kernel) (ff_X7_39) ?_
  show tq_X _ _ _ _ _ _ _ Z124 _
  refine tq_aload_n rX7_init_57 rfl ?_
  refine tq_iconst (3 : Int32) rX7_init_58 (by decide) ?_
  refine tz_newa 42 (t := 100) (n := 3) rX7_init_59 (by decide) (na_100) (by decide) (by decide) (by decide +kernel) (by decide +kernel) ?_
  show tq_X _ _ _ _ _ _ _ Z125 _
  refine tq_putR rX7_init_61 f_X7_43 ⟨rfl, fun _ => ⟨rfl, rfl⟩⟩ (by decide +kernel) (ff_X7_43) ?_
  show tq_X _ _ _ _ _ _ _ Z126 _
  refine tq_aload_n rX7_init_64 rfl ?_
  refine tq_lconst (0 : Int64) rX7_init_65 (by decide) ?_
  refine tq_putL rX7_init_66 f_X7_47 rfl (by decide +kernel) rfl ?_
  show tq_X _ _ _ _ _ _ _ Z127 _
  refine tq_aload_n rX7_init_69 rfl ?_
  refine tq_iconst (0 : Int32) rX7_init_70 (by decide) ?_
  refine tq_putI rX7_init_71 f_X7_51 rfl (by decide +kernel) rfl ?_
  show tq_X _ _ _ _ _ _ _ Z128 _
  refine tq_aload_n rX7_init_74 rfl ?_
  refine tq_iconst (0 : Int32) rX7_init_75 (by decide) ?_
  refine tq_putI rX7_init_76 f_X7_55 rfl (by decide +kernel) rfl ?_
  show tq_X _ _ _ _ _ _ _ Z129 _
  refine tq_aload_n rX7_init_79 rfl ?_
  refine tq_iconst (0 : Int32) rX7_init_80 (by decide) ?_
  refine tq_putI rX7_init_81 f_X7_58 rfl (by decide +kernel) rfl ?_
  show tq_X _ _ _ _ _ _ _ Z130 _
  refine tq_aload_n rX7_init_84 rfl ?_
  refine tq_iconst (0 : Int32) rX7_init_85 (by decide) ?_
  refine tq_putI rX7_init_86 f_X7_61 rfl (by decide +kernel) rfl ?_
  show tq_X _ _ _ _ _ _ _ Z131 _
  refine tq_aload_n rX7_init_89 rfl ?_
  refine tq_iconst (0 : Int32) rX7_init_90 (by decide) ?_
  refine tq_putI rX7_init_91 f_X7_64 rfl (by decide +kernel) rfl ?_
  show tq_X _ _ _ _ _ _ _ Z132 _
  refine tq_aload_n rX7_init_94 rfl ?_
  refine tq_iconst (-1 : Int32) rX7_init_95 (by decide) ?_
  refine tq_putI rX7_init_96 f_X7_67 rfl (by decide +kernel) rfl ?_
  show tq_X _ _ _ _ _ _ _ Z133 _
  exact tq_vret rX7_init_99 rfl (by decide +kernel) ⟨rfl, rfl⟩

set_option maxRecDepth 100000 in
set_option maxHeartbeats 4000000 in
theorem zc15 {S : Nat × (Nat → Int32)} {d : Nat} : tq_C S miX3_init (d + 1) [.ref 44] Z136 (fun r σ => r = none ∧ σ = Z146) := by
  refine tq_C_of (by decide) (Nat.le_of_ble_eq_true rfl) (ls := [.ref 44]) rfl ?_
  refine tq_aload_n rX3_init_0 rfl ?_
  refine tq_objInit rX3_init_1 (Nat.le_of_ble_eq_true rfl) (ob_X3_3) ?_
  refine tq_aload_n rX3_init_4 rfl ?_
  refine tq_iconst (0 : Int32) rX3_init_5 (by decide) ?_
  refine tq_putI rX3_init_6 f_X3_9 rfl (by decide +kernel) rfl ?_
  show tq_X _ _ _ _ _ _ _ Z137 _
  refine tq_aload_n rX3_init_9 rfl ?_
  refine tq_iconst (0 : Int32) rX3_init_10 (by decide) ?_
  refine tq_putI rX3_init_11 f_X3_15 rfl (by decide +kernel) rfl ?_
  show tq_X _ _ _ _ _ _ _ Z138 _
  refine tq_aload_n rX3_init_14 rfl ?_
  refine tq_lconst (0 : Int64) rX3_init_15 (by decide) ?_
  refine tq_putL rX3_init_16 f_X3_18 rfl (by decide +kernel) rfl ?_
  show tq_X _ _ _ _ _ _ _ Z139 _
  refine tq_aload_n rX3_init_19 rfl ?_
  refine tq_lconst (0 : Int64) rX3_init_20 (by decide) ?_
  refine tq_putL rX3_init_21 f_X3_22 rfl (by decide +kernel) rfl ?_
  show tq_X _ _ _ _ _ _ _ Z140 _
  refine tq_aload_n rX3_init_24 rfl ?_
  refine tq_lconst (0 : Int64) rX3_init_25 (by decide) ?_
  refine tq_putL rX3_init_26 f_X3_25 rfl (by decide +kernel) rfl ?_
  show tq_X _ _ _ _ _ _ _ Z141 _
  refine tq_aload_n rX3_init_29 rfl ?_
  refine tq_lconst (0 : Int64) rX3_init_30 (by decide) ?_
  refine tq_putL rX3_init_31 f_X3_28 rfl (by decide +kernel) rfl ?_
  show tq_X _ _ _ _ _ _ _ Z142 _
  refine tq_aload_n rX3_init_34 rfl ?_
  refine tq_lconst (0 : Int64) rX3_init_35 (by decide) ?_
  refine tq_putL rX3_init_36 f_X3_31 rfl (by decide +kernel) rfl ?_
  show tq_X _ _ _ _ _ _ _ Z143 _
  refine tq_aload_n rX3_init_39 rfl ?_
  refine tq_lconst (0 : Int64) rX3_init_40 (by decide) ?_
  refine tq_putL rX3_init_41 f_X3_34 rfl (by decide +kernel) rfl ?_
  show tq_X _ _ _ _ _ _ _ Z144 _
  refine tq_aload_n rX3_init_44 rfl ?_
  refine tq_lconst (0 : Int64) rX3_init_45 (by decide) ?_
  refine tq_putL rX3_init_46 f_X3_37 rfl (by decide +kernel) rfl ?_
  show tq_X _ _ _ _ _ _ _ Z145 _
  refine tq_aload_n rX3_init_49 rfl ?_
  refine tq_lconst (0 : Int64) rX3_init_50 (by decide) ?_
  refine tq_putL rX3_init_51 f_X3_40 rfl (by decide +kernel) rfl ?_
  show tq_X _ _ _ _ _ _ _ Z146 _
  exact tq_vret rX3_init_54 rfl (by decide +kernel) ⟨rfl, rfl⟩

set_option maxRecDepth 100000 in
set_option maxHeartbeats 4000000 in
theorem zc16 {S : Nat × (Nat → Int32)} {d : Nat} : tq_C S miX8_init (d + 2) [.ref 43] Z135 (fun r σ => r = none ∧ σ = Z157) := by
  refine tq_C_of (by decide) (Nat.le_of_ble_eq_true rfl) (ls := [.ref 43]) rfl ?_
  refine tq_aload_n rX8_init_0 rfl ?_
  refine tq_objInit rX8_init_1 (Nat.le_of_ble_eq_true rfl) (ob_X8_3) ?_
  refine tq_aload_n rX8_init_4 rfl ?_
  refine tz_new 44 (ci := 3) rX8_init_5 (by decide) (nw_X8_9) (by decide +kernel) (by decide +kernel) ?_
  show tq_X _ _ _ _ _ _ _ Z136 _
  refine tq_dup rX8_init_8 rfl ?_
  refine tq_callI (as := []) (st := [.ref 44, .ref 43]) rX8_init_9 l_X8_11 moiX3_init ⟨rfl, miiX3_init, rfl⟩ rfl rfl (Nat.le_of_ble_eq_true rfl) (by decide +kernel) zc15 ?_
  rintro r9 s9 ⟨rfl, rfl⟩
  show tq_X _ _ _ _ _ _ [.ref 44, .ref 43] Z146 _
  refine tq_putR rX8_init_12 f_X8_12 ⟨rfl, fun _ => ⟨rfl, rfl⟩⟩ (by decide +kernel) (ff_X8_12) ?_
  show tq_X _ _ _ _ _ _ _ Z147 _
  refine tq_aload_n rX8_init_15 rfl ?_
  refine tq_iconst (0 : Int32) rX8_init_16 (by decide) ?_
  refine tq_putI rX8_init_17 f_X8_18 rfl (by decide +kernel) rfl ?_
  show tq_X _ _ _ _ _ _ _ Z148 _
  refine tq_aload_n rX8_init_20 rfl ?_
  refine tq_iconst (0 : Int32) rX8_init_21 (by decide) ?_
  refine tq_putI rX8_init_22 f_X8_22 rfl (by decide +kernel) rfl ?_
  show tq_X _ _ _ _ _ _ _ Z149 _
  refine tq_aload_n rX8_init_25 rfl ?_
  refine tq_iconst (0 : Int32) rX8_init_26 (by decide) ?_
  refine tq_putI rX8_init_27 f_X8_25 rfl (by decide +kernel) rfl ?_
  show tq_X _ _ _ _ _ _ _ Z150 _
  refine tq_aload_n rX8_init_30 rfl ?_
  refine tq_iconst (0 : Int32) rX8_init_31 (by decide) ?_
  refine tq_putI rX8_init_32 f_X8_28 rfl (by decide +kernel) rfl ?_
  show tq_X _ _ _ _ _ _ _ Z151 _
  refine tq_aload_n rX8_init_35 rfl ?_
  refine tq_iconst (0 : Int32) rX8_init_36 (by decide) ?_
  refine tq_putI rX8_init_37 f_X8_31 rfl (by decide +kernel) rfl ?_
  show tq_X _ _ _ _ _ _ _ Z152 _
  refine tq_aload_n rX8_init_40 rfl ?_
  refine tq_iconst (0 : Int32) rX8_init_41 (by decide) ?_
  refine tq_putI rX8_init_42 f_X8_34 rfl (by decide +kernel) rfl ?_
  show tq_X _ _ _ _ _ _ _ Z153 _
  refine tq_aload_n rX8_init_45 rfl ?_
  refine tq_iconst (-1 : Int32) rX8_init_46 (by decide) ?_
  refine tq_putI rX8_init_47 f_X8_37 rfl (by decide +kernel) rfl ?_
  show tq_X _ _ _ _ _ _ _ Z154 _
  refine tq_aload_n rX8_init_50 rfl ?_
  refine tq_iconst (-1 : Int32) rX8_init_51 (by decide) ?_
  refine tq_putI rX8_init_52 f_X8_40 rfl (by decide +kernel) rfl ?_
  show tq_X _ _ _ _ _ _ _ Z155 _
  refine tq_aload_n rX8_init_55 rfl ?_
  refine tq_iconst (0 : Int32) rX8_init_56 (by decide) ?_
  refine tq_putI rX8_init_57 f_X8_43 rfl (by decide +kernel) rfl ?_
  show tq_X _ _ _ _ _ _ _ Z156 _
  refine tq_aload_n rX8_init_60 rfl ?_
  refine tq_iconst (0 : Int32) rX8_init_61 (by decide) ?_
  refine tq_putI rX8_init_62 f_X8_46 rfl (by decide +kernel) rfl ?_
  show tq_X _ _ _ _ _ _ _ Z157 _
  exact tq_vret rX8_init_65 rfl (by decide +kernel) ⟨rfl, rfl⟩

set_option maxRecDepth 100000 in
set_option maxHeartbeats 4000000 in
theorem zc17 {S : Nat × (Nat → Int32)} {d : Nat} : tq_C S miX5_init (d + 1) [.ref 45] Z159 (fun r σ => r = none ∧ σ = Z170) := by
  refine tq_C_of (by decide) (Nat.le_of_ble_eq_true rfl) (ls := [.ref 45]) rfl ?_
  refine tq_aload_n rX5_init_0 rfl ?_
  refine tq_objInit rX5_init_1 (Nat.le_of_ble_eq_true rfl) (ob_X5_3) ?_
  refine tq_aload_n rX5_init_4 rfl ?_
  refine tq_iconst (3 : Int32) rX5_init_5 (by decide) ?_
  refine tz_newa 46 (t := 101) (n := 3) rX5_init_6 (by decide) (na_101) (by decide) (by decide) (by decide +kernel) (by decide +kernel) ?_
  show tq_X _ _ _ _ _ _ _ Z160 _
  refine tq_putR rX5_init_8 f_X5_9 ⟨rfl, fun _ => ⟨rfl, rfl⟩⟩ (by decide +kernel) (ff_X5_9) ?_
  show tq_X _ _ _ _ _ _ _ Z161 _
  refine tq_aload_n rX5_init_11 rfl ?_
  refine tq_iconst (3 : Int32) rX5_init_12 (by decide) ?_
  refine tz_newa 47 (t := 100) (n := 3) rX5_init_13 (by decide) (na_100) (by decide) (by decide) (by decide +kernel) (by decide +kernel) ?_
  show tq_X _ _ _ _ _ _ _ Z162 _
  refine tq_putR rX5_init_15 f_X5_15 ⟨rfl, fun _ => ⟨rfl, rfl⟩⟩ (by decide +kernel) (ff_X5_15) ?_
  show tq_X _ _ _ _ _ _ _ Z163 _
  refine tq_aload_n rX5_init_18 rfl ?_
  refine tq_iconst (0 : Int32) rX5_init_19 (by decide) ?_
  refine tq_putI rX5_init_20 f_X5_19 rfl (by decide +kernel) rfl ?_
  show tq_X _ _ _ _ _ _ _ Z164 _
  refine tq_aload_n rX5_init_23 rfl ?_
  refine tq_iconst (0 : Int32) rX5_init_24 (by decide) ?_
  refine tq_putI rX5_init_25 f_X5_23 rfl (by decide +kernel) rfl ?_
  show tq_X _ _ _ _ _ _ _ Z165 _
  refine tq_aload_n rX5_init_28 rfl ?_
  refine tq_iconst (0 : Int32) rX5_init_29 (by decide) ?_
  refine tq_putI rX5_init_30 f_X5_26 rfl (by decide +kernel) rfl ?_
  show tq_X _ _ _ _ _ _ _ Z166 _
  refine tq_aload_n rX5_init_33 rfl ?_
  refine tq_iconst (0 : Int32) rX5_init_34 (by decide) ?_
  refine tq_putI rX5_init_35 f_X5_29 rfl (by decide +kernel) rfl ?_
  show tq_X _ _ _ _ _ _ _ Z167 _
  refine tq_aload_n rX5_init_38 rfl ?_
  refine tq_iconst (0 : Int32) rX5_init_39 (by decide) ?_
  refine tq_putI rX5_init_40 f_X5_32 rfl (by decide +kernel) rfl ?_
  show tq_X _ _ _ _ _ _ _ Z168 _
  refine tq_aload_n rX5_init_43 rfl ?_
  refine tq_iconst (0 : Int32) rX5_init_44 (by decide) ?_
  refine tq_putI rX5_init_45 f_X5_35 rfl (by decide +kernel) rfl ?_
  show tq_X _ _ _ _ _ _ _ Z169 _
  refine tq_aload_n rX5_init_48 rfl ?_
  refine tq_lconst (0 : Int64) rX5_init_49 (by decide) ?_
  refine tq_putL rX5_init_50 f_X5_38 rfl (by decide +kernel) rfl ?_
  show tq_X _ _ _ _ _ _ _ Z170 _
  exact tq_vret rX5_init_53 rfl (by decide +kernel) ⟨rfl, rfl⟩

set_option maxRecDepth 100000 in
set_option maxHeartbeats 4000000 in
theorem zc18 {S : Nat × (Nat → Int32)} {d : Nat} : tq_C S miX6_init (d + 1) [.ref 48] Z172 (fun r σ => r = none ∧ σ = Z174) := by
  refine tq_C_of (by decide) (Nat.le_of_ble_eq_true rfl) (ls := [.ref 48]) rfl ?_
  refine tq_aload_n rX6_init_0 rfl ?_
  refine tq_objInit rX6_init_1 (Nat.le_of_ble_eq_true rfl) (ob_X6_3) ?_
  refine tq_aload_n rX6_init_4 rfl ?_
  refine tq_lconst (0 : Int64) rX6_init_5 (by decide) ?_
  refine tq_putL rX6_init_6 f_X6_9 rfl (by decide +kernel) rfl ?_
  show tq_X _ _ _ _ _ _ _ Z173 _
  refine tq_aload_n rX6_init_9 rfl ?_
  refine tq_iconst (-1 : Int32) rX6_init_10 (by decide) ?_
  refine tq_putI rX6_init_11 f_X6_15 rfl (by decide +kernel) rfl ?_
  show tq_X _ _ _ _ _ _ _ Z174 _
  exact tq_vret rX6_init_14 rfl (by decide +kernel) ⟨rfl, rfl⟩

set_option maxRecDepth 100000 in
set_option maxHeartbeats 4000000 in
theorem zc19 {S : Nat × (Nat → Int32)} {d : Nat} : tq_C S miX2_init (d + 1) [.ref 49] Z176 (fun r σ => r = none ∧ σ = Z180) := by
  refine tq_C_of (by decide) (Nat.le_of_ble_eq_true rfl) (ls := [.ref 49]) rfl ?_
  refine tq_aload_n rX2_init_0 rfl ?_
  refine tq_objInit rX2_init_1 (Nat.le_of_ble_eq_true rfl) (ob_X2_3) ?_
  refine tq_aload_n rX2_init_4 rfl ?_
  refine tq_bipush (10 : Int32) rX2_init_5 (by decide) ?_
  refine tz_newa 50 (t := 101) (n := 10) rX2_init_7 (by decide) (na_101) (by decide) (by decide) (by decide +kernel) (by decide +kernel) ?_
  show tq_X _ _ _ _ _ _ _ Z177 _
  refine tq_putR rX2_init_9 f_X2_9 ⟨rfl, fun _ => ⟨rfl, rfl⟩⟩ (by decide +kernel) (ff_X2_9) ?_
  show tq_X _ _ _ _ _ _ _ Z178 _
  refine tq_aload_n rX2_init_12 rfl ?_
  refine tq_bipush (10 : Int32) rX2_init_13 (by decide) ?_
  refine tz_newa 51 (t := 100) (n := 10) rX2_init_15 (by decide) (na_100) (by decide) (by decide) (by decide +kernel) (by decide +kernel) ?_
  show tq_X _ _ _ _ _ _ _ Z179 _
  refine tq_putR rX2_init_17 f_X2_15 ⟨rfl, fun _ => ⟨rfl, rfl⟩⟩ (by decide +kernel) (ff_X2_15) ?_
  show tq_X _ _ _ _ _ _ _ Z180 _
  exact tq_vret rX2_init_20 rfl (by decide +kernel) ⟨rfl, rfl⟩

set_option maxRecDepth 100000 in
set_option maxHeartbeats 4000000 in
theorem zc20 {S : Nat × (Nat → Int32)} {d : Nat} : tq_C S miX1_init (d + 1) [.ref 52] Z182 (fun r σ => r = none ∧ σ = Z185) := by
  refine tq_C_of (by decide) (Nat.le_of_ble_eq_true rfl) (ls := [.ref 52]) rfl ?_
  refine tq_aload_n rX1_init_0 rfl ?_
  refine tq_objInit rX1_init_1 (Nat.le_of_ble_eq_true rfl) (ob_X1_3) ?_
  refine tq_aload_n rX1_init_4 rfl ?_
  refine tq_bipush (8 : Int32) rX1_init_5 (by decide) ?_
  refine tz_newa 53 (t := 100) (n := 8) rX1_init_7 (by decide) (na_100) (by decide) (by decide) (by decide +kernel) (by decide +kernel) ?_
  show tq_X _ _ _ _ _ _ _ Z183 _
  refine tq_putR rX1_init_9 f_X1_9 ⟨rfl, fun _ => ⟨rfl, rfl⟩⟩ (by decide +kernel) (ff_X1_9) ?_
  show tq_X _ _ _ _ _ _ _ Z184 _
  refine tq_aload_n rX1_init_12 rfl ?_
  refine tq_iconst (0 : Int32) rX1_init_13 (by decide) ?_
  refine tq_putI rX1_init_14 f_X1_15 rfl (by decide +kernel) rfl ?_
  show tq_X _ _ _ _ _ _ _ Z185 _
  exact tq_vret rX1_init_17 rfl (by decide +kernel) ⟨rfl, rfl⟩

set_option maxRecDepth 100000 in
set_option maxHeartbeats 4000000 in
theorem zc21 {S : Nat × (Nat → Int32)} {d : Nat} : tq_C S miX3_init (d + 1) [.ref 62] Z205 (fun r σ => r = none ∧ σ = Z215) := by
  refine tq_C_of (by decide) (Nat.le_of_ble_eq_true rfl) (ls := [.ref 62]) rfl ?_
  refine tq_aload_n rX3_init_0 rfl ?_
  refine tq_objInit rX3_init_1 (Nat.le_of_ble_eq_true rfl) (ob_X3_3) ?_
  refine tq_aload_n rX3_init_4 rfl ?_
  refine tq_iconst (0 : Int32) rX3_init_5 (by decide) ?_
  refine tq_putI rX3_init_6 f_X3_9 rfl (by decide +kernel) rfl ?_
  show tq_X _ _ _ _ _ _ _ Z206 _
  refine tq_aload_n rX3_init_9 rfl ?_
  refine tq_iconst (0 : Int32) rX3_init_10 (by decide) ?_
  refine tq_putI rX3_init_11 f_X3_15 rfl (by decide +kernel) rfl ?_
  show tq_X _ _ _ _ _ _ _ Z207 _
  refine tq_aload_n rX3_init_14 rfl ?_
  refine tq_lconst (0 : Int64) rX3_init_15 (by decide) ?_
  refine tq_putL rX3_init_16 f_X3_18 rfl (by decide +kernel) rfl ?_
  show tq_X _ _ _ _ _ _ _ Z208 _
  refine tq_aload_n rX3_init_19 rfl ?_
  refine tq_lconst (0 : Int64) rX3_init_20 (by decide) ?_
  refine tq_putL rX3_init_21 f_X3_22 rfl (by decide +kernel) rfl ?_
  show tq_X _ _ _ _ _ _ _ Z209 _
  refine tq_aload_n rX3_init_24 rfl ?_
  refine tq_lconst (0 : Int64) rX3_init_25 (by decide) ?_
  refine tq_putL rX3_init_26 f_X3_25 rfl (by decide +kernel) rfl ?_
  show tq_X _ _ _ _ _ _ _ Z210 _
  refine tq_aload_n rX3_init_29 rfl ?_
  refine tq_lconst (0 : Int64) rX3_init_30 (by decide) ?_
  refine tq_putL rX3_init_31 f_X3_28 rfl (by decide +kernel) rfl ?_
  show tq_X _ _ _ _ _ _ _ Z211 _
  refine tq_aload_n rX3_init_34 rfl ?_
  refine tq_lconst (0 : Int64) rX3_init_35 (by decide) ?_
  refine tq_putL rX3_init_36 f_X3_31 rfl (by decide +kernel) rfl ?_
  show tq_X _ _ _ _ _ _ _ Z212 _
  refine tq_aload_n rX3_init_39 rfl ?_
  refine tq_lconst (0 : Int64) rX3_init_40 (by decide) ?_
  refine tq_putL rX3_init_41 f_X3_34 rfl (by decide +kernel) rfl ?_
  show tq_X _ _ _ _ _ _ _ Z213 _
  refine tq_aload_n rX3_init_44 rfl ?_
  refine tq_lconst (0 : Int64) rX3_init_45 (by decide) ?_
  refine tq_putL rX3_init_46 f_X3_37 rfl (by decide +kernel) rfl ?_
  show tq_X _ _ _ _ _ _ _ Z214 _
  refine tq_aload_n rX3_init_49 rfl ?_
  refine tq_lconst (0 : Int64) rX3_init_50 (by decide) ?_
  refine tq_putL rX3_init_51 f_X3_40 rfl (by decide +kernel) rfl ?_
  show tq_X _ _ _ _ _ _ _ Z215 _
  exact tq_vret rX3_init_54 rfl (by decide +kernel) ⟨rfl, rfl⟩

set_option maxRecDepth 100000 in
set_option maxHeartbeats 4000000 in
theorem zc22 {S : Nat × (Nat → Int32)} {d : Nat} : tq_C S miX10_init (d + 1) [.ref 63] Z217 (fun r σ => r = none ∧ σ = Z224) := by
  refine tq_C_of (by decide) (Nat.le_of_ble_eq_true rfl) (ls := [.ref 63]) rfl ?_
  refine tq_aload_n rX10_init_0 rfl ?_
  refine tq_objInit rX10_init_1 (Nat.le_of_ble_eq_true rfl) (ob_X10_3) ?_
  refine tq_aload_n rX10_init_4 rfl ?_
  refine tq_iconst (0 : Int32) rX10_init_5 (by decide) ?_
  refine tq_putI rX10_init_6 f_X10_9 rfl (by decide +kernel) rfl ?_
  show tq_X _ _ _ _ _ _ _ Z218 _
  refine tq_aload_n rX10_init_9 rfl ?_
  refine tq_bipush (40 : Int32) rX10_init_10 (by decide) ?_
  refine tz_newa 64 (t := 100) (n := 40) rX10_init_12 (by decide) (na_100) (by decide) (by decide) (by decide +kernel) (by decide +kernel) ?_
  show tq_X _ _ _ _ _ _ _ Z219 _
  refine tq_putR rX10_init_14 f_X10_15 ⟨rfl, fun _ => ⟨rfl, rfl⟩⟩ (by decide +kernel) (ff_X10_15) ?_
  show tq_X _ _ _ _ _ _ _ Z220 _
  refine tq_aload_n rX10_init_17 rfl ?_
  refine tq_bipush (40 : Int32) rX10_init_18 (by decide) ?_
  refine tz_newa 65 (t := 100) (n := 40) rX10_init_20 (by decide) (na_100) (by decide) (by decide) (by decide +kernel) (by decide +kernel) ?_
  show tq_X _ _ _ _ _ _ _ Z221 _
  refine tq_putR rX10_init_22 f_X10_19 ⟨rfl, fun _ => ⟨rfl, rfl⟩⟩ (by decide +kernel) (ff_X10_19) ?_
  show tq_X _ _ _ _ _ _ _ Z222 _
  refine tq_aload_n rX10_init_25 rfl ?_
  refine tq_bipush (40 : Int32) rX10_init_26 (by decide) ?_
  refine tz_newa 66 (t := 100) (n := 40) rX10_init_28 (by decide) (na_100) (by decide) (by decide) (by decide +kernel) (by decide +kernel) ?_
  show tq_X _ _ _ _ _ _ _ Z223 _
  refine tq_putR rX10_init_30 f_X10_22 ⟨rfl, fun _ => ⟨rfl, rfl⟩⟩ (by decide +kernel) (ff_X10_22) ?_
  show tq_X _ _ _ _ _ _ _ Z224 _
  exact tq_vret rX10_init_33 rfl (by decide +kernel) ⟨rfl, rfl⟩

set_option maxRecDepth 100000 in
set_option maxHeartbeats 4000000 in
theorem zc23 {S : Nat × (Nat → Int32)} {d : Nat} : tq_C S miX4_init (d + 1) [.ref 67] Z226 (fun r σ => r = none ∧ σ = Z231) := by
  refine tq_C_of (by decide) (Nat.le_of_ble_eq_true rfl) (ls := [.ref 67]) rfl ?_
  refine tq_aload_n rX4_init_0 rfl ?_
  refine tq_objInit rX4_init_1 (Nat.le_of_ble_eq_true rfl) (ob_X4_3) ?_
  refine tq_aload_n rX4_init_4 rfl ?_
  refine tq_iconst (0 : Int32) rX4_init_5 (by decide) ?_
  refine tq_putI rX4_init_6 f_X4_9 rfl (by decide +kernel) rfl ?_
  show tq_X _ _ _ _ _ _ _ Z227 _
  refine tq_aload_n rX4_init_9 rfl ?_
  refine tq_bipush (8 : Int32) rX4_init_10 (by decide) ?_
  refine tz_newa 68 (t := 100) (n := 8) rX4_init_12 (by decide) (na_100) (by decide) (by decide) (by decide +kernel) (by decide +kernel) ?_
  show tq_X _ _ _ _ _ _ _ Z228 _
  refine tq_putR rX4_init_14 f_X4_15 ⟨rfl, fun _ => ⟨rfl, rfl⟩⟩ (by decide +kernel) (ff_X4_15) ?_
  show tq_X _ _ _ _ _ _ _ Z229 _
  refine tq_aload_n rX4_init_17 rfl ?_
  refine tq_bipush (8 : Int32) rX4_init_18 (by decide) ?_
  refine tz_newa 69 (t := 100) (n := 8) rX4_init_20 (by decide) (na_100) (by decide) (by decide) (by decide +kernel) (by decide +kernel) ?_
  show tq_X _ _ _ _ _ _ _ Z230 _
  refine tq_putR rX4_init_22 f_X4_19 ⟨rfl, fun _ => ⟨rfl, rfl⟩⟩ (by decide +kernel) (ff_X4_19) ?_
  show tq_X _ _ _ _ _ _ _ Z231 _
  exact tq_vret rX4_init_25 rfl (by decide +kernel) ⟨rfl, rfl⟩

set_option maxRecDepth 100000 in
set_option maxHeartbeats 4000000 in
theorem zc24 {S : Nat × (Nat → Int32)} {d : Nat} : tq_C S miX9_init (d + 1) [.ref 70] Z233 (fun r σ => r = none ∧ σ = Z236) := by
  refine tq_C_of (by decide) (Nat.le_of_ble_eq_true rfl) (ls := [.ref 70]) rfl ?_
  refine tq_aload_n rX9_init_0 rfl ?_
  refine tq_objInit rX9_init_1 (Nat.le_of_ble_eq_true rfl) (ob_X9_3) ?_
  refine tq_aload_n rX9_init_4 rfl ?_
  refine tq_iconst (0 : Int32) rX9_init_5 (by decide) ?_
  refine tq_putI rX9_init_6 f_X9_9 rfl (by decide +kernel) rfl ?_
  show tq_X _ _ _ _ _ _ _ Z234 _
  refine tq_aload_n rX9_init_9 rfl ?_
  refine tq_bipush (8 : Int32) rX9_init_10 (by decide) ?_
  refine tz_newa 71 (t := 100) (n := 8) rX9_init_12 (by decide) (na_100) (by decide) (by decide) (by decide +kernel) (by decide +kernel) ?_
  show tq_X _ _ _ _ _ _ _ Z235 _
  refine tq_putR rX9_init_14 f_X9_15 ⟨rfl, fun _ => ⟨rfl, rfl⟩⟩ (by decide +kernel) (ff_X9_15) ?_
  show tq_X _ _ _ _ _ _ _ Z236 _
  exact tq_vret rX9_init_17 rfl (by decide +kernel) ⟨rfl, rfl⟩

set_option maxRecDepth 100000 in
set_option maxHeartbeats 4000000 in
theorem zc25 {S : Nat × (Nat → Int32)} {d : Nat} : tq_C S miX3_init (d + 1) [.ref 72] Z238 (fun r σ => r = none ∧ σ = Z248) := by
  refine tq_C_of (by decide) (Nat.le_of_ble_eq_true rfl) (ls := [.ref 72]) rfl ?_
  refine tq_aload_n rX3_init_0 rfl ?_
  refine tq_objInit rX3_init_1 (Nat.le_of_ble_eq_true rfl) (ob_X3_3) ?_
  refine tq_aload_n rX3_init_4 rfl ?_
  refine tq_iconst (0 : Int32) rX3_init_5 (by decide) ?_
  refine tq_putI rX3_init_6 f_X3_9 rfl (by decide +kernel) rfl ?_
  show tq_X _ _ _ _ _ _ _ Z239 _
  refine tq_aload_n rX3_init_9 rfl ?_
  refine tq_iconst (0 : Int32) rX3_init_10 (by decide) ?_
  refine tq_putI rX3_init_11 f_X3_15 rfl (by decide +kernel) rfl ?_
  show tq_X _ _ _ _ _ _ _ Z240 _
  refine tq_aload_n rX3_init_14 rfl ?_
  refine tq_lconst (0 : Int64) rX3_init_15 (by decide) ?_
  refine tq_putL rX3_init_16 f_X3_18 rfl (by decide +kernel) rfl ?_
  show tq_X _ _ _ _ _ _ _ Z241 _
  refine tq_aload_n rX3_init_19 rfl ?_
  refine tq_lconst (0 : Int64) rX3_init_20 (by decide) ?_
  refine tq_putL rX3_init_21 f_X3_22 rfl (by decide +kernel) rfl ?_
  show tq_X _ _ _ _ _ _ _ Z242 _
  refine tq_aload_n rX3_init_24 rfl ?_
  refine tq_lconst (0 : Int64) rX3_init_25 (by decide) ?_
  refine tq_putL rX3_init_26 f_X3_25 rfl (by decide +kernel) rfl ?_
  show tq_X _ _ _ _ _ _ _ Z243 _
  refine tq_aload_n rX3_init_29 rfl ?_
  refine tq_lconst (0 : Int64) rX3_init_30 (by decide) ?_
  refine tq_putL rX3_init_31 f_X3_28 rfl (by decide +kernel) rfl ?_
  show tq_X _ _ _ _ _ _ _ Z244 _
  refine tq_aload_n rX3_init_34 rfl ?_
  refine tq_lconst (0 : Int64) rX3_init_35 (by decide) ?_
  refine tq_putL rX3_init_36 f_X3_31 rfl (by decide +kernel) rfl ?_
  show tq_X _ _ _ _ _ _ _ Z245 _
  refine tq_aload_n rX3_init_39 rfl ?_
  refine tq_lconst (0 : Int64) rX3_init_40 (by decide) ?_
  refine tq_putL rX3_init_41 f_X3_34 rfl (by decide +kernel) rfl ?_
  show tq_X _ _ _ _ _ _ _ Z246 _
  refine tq_aload_n rX3_init_44 rfl ?_
  refine tq_lconst (0 : Int64) rX3_init_45 (by decide) ?_
  refine tq_putL rX3_init_46 f_X3_37 rfl (by decide +kernel) rfl ?_
  show tq_X _ _ _ _ _ _ _ Z247 _
  refine tq_aload_n rX3_init_49 rfl ?_
  refine tq_lconst (0 : Int64) rX3_init_50 (by decide) ?_
  refine tq_putL rX3_init_51 f_X3_40 rfl (by decide +kernel) rfl ?_
  show tq_X _ _ _ _ _ _ _ Z248 _
  exact tq_vret rX3_init_54 rfl (by decide +kernel) ⟨rfl, rfl⟩

set_option maxRecDepth 100000 in
set_option maxHeartbeats 4000000 in
theorem zc26 {S : Nat × (Nat → Int32)} {d : Nat} : tq_C S miX10_init (d + 1) [.ref 73] Z250 (fun r σ => r = none ∧ σ = Z257) := by
  refine tq_C_of (by decide) (Nat.le_of_ble_eq_true rfl) (ls := [.ref 73]) rfl ?_
  refine tq_aload_n rX10_init_0 rfl ?_
  refine tq_objInit rX10_init_1 (Nat.le_of_ble_eq_true rfl) (ob_X10_3) ?_
  refine tq_aload_n rX10_init_4 rfl ?_
  refine tq_iconst (0 : Int32) rX10_init_5 (by decide) ?_
  refine tq_putI rX10_init_6 f_X10_9 rfl (by decide +kernel) rfl ?_
  show tq_X _ _ _ _ _ _ _ Z251 _
  refine tq_aload_n rX10_init_9 rfl ?_
  refine tq_bipush (40 : Int32) rX10_init_10 (by decide) ?_
  refine tz_newa 74 (t := 100) (n := 40) rX10_init_12 (by decide) (na_100) (by decide) (by decide) (by decide +kernel) (by decide +kernel) ?_
  show tq_X _ _ _ _ _ _ _ Z252 _
  refine tq_putR rX10_init_14 f_X10_15 ⟨rfl, fun _ => ⟨rfl, rfl⟩⟩ (by decide +kernel) (ff_X10_15) ?_
  show tq_X _ _ _ _ _ _ _ Z253 _
  refine tq_aload_n rX10_init_17 rfl ?_
  refine tq_bipush (40 : Int32) rX10_init_18 (by decide) ?_
  refine tz_newa 75 (t := 100) (n := 40) rX10_init_20 (by decide) (na_100) (by decide) (by decide) (by decide +kernel) (by decide +kernel) ?_
  show tq_X _ _ _ _ _ _ _ Z254 _
  refine tq_putR rX10_init_22 f_X10_19 ⟨rfl, fun _ => ⟨rfl, rfl⟩⟩ (by decide +kernel) (ff_X10_19) ?_
  show tq_X _ _ _ _ _ _ _ Z255 _
  refine tq_aload_n rX10_init_25 rfl ?_
  refine tq_bipush (40 : Int32) rX10_init_26 (by decide) ?_
  refine tz_newa 76 (t := 100) (n := 40) rX10_init_28 (by decide) (na_100) (by decide) (by decide) (by decide +kernel) (by decide +kernel) ?_
  show tq_X _ _ _ _ _ _ _ Z256 _
  refine tq_putR rX10_init_30 f_X10_22 ⟨rfl, fun _ => ⟨rfl, rfl⟩⟩ (by decide +kernel) (ff_X10_22) ?_
  show tq_X _ _ _ _ _ _ _ Z257 _
  exact tq_vret rX10_init_33 rfl (by decide +kernel) ⟨rfl, rfl⟩

set_option maxRecDepth 100000 in
set_option maxHeartbeats 4000000 in
theorem zc27 {S : Nat × (Nat → Int32)} {d : Nat} : tq_C S miX4_init (d + 1) [.ref 77] Z259 (fun r σ => r = none ∧ σ = Z264) := by
  refine tq_C_of (by decide) (Nat.le_of_ble_eq_true rfl) (ls := [.ref 77]) rfl ?_
  refine tq_aload_n rX4_init_0 rfl ?_
  refine tq_objInit rX4_init_1 (Nat.le_of_ble_eq_true rfl) (ob_X4_3) ?_
  refine tq_aload_n rX4_init_4 rfl ?_
  refine tq_iconst (0 : Int32) rX4_init_5 (by decide) ?_
  refine tq_putI rX4_init_6 f_X4_9 rfl (by decide +kernel) rfl ?_
  show tq_X _ _ _ _ _ _ _ Z260 _
  refine tq_aload_n rX4_init_9 rfl ?_
  refine tq_bipush (8 : Int32) rX4_init_10 (by decide) ?_
  refine tz_newa 78 (t := 100) (n := 8) rX4_init_12 (by decide) (na_100) (by decide) (by decide) (by decide +kernel) (by decide +kernel) ?_
  show tq_X _ _ _ _ _ _ _ Z261 _
  refine tq_putR rX4_init_14 f_X4_15 ⟨rfl, fun _ => ⟨rfl, rfl⟩⟩ (by decide +kernel) (ff_X4_15) ?_
  show tq_X _ _ _ _ _ _ _ Z262 _
  refine tq_aload_n rX4_init_17 rfl ?_
  refine tq_bipush (8 : Int32) rX4_init_18 (by decide) ?_
  refine tz_newa 79 (t := 100) (n := 8) rX4_init_20 (by decide) (na_100) (by decide) (by decide) (by decide +kernel) (by decide +kernel) ?_
  show tq_X _ _ _ _ _ _ _ Z263 _
  refine tq_putR rX4_init_22 f_X4_19 ⟨rfl, fun _ => ⟨rfl, rfl⟩⟩ (by decide +kernel) (ff_X4_19) ?_
  show tq_X _ _ _ _ _ _ _ Z264 _
  exact tq_vret rX4_init_25 rfl (by decide +kernel) ⟨rfl, rfl⟩

set_option maxRecDepth 100000 in
set_option maxHeartbeats 4000000 in
theorem zc28 {S : Nat × (Nat → Int32)} {d : Nat} : tq_C S miX9_init (d + 1) [.ref 80] Z266 (fun r σ => r = none ∧ σ = Z269) := by
  refine tq_C_of (by decide) (Nat.le_of_ble_eq_true rfl) (ls := [.ref 80]) rfl ?_
  refine tq_aload_n rX9_init_0 rfl ?_
  refine tq_objInit rX9_init_1 (Nat.le_of_ble_eq_true rfl) (ob_X9_3) ?_
  refine tq_aload_n rX9_init_4 rfl ?_
  refine tq_iconst (0 : Int32) rX9_init_5 (by decide) ?_
  refine tq_putI rX9_init_6 f_X9_9 rfl (by decide +kernel) rfl ?_
  show tq_X _ _ _ _ _ _ _ Z267 _
  refine tq_aload_n rX9_init_9 rfl ?_
  refine tq_bipush (8 : Int32) rX9_init_10 (by decide) ?_
  refine tz_newa 81 (t := 100) (n := 8) rX9_init_12 (by decide) (na_100) (by decide) (by decide) (by decide +kernel) (by decide +kernel) ?_
  show tq_X _ _ _ _ _ _ _ Z268 _
  refine tq_putR rX9_init_14 f_X9_15 ⟨rfl, fun _ => ⟨rfl, rfl⟩⟩ (by decide +kernel) (ff_X9_15) ?_
  show tq_X _ _ _ _ _ _ _ Z269 _
  exact tq_vret rX9_init_17 rfl (by decide +kernel) ⟨rfl, rfl⟩

set_option maxRecDepth 100000 in
set_option maxHeartbeats 4000000 in
theorem zc29 {S : Nat × (Nat → Int32)} {d : Nat} : tq_C S miX0_init (d + 2) [.ref 55] Z189 (fun r σ => r = none ∧ σ = Z270) := by
  refine tq_C_of (by decide) (Nat.le_of_ble_eq_true rfl) (ls := [.ref 55, tq_u]) rfl ?_
  refine tq_aload_n rX0_init_0 rfl ?_
  refine tq_objInit rX0_init_1 (Nat.le_of_ble_eq_true rfl) (ob_X0_3) ?_
  refine tq_aload_n rX0_init_4 rfl ?_
  refine tq_sipush (600 : Int32) rX0_init_5 (by decide) ?_
  refine tz_newa 56 (t := 102) (n := 600) rX0_init_8 (by decide) (na_102) (by decide) (by decide) (by decide +kernel) (by decide +kernel) ?_
  show tq_X _ _ _ _ _ _ _ Z190 _
  refine tq_putR rX0_init_10 f_X0_9 ⟨rfl, fun _ => ⟨rfl, rfl⟩⟩ (by decide +kernel) (ff_X0_9) ?_
  show tq_X _ _ _ _ _ _ _ Z191 _
  refine tq_aload_n rX0_init_13 rfl ?_
  refine tq_iconst (0 : Int32) rX0_init_14 (by decide) ?_
  refine tq_putI rX0_init_15 f_X0_15 rfl (by decide +kernel) rfl ?_
  show tq_X _ _ _ _ _ _ _ Z192 _
  refine tq_aload_n rX0_init_18 rfl ?_
  refine tq_iconst (0 : Int32) rX0_init_19 (by decide) ?_
  refine tq_putI rX0_init_20 f_X0_19 rfl (by decide +kernel) rfl ?_
  show tq_X _ _ _ _ _ _ _ Z193 _
  refine tq_aload_n rX0_init_23 rfl ?_
  refine tq_iconst (-1 : Int32) rX0_init_24 (by decide) ?_
  refine tq_putI rX0_init_25 f_X0_22 rfl (by decide +kernel) rfl ?_
  show tq_X _ _ _ _ _ _ _ Z194 _
  refine tq_aload_n rX0_init_28 rfl ?_
  refine tq_iconst (4 : Int32) rX0_init_29 (by decide) ?_
  refine tz_newa 57 (t := 100) (n := 4) rX0_init_30 (by decide) (na_100) (by decide) (by decide) (by decide +kernel) (by decide +kernel) ?_
  show tq_X _ _ _ _ _ _ _ Z195 _
  refine tq_putR rX0_init_32 f_X0_25 ⟨rfl, fun _ => ⟨rfl, rfl⟩⟩ (by decide +kernel) (ff_X0_25) ?_
  show tq_X _ _ _ _ _ _ _ Z196 _
  refine tq_aload_n rX0_init_35 rfl ?_
  refine tq_iconst (2 : Int32) rX0_init_36 (by decide) ?_
  refine tz_anew 58 (ci := 3) (n := 2) rX0_init_37 (by decide) (aw_X0_29) (by decide) (by decide) (by decide +kernel) (by decide +kernel) ?_
  show tq_X _ _ _ _ _ _ _ Z197 _
  refine tq_putR rX0_init_40 f_X0_31 ⟨rfl, fun _ => ⟨rfl, rfl⟩⟩ (by decide +kernel) (ff_X0_31) ?_
  show tq_X _ _ _ _ _ _ _ Z198 _
  refine tq_aload_n rX0_init_43 rfl ?_
  refine tq_iconst (2 : Int32) rX0_init_44 (by decide) ?_
  refine tz_anew 59 (ci := 10) (n := 2) rX0_init_45 (by decide) (aw_X0_35) (by decide) (by decide) (by decide +kernel) (by decide +kernel) ?_
  show tq_X _ _ _ _ _ _ _ Z199 _
  refine tq_putR rX0_init_48 f_X0_37 ⟨rfl, fun _ => ⟨rfl, rfl⟩⟩ (by decide +kernel) (ff_X0_37) ?_
  show tq_X _ _ _ _ _ _ _ Z200 _
  refine tq_aload_n rX0_init_51 rfl ?_
  refine tq_iconst (2 : Int32) rX0_init_52 (by decide) ?_
  refine tz_anew 60 (ci := 4) (n := 2) rX0_init_53 (by decide) (aw_X0_41) (by decide) (by decide) (by decide +kernel) (by decide +kernel) ?_
  show tq_X _ _ _ _ _ _ _ Z201 _
  refine tq_putR rX0_init_56 f_X0_43 ⟨rfl, fun _ => ⟨rfl, rfl⟩⟩ (by decide +kernel) (ff_X0_43) ?_
  show tq_X _ _ _ _ _ _ _ Z202 _
  refine tq_aload_n rX0_init_59 rfl ?_
  refine tq_iconst (2 : Int32) rX0_init_60 (by decide) ?_
  refine tz_anew 61 (ci := 9) (n := 2) rX0_init_61 (by decide) (aw_X0_47) (by decide) (by decide) (by decide +kernel) (by decide +kernel) ?_
  show tq_X _ _ _ _ _ _ _ Z203 _
  refine tq_putR rX0_init_64 f_X0_49 ⟨rfl, fun _ => ⟨rfl, rfl⟩⟩ (by decide +kernel) (ff_X0_49) ?_
  show tq_X _ _ _ _ _ _ _ Z204 _
  refine tq_iconst (0 : Int32) rX0_init_67 (by decide) ?_
  refine tq_istore_n ([.ref 55, .int (0 : Int32)]) rX0_init_68 (Nat.le_of_ble_eq_true rfl) rfl ?_
  refine tq_iload_n rX0_init_69 rfl ?_
  refine tq_iconst (2 : Int32) rX0_init_70 (by decide) ?_
  refine tq_icmp_ge rX0_init_71 (fun h => absurd h (by decide)) (fun _ => ?_)
  refine tq_aload_n rX0_init_74 rfl ?_
  refine tq_getR (b := 58) rX0_init_75 f_X0_31 rfl (by decide +kernel) (by decide +kernel) ?_
  refine tq_iload_n rX0_init_78 rfl ?_
  refine tz_new 62 (ci := 3) rX0_init_79 (by decide) (nw_X0_29) (by decide +kernel) (by decide +kernel) ?_
  show tq_X _ _ _ _ _ _ _ Z205 _
  refine tq_dup rX0_init_82 rfl ?_
  refine tq_callI (as := []) (st := [.ref 62, .int (0 : Int32), .ref 58]) rX0_init_83 l_X0_53 moiX3_init ⟨rfl, miiX3_init, rfl⟩ rfl rfl (Nat.le_of_ble_eq_true rfl) (by decide +kernel) zc21 ?_
  rintro r9 s9 ⟨rfl, rfl⟩
  show tq_X _ _ _ _ _ _ [.ref 62, .int (0 : Int32), .ref 58] Z215 _
  refine tz_aast (ci := 3) (j := 0) rX0_init_86 (by decide +kernel) (by decide) (by decide +kernel) (by decide +kernel) (by decide) ?_
  show tq_X _ _ _ _ _ _ _ Z216 _
  refine tq_aload_n rX0_init_87 rfl ?_
  refine tq_getR (b := 59) rX0_init_88 f_X0_37 rfl (by decide +kernel) (by decide +kernel) ?_
  refine tq_iload_n rX0_init_91 rfl ?_
  refine tz_new 63 (ci := 10) rX0_init_92 (by decide) (nw_X0_35) (by decide +kernel) (by decide +kernel) ?_
  show tq_X _ _ _ _ _ _ _ Z217 _
  refine tq_dup rX0_init_95 rfl ?_
  refine tq_callI (as := []) (st := [.ref 63, .int (0 : Int32), .ref 59]) rX0_init_96 l_X0_54 moiX10_init ⟨rfl, miiX10_init, rfl⟩ rfl rfl (Nat.le_of_ble_eq_true rfl) (by decide +kernel) zc22 ?_
  rintro r9 s9 ⟨rfl, rfl⟩
  show tq_X _ _ _ _ _ _ [.ref 63, .int (0 : Int32), .ref 59] Z224 _
  refine tz_aast (ci := 10) (j := 0) rX0_init_99 (by decide +kernel) (by decide) (by decide +kernel) (by decide +kernel) (by decide) ?_
  show tq_X _ _ _ _ _ _ _ Z225 _
  refine tq_aload_n rX0_init_100 rfl ?_
  refine tq_getR (b := 60) rX0_init_101 f_X0_43 rfl (by decide +kernel) (by decide +kernel) ?_
  refine tq_iload_n rX0_init_104 rfl ?_
  refine tz_new 67 (ci := 4) rX0_init_105 (by decide) (nw_X0_41) (by decide +kernel) (by decide +kernel) ?_
  show tq_X _ _ _ _ _ _ _ Z226 _
  refine tq_dup rX0_init_108 rfl ?_
  refine tq_callI (as := []) (st := [.ref 67, .int (0 : Int32), .ref 60]) rX0_init_109 l_X0_55 moiX4_init ⟨rfl, miiX4_init, rfl⟩ rfl rfl (Nat.le_of_ble_eq_true rfl) (by decide +kernel) zc23 ?_
  rintro r9 s9 ⟨rfl, rfl⟩
  show tq_X _ _ _ _ _ _ [.ref 67, .int (0 : Int32), .ref 60] Z231 _
  refine tz_aast (ci := 4) (j := 0) rX0_init_112 (by decide +kernel) (by decide) (by decide +kernel) (by decide +kernel) (by decide) ?_
  show tq_X _ _ _ _ _ _ _ Z232 _
  refine tq_aload_n rX0_init_113 rfl ?_
  refine tq_getR (b := 61) rX0_init_114 f_X0_49 rfl (by decide +kernel) (by decide +kernel) ?_
  refine tq_iload_n rX0_init_117 rfl ?_
  refine tz_new 70 (ci := 9) rX0_init_118 (by decide) (nw_X0_47) (by decide +kernel) (by decide +kernel) ?_
  show tq_X _ _ _ _ _ _ _ Z233 _
  refine tq_dup rX0_init_121 rfl ?_
  refine tq_callI (as := []) (st := [.ref 70, .int (0 : Int32), .ref 61]) rX0_init_122 l_X0_56 moiX9_init ⟨rfl, miiX9_init, rfl⟩ rfl rfl (Nat.le_of_ble_eq_true rfl) (by decide +kernel) zc24 ?_
  rintro r9 s9 ⟨rfl, rfl⟩
  show tq_X _ _ _ _ _ _ [.ref 70, .int (0 : Int32), .ref 61] Z236 _
  refine tz_aast (ci := 9) (j := 0) rX0_init_125 (by decide +kernel) (by decide) (by decide +kernel) (by decide +kernel) (by decide) ?_
  show tq_X _ _ _ _ _ _ _ Z237 _
  refine tq_iinc (1 : Int32) ([.ref 55, .int (1 : Int32)]) rX0_init_126 rfl (by decide) (Nat.le_of_ble_eq_true rfl) rfl ?_
  refine tq_goto rX0_init_129 ?_
  refine tq_iload_n rX0_init_69 rfl ?_
  refine tq_iconst (2 : Int32) rX0_init_70 (by decide) ?_
  refine tq_icmp_ge rX0_init_71 (fun h => absurd h (by decide)) (fun _ => ?_)
  refine tq_aload_n rX0_init_74 rfl ?_
  refine tq_getR (b := 58) rX0_init_75 f_X0_31 rfl (by decide +kernel) (by decide +kernel) ?_
  refine tq_iload_n rX0_init_78 rfl ?_
  refine tz_new 72 (ci := 3) rX0_init_79 (by decide) (nw_X0_29) (by decide +kernel) (by decide +kernel) ?_
  show tq_X _ _ _ _ _ _ _ Z238 _
  refine tq_dup rX0_init_82 rfl ?_
  refine tq_callI (as := []) (st := [.ref 72, .int (1 : Int32), .ref 58]) rX0_init_83 l_X0_53 moiX3_init ⟨rfl, miiX3_init, rfl⟩ rfl rfl (Nat.le_of_ble_eq_true rfl) (by decide +kernel) zc25 ?_
  rintro r9 s9 ⟨rfl, rfl⟩
  show tq_X _ _ _ _ _ _ [.ref 72, .int (1 : Int32), .ref 58] Z248 _
  refine tz_aast (ci := 3) (j := 1) rX0_init_86 (by decide +kernel) (by decide) (by decide +kernel) (by decide +kernel) (by decide) ?_
  show tq_X _ _ _ _ _ _ _ Z249 _
  refine tq_aload_n rX0_init_87 rfl ?_
  refine tq_getR (b := 59) rX0_init_88 f_X0_37 rfl (by decide +kernel) (by decide +kernel) ?_
  refine tq_iload_n rX0_init_91 rfl ?_
  refine tz_new 73 (ci := 10) rX0_init_92 (by decide) (nw_X0_35) (by decide +kernel) (by decide +kernel) ?_
  show tq_X _ _ _ _ _ _ _ Z250 _
  refine tq_dup rX0_init_95 rfl ?_
  refine tq_callI (as := []) (st := [.ref 73, .int (1 : Int32), .ref 59]) rX0_init_96 l_X0_54 moiX10_init ⟨rfl, miiX10_init, rfl⟩ rfl rfl (Nat.le_of_ble_eq_true rfl) (by decide +kernel) zc26 ?_
  rintro r9 s9 ⟨rfl, rfl⟩
  show tq_X _ _ _ _ _ _ [.ref 73, .int (1 : Int32), .ref 59] Z257 _
  refine tz_aast (ci := 10) (j := 1) rX0_init_99 (by decide +kernel) (by decide) (by decide +kernel) (by decide +kernel) (by decide) ?_
  show tq_X _ _ _ _ _ _ _ Z258 _
  refine tq_aload_n rX0_init_100 rfl ?_
  refine tq_getR (b := 60) rX0_init_101 f_X0_43 rfl (by decide +kernel) (by decide +kernel) ?_
  refine tq_iload_n rX0_init_104 rfl ?_
  refine tz_new 77 (ci := 4) rX0_init_105 (by decide) (nw_X0_41) (by decide +kernel) (by decide +kernel) ?_
  show tq_X _ _ _ _ _ _ _ Z259 _
  refine tq_dup rX0_init_108 rfl ?_
  refine tq_callI (as := []) (st := [.ref 77, .int (1 : Int32), .ref 60]) rX0_init_109 l_X0_55 moiX4_init ⟨rfl, miiX4_init, rfl⟩ rfl rfl (Nat.le_of_ble_eq_true rfl) (by decide +kernel) zc27 ?_
  rintro r9 s9 ⟨rfl, rfl⟩
  show tq_X _ _ _ _ _ _ [.ref 77, .int (1 : Int32), .ref 60] Z264 _
  refine tz_aast (ci := 4) (j := 1) rX0_init_112 (by decide +kernel) (by decide) (by decide +kernel) (by decide +kernel) (by decide) ?_
  show tq_X _ _ _ _ _ _ _ Z265 _
  refine tq_aload_n rX0_init_113 rfl ?_
  refine tq_getR (b := 61) rX0_init_114 f_X0_49 rfl (by decide +kernel) (by decide +kernel) ?_
  refine tq_iload_n rX0_init_117 rfl ?_
  refine tz_new 80 (ci := 9) rX0_init_118 (by decide) (nw_X0_47) (by decide +kernel) (by decide +kernel) ?_
  show tq_X _ _ _ _ _ _ _ Z266 _
  refine tq_dup rX0_init_121 rfl ?_
  refine tq_callI (as := []) (st := [.ref 80, .int (1 : Int32), .ref 61]) rX0_init_122 l_X0_56 moiX9_init ⟨rfl, miiX9_init, rfl⟩ rfl rfl (Nat.le_of_ble_eq_true rfl) (by decide +kernel) zc28 ?_
  rintro r9 s9 ⟨rfl, rfl⟩
  show tq_X _ _ _ _ _ _ [.ref 80, .int (1 : Int32), .ref 61] Z269 _
  refine tz_aast (ci := 9) (j := 1) rX0_init_125 (by decide +kernel) (by decide) (by decide +kernel) (by decide +kernel) (by decide) ?_
  show tq_X _ _ _ _ _ _ _ Z270 _
  refine tq_iinc (2 : Int32) ([.ref 55, .int (2 : Int32)]) rX0_init_126 rfl (by decide) (Nat.le_of_ble_eq_true rfl) rfl ?_
  refine tq_goto rX0_init_129 ?_
  refine tq_iload_n rX0_init_69 rfl ?_
  refine tq_iconst (2 : Int32) rX0_init_70 (by decide) ?_
  refine tq_icmp_ge rX0_init_71 (fun _ => ?_) (fun h => absurd (by decide) h)
  exact tq_vret rX0_init_132 rfl (by decide +kernel) ⟨rfl, rfl⟩

set_option maxRecDepth 100000 in
set_option maxHeartbeats 4000000 in
theorem zc30 {S : Nat × (Nat → Int32)} {d : Nat} : tq_C S miX3_init (d + 1) [.ref 89] Z288 (fun r σ => r = none ∧ σ = Z298) := by
  refine tq_C_of (by decide) (Nat.le_of_ble_eq_true rfl) (ls := [.ref 89]) rfl ?_
  refine tq_aload_n rX3_init_0 rfl ?_
  refine tq_objInit rX3_init_1 (Nat.le_of_ble_eq_true rfl) (ob_X3_3) ?_
  refine tq_aload_n rX3_init_4 rfl ?_
  refine tq_iconst (0 : Int32) rX3_init_5 (by decide) ?_
  refine tq_putI rX3_init_6 f_X3_9 rfl (by decide +kernel) rfl ?_
  show tq_X _ _ _ _ _ _ _ Z289 _
  refine tq_aload_n rX3_init_9 rfl ?_
  refine tq_iconst (0 : Int32) rX3_init_10 (by decide) ?_
  refine tq_putI rX3_init_11 f_X3_15 rfl (by decide +kernel) rfl ?_
  show tq_X _ _ _ _ _ _ _ Z290 _
  refine tq_aload_n rX3_init_14 rfl ?_
  refine tq_lconst (0 : Int64) rX3_init_15 (by decide) ?_
  refine tq_putL rX3_init_16 f_X3_18 rfl (by decide +kernel) rfl ?_
  show tq_X _ _ _ _ _ _ _ Z291 _
  refine tq_aload_n rX3_init_19 rfl ?_
  refine tq_lconst (0 : Int64) rX3_init_20 (by decide) ?_
  refine tq_putL rX3_init_21 f_X3_22 rfl (by decide +kernel) rfl ?_
  show tq_X _ _ _ _ _ _ _ Z292 _
  refine tq_aload_n rX3_init_24 rfl ?_
  refine tq_lconst (0 : Int64) rX3_init_25 (by decide) ?_
  refine tq_putL rX3_init_26 f_X3_25 rfl (by decide +kernel) rfl ?_
  show tq_X _ _ _ _ _ _ _ Z293 _
  refine tq_aload_n rX3_init_29 rfl ?_
  refine tq_lconst (0 : Int64) rX3_init_30 (by decide) ?_
  refine tq_putL rX3_init_31 f_X3_28 rfl (by decide +kernel) rfl ?_
  show tq_X _ _ _ _ _ _ _ Z294 _
  refine tq_aload_n rX3_init_34 rfl ?_
  refine tq_lconst (0 : Int64) rX3_init_35 (by decide) ?_
  refine tq_putL rX3_init_36 f_X3_31 rfl (by decide +kernel) rfl ?_
  show tq_X _ _ _ _ _ _ _ Z295 _
  refine tq_aload_n rX3_init_39 rfl ?_
  refine tq_lconst (0 : Int64) rX3_init_40 (by decide) ?_
  refine tq_putL rX3_init_41 f_X3_34 rfl (by decide +kernel) rfl ?_
  show tq_X _ _ _ _ _ _ _ Z296 _
  refine tq_aload_n rX3_init_44 rfl ?_
  refine tq_lconst (0 : Int64) rX3_init_45 (by decide) ?_
  refine tq_putL rX3_init_46 f_X3_37 rfl (by decide +kernel) rfl ?_
  show tq_X _ _ _ _ _ _ _ Z297 _
  refine tq_aload_n rX3_init_49 rfl ?_
  refine tq_lconst (0 : Int64) rX3_init_50 (by decide) ?_
  refine tq_putL rX3_init_51 f_X3_40 rfl (by decide +kernel) rfl ?_
  show tq_X _ _ _ _ _ _ _ Z298 _
  exact tq_vret rX3_init_54 rfl (by decide +kernel) ⟨rfl, rfl⟩

set_option maxRecDepth 100000 in
set_option maxHeartbeats 4000000 in
theorem zc31 {S : Nat × (Nat → Int32)} {d : Nat} : tq_C S miX10_init (d + 1) [.ref 90] Z300 (fun r σ => r = none ∧ σ = Z307) := by
  refine tq_C_of (by decide) (Nat.le_of_ble_eq_true rfl) (ls := [.ref 90]) rfl ?_
  refine tq_aload_n rX10_init_0 rfl ?_
  refine tq_objInit rX10_init_1 (Nat.le_of_ble_eq_true rfl) (ob_X10_3) ?_
  refine tq_aload_n rX10_init_4 rfl ?_
  refine tq_iconst (0 : Int32) rX10_init_5 (by decide) ?_
  refine tq_putI rX10_init_6 f_X10_9 rfl (by decide +kernel) rfl ?_
  show tq_X _ _ _ _ _ _ _ Z301 _
  refine tq_aload_n rX10_init_9 rfl ?_
  refine tq_bipush (40 : Int32) rX10_init_10 (by decide) ?_
  refine tz_newa 91 (t := 100) (n := 40) rX10_init_12 (by decide) (na_100) (by decide) (by decide) (by decide +kernel) (by decide +kernel) ?_
  show tq_X _ _ _ _ _ _ _ Z302 _
  refine tq_putR rX10_init_14 f_X10_15 ⟨rfl, fun _ => ⟨rfl, rfl⟩⟩ (by decide +kernel) (ff_X10_15) ?_
  show tq_X _ _ _ _ _ _ _ Z303 _
  refine tq_aload_n rX10_init_17 rfl ?_
  refine tq_bipush (40 : Int32) rX10_init_18 (by decide) ?_
  refine tz_newa 92 (t := 100) (n := 40) rX10_init_20 (by decide) (na_100) (by decide) (by decide) (by decide +kernel) (by decide +kernel) ?_
  show tq_X _ _ _ _ _ _ _ Z304 _
  refine tq_putR rX10_init_22 f_X10_19 ⟨rfl, fun _ => ⟨rfl, rfl⟩⟩ (by decide +kernel) (ff_X10_19) ?_
  show tq_X _ _ _ _ _ _ _ Z305 _
  refine tq_aload_n rX10_init_25 rfl ?_
  refine tq_bipush (40 : Int32) rX10_init_26 (by decide) ?_
  refine tz_newa 93 (t := 100) (n := 40) rX10_init_28 (by decide) (na_100) (by decide) (by decide) (by decide +kernel) (by decide +kernel) ?_
  show tq_X _ _ _ _ _ _ _ Z306 _
  refine tq_putR rX10_init_30 f_X10_22 ⟨rfl, fun _ => ⟨rfl, rfl⟩⟩ (by decide +kernel) (ff_X10_22) ?_
  show tq_X _ _ _ _ _ _ _ Z307 _
  exact tq_vret rX10_init_33 rfl (by decide +kernel) ⟨rfl, rfl⟩

set_option maxRecDepth 100000 in
set_option maxHeartbeats 4000000 in
theorem zc32 {S : Nat × (Nat → Int32)} {d : Nat} : tq_C S miX4_init (d + 1) [.ref 94] Z309 (fun r σ => r = none ∧ σ = Z314) := by
  refine tq_C_of (by decide) (Nat.le_of_ble_eq_true rfl) (ls := [.ref 94]) rfl ?_
  refine tq_aload_n rX4_init_0 rfl ?_
  refine tq_objInit rX4_init_1 (Nat.le_of_ble_eq_true rfl) (ob_X4_3) ?_
  refine tq_aload_n rX4_init_4 rfl ?_
  refine tq_iconst (0 : Int32) rX4_init_5 (by decide) ?_
  refine tq_putI rX4_init_6 f_X4_9 rfl (by decide +kernel) rfl ?_
  show tq_X _ _ _ _ _ _ _ Z310 _
  refine tq_aload_n rX4_init_9 rfl ?_
  refine tq_bipush (8 : Int32) rX4_init_10 (by decide) ?_
  refine tz_newa 95 (t := 100) (n := 8) rX4_init_12 (by decide) (na_100) (by decide) (by decide) (by decide +kernel) (by decide +kernel) ?_
  show tq_X _ _ _ _ _ _ _ Z311 _
  refine tq_putR rX4_init_14 f_X4_15 ⟨rfl, fun _ => ⟨rfl, rfl⟩⟩ (by decide +kernel) (ff_X4_15) ?_
  show tq_X _ _ _ _ _ _ _ Z312 _
  refine tq_aload_n rX4_init_17 rfl ?_
  refine tq_bipush (8 : Int32) rX4_init_18 (by decide) ?_
  refine tz_newa 96 (t := 100) (n := 8) rX4_init_20 (by decide) (na_100) (by decide) (by decide) (by decide +kernel) (by decide +kernel) ?_
  show tq_X _ _ _ _ _ _ _ Z313 _
  refine tq_putR rX4_init_22 f_X4_19 ⟨rfl, fun _ => ⟨rfl, rfl⟩⟩ (by decide +kernel) (ff_X4_19) ?_
  show tq_X _ _ _ _ _ _ _ Z314 _
  exact tq_vret rX4_init_25 rfl (by decide +kernel) ⟨rfl, rfl⟩

set_option maxRecDepth 100000 in
set_option maxHeartbeats 4000000 in
theorem zc33 {S : Nat × (Nat → Int32)} {d : Nat} : tq_C S miX9_init (d + 1) [.ref 97] Z316 (fun r σ => r = none ∧ σ = Z319) := by
  refine tq_C_of (by decide) (Nat.le_of_ble_eq_true rfl) (ls := [.ref 97]) rfl ?_
  refine tq_aload_n rX9_init_0 rfl ?_
  refine tq_objInit rX9_init_1 (Nat.le_of_ble_eq_true rfl) (ob_X9_3) ?_
  refine tq_aload_n rX9_init_4 rfl ?_
  refine tq_iconst (0 : Int32) rX9_init_5 (by decide) ?_
  refine tq_putI rX9_init_6 f_X9_9 rfl (by decide +kernel) rfl ?_
  show tq_X _ _ _ _ _ _ _ Z317 _
  refine tq_aload_n rX9_init_9 rfl ?_
  refine tq_bipush (8 : Int32) rX9_init_10 (by decide) ?_
  refine tz_newa 98 (t := 100) (n := 8) rX9_init_12 (by decide) (na_100) (by decide) (by decide) (by decide +kernel) (by decide +kernel) ?_
  show tq_X _ _ _ _ _ _ _ Z318 _
  refine tq_putR rX9_init_14 f_X9_15 ⟨rfl, fun _ => ⟨rfl, rfl⟩⟩ (by decide +kernel) (ff_X9_15) ?_
  show tq_X _ _ _ _ _ _ _ Z319 _
  exact tq_vret rX9_init_17 rfl (by decide +kernel) ⟨rfl, rfl⟩

set_option maxRecDepth 100000 in
set_option maxHeartbeats 4000000 in
theorem zc34 {S : Nat × (Nat → Int32)} {d : Nat} : tq_C S miX3_init (d + 1) [.ref 99] Z321 (fun r σ => r = none ∧ σ = Z331) := by
  refine tq_C_of (by decide) (Nat.le_of_ble_eq_true rfl) (ls := [.ref 99]) rfl ?_
  refine tq_aload_n rX3_init_0 rfl ?_
  refine tq_objInit rX3_init_1 (Nat.le_of_ble_eq_true rfl) (ob_X3_3) ?_
  refine tq_aload_n rX3_init_4 rfl ?_
  refine tq_iconst (0 : Int32) rX3_init_5 (by decide) ?_
  refine tq_putI rX3_init_6 f_X3_9 rfl (by decide +kernel) rfl ?_
  show tq_X _ _ _ _ _ _ _ Z322 _
  refine tq_aload_n rX3_init_9 rfl ?_
  refine tq_iconst (0 : Int32) rX3_init_10 (by decide) ?_
  refine tq_putI rX3_init_11 f_X3_15 rfl (by decide +kernel) rfl ?_
  show tq_X _ _ _ _ _ _ _ Z323 _
  refine tq_aload_n rX3_init_14 rfl ?_
  refine tq_lconst (0 : Int64) rX3_init_15 (by decide) ?_
  refine tq_putL rX3_init_16 f_X3_18 rfl (by decide +kernel) rfl ?_
  show tq_X _ _ _ _ _ _ _ Z324 _
  refine tq_aload_n rX3_init_19 rfl ?_
  refine tq_lconst (0 : Int64) rX3_init_20 (by decide) ?_
  refine tq_putL rX3_init_21 f_X3_22 rfl (by decide +kernel) rfl ?_
  show tq_X _ _ _ _ _ _ _ Z325 _
  refine tq_aload_n rX3_init_24 rfl ?_
  refine tq_lconst (0 : Int64) rX3_init_25 (by decide) ?_
  refine tq_putL rX3_init_26 f_X3_25 rfl (by decide +kernel) rfl ?_
  show tq_X _ _ _ _ _ _ _ Z326 _
  refine tq_aload_n rX3_init_29 rfl ?_
  refine tq_lconst (0 : Int64) rX3_init_30 (by decide) ?_
  refine tq_putL rX3_init_31 f_X3_28 rfl (by decide +kernel) rfl ?_
  show tq_X _ _ _ _ _ _ _ Z327 _
  refine tq_aload_n rX3_init_34 rfl ?_
  refine tq_lconst (0 : Int64) rX3_init_35 (by decide) ?_
  refine tq_putL rX3_init_36 f_X3_31 rfl (by decide +kernel) rfl ?_
  show tq_X _ _ _ _ _ _ _ Z328 _
  refine tq_aload_n rX3_init_39 rfl ?_
  refine tq_lconst (0 : Int64) rX3_init_40 (by decide) ?_
  refine tq_putL rX3_init_41 f_X3_34 rfl (by decide +kernel) rfl ?_
  show tq_X _ _ _ _ _ _ _ Z329 _
  refine tq_aload_n rX3_init_44 rfl ?_
  refine tq_lconst (0 : Int64) rX3_init_45 (by decide) ?_
  refine tq_putL rX3_init_46 f_X3_37 rfl (by decide +kernel) rfl ?_
  show tq_X _ _ _ _ _ _ _ Z330 _
  refine tq_aload_n rX3_init_49 rfl ?_
  refine tq_lconst (0 : Int64) rX3_init_50 (by decide) ?_
  refine tq_putL rX3_init_51 f_X3_40 rfl (by decide +kernel) rfl ?_
  show tq_X _ _ _ _ _ _ _ Z331 _
  exact tq_vret rX3_init_54 rfl (by decide +kernel) ⟨rfl, rfl⟩

set_option maxRecDepth 100000 in
set_option maxHeartbeats 4000000 in
theorem zc35 {S : Nat × (Nat → Int32)} {d : Nat} : tq_C S miX10_init (d + 1) [.ref 100] Z333 (fun r σ => r = none ∧ σ = Z340) := by
  refine tq_C_of (by decide) (Nat.le_of_ble_eq_true rfl) (ls := [.ref 100]) rfl ?_
  refine tq_aload_n rX10_init_0 rfl ?_
  refine tq_objInit rX10_init_1 (Nat.le_of_ble_eq_true rfl) (ob_X10_3) ?_
  refine tq_aload_n rX10_init_4 rfl ?_
  refine tq_iconst (0 : Int32) rX10_init_5 (by decide) ?_
  refine tq_putI rX10_init_6 f_X10_9 rfl (by decide +kernel) rfl ?_
  show tq_X _ _ _ _ _ _ _ Z334 _
  refine tq_aload_n rX10_init_9 rfl ?_
  refine tq_bipush (40 : Int32) rX10_init_10 (by decide) ?_
  refine tz_newa 101 (t := 100) (n := 40) rX10_init_12 (by decide) (na_100) (by decide) (by decide) (by decide +kernel) (by decide +kernel) ?_
  show tq_X _ _ _ _ _ _ _ Z335 _
  refine tq_putR rX10_init_14 f_X10_15 ⟨rfl, fun _ => ⟨rfl, rfl⟩⟩ (by decide +kernel) (ff_X10_15) ?_
  show tq_X _ _ _ _ _ _ _ Z336 _
  refine tq_aload_n rX10_init_17 rfl ?_
  refine tq_bipush (40 : Int32) rX10_init_18 (by decide) ?_
  refine tz_newa 102 (t := 100) (n := 40) rX10_init_20 (by decide) (na_100) (by decide) (by decide) (by decide +kernel) (by decide +kernel) ?_
  show tq_X _ _ _ _ _ _ _ Z337 _
  refine tq_putR rX10_init_22 f_X10_19 ⟨rfl, fun _ => ⟨rfl, rfl⟩⟩ (by decide +kernel) (ff_X10_19) ?_
  show tq_X _ _ _ _ _ _ _ Z338 _
  refine tq_aload_n rX10_init_25 rfl ?_
  refine tq_bipush (40 : Int32) rX10_init_26 (by decide) ?_
  refine tz_newa 103 (t := 100) (n := 40) rX10_init_28 (by decide) (na_100) (by decide) (by decide) (by decide +kernel) (by decide +kernel) ?_
  show tq_X _ _ _ _ _ _ _ Z339 _
  refine tq_putR rX10_init_30 f_X10_22 ⟨rfl, fun _ => ⟨rfl, rfl⟩⟩ (by decide +kernel) (ff_X10_22) ?_
  show tq_X _ _ _ _ _ _ _ Z340 _
  exact tq_vret rX10_init_33 rfl (by decide +kernel) ⟨rfl, rfl⟩

set_option maxRecDepth 100000 in
set_option maxHeartbeats 4000000 in
theorem zc36 {S : Nat × (Nat → Int32)} {d : Nat} : tq_C S miX4_init (d + 1) [.ref 104] Z342 (fun r σ => r = none ∧ σ = Z347) := by
  refine tq_C_of (by decide) (Nat.le_of_ble_eq_true rfl) (ls := [.ref 104]) rfl ?_
  refine tq_aload_n rX4_init_0 rfl ?_
  refine tq_objInit rX4_init_1 (Nat.le_of_ble_eq_true rfl) (ob_X4_3) ?_
  refine tq_aload_n rX4_init_4 rfl ?_
  refine tq_iconst (0 : Int32) rX4_init_5 (by decide) ?_
  refine tq_putI rX4_init_6 f_X4_9 rfl (by decide +kernel) rfl ?_
  show tq_X _ _ _ _ _ _ _ Z343 _
  refine tq_aload_n rX4_init_9 rfl ?_
  refine tq_bipush (8 : Int32) rX4_init_10 (by decide) ?_
  refine tz_newa 105 (t := 100) (n := 8) rX4_init_12 (by decide) (na_100) (by decide) (by decide) (by decide +kernel) (by decide +kernel) ?_
  show tq_X _ _ _ _ _ _ _ Z344 _
  refine tq_putR rX4_init_14 f_X4_15 ⟨rfl, fun _ => ⟨rfl, rfl⟩⟩ (by decide +kernel) (ff_X4_15) ?_
  show tq_X _ _ _ _ _ _ _ Z345 _
  refine tq_aload_n rX4_init_17 rfl ?_
  refine tq_bipush (8 : Int32) rX4_init_18 (by decide) ?_
  refine tz_newa 106 (t := 100) (n := 8) rX4_init_20 (by decide) (na_100) (by decide) (by decide) (by decide +kernel) (by decide +kernel) ?_
  show tq_X _ _ _ _ _ _ _ Z346 _
  refine tq_putR rX4_init_22 f_X4_19 ⟨rfl, fun _ => ⟨rfl, rfl⟩⟩ (by decide +kernel) (ff_X4_19) ?_
  show tq_X _ _ _ _ _ _ _ Z347 _
  exact tq_vret rX4_init_25 rfl (by decide +kernel) ⟨rfl, rfl⟩

set_option maxRecDepth 100000 in
set_option maxHeartbeats 4000000 in
theorem zc37 {S : Nat × (Nat → Int32)} {d : Nat} : tq_C S miX9_init (d + 1) [.ref 107] Z349 (fun r σ => r = none ∧ σ = Z352) := by
  refine tq_C_of (by decide) (Nat.le_of_ble_eq_true rfl) (ls := [.ref 107]) rfl ?_
  refine tq_aload_n rX9_init_0 rfl ?_
  refine tq_objInit rX9_init_1 (Nat.le_of_ble_eq_true rfl) (ob_X9_3) ?_
  refine tq_aload_n rX9_init_4 rfl ?_
  refine tq_iconst (0 : Int32) rX9_init_5 (by decide) ?_
  refine tq_putI rX9_init_6 f_X9_9 rfl (by decide +kernel) rfl ?_
  show tq_X _ _ _ _ _ _ _ Z350 _
  refine tq_aload_n rX9_init_9 rfl ?_
  refine tq_bipush (8 : Int32) rX9_init_10 (by decide) ?_
  refine tz_newa 108 (t := 100) (n := 8) rX9_init_12 (by decide) (na_100) (by decide) (by decide) (by decide +kernel) (by decide +kernel) ?_
  show tq_X _ _ _ _ _ _ _ Z351 _
  refine tq_putR rX9_init_14 f_X9_15 ⟨rfl, fun _ => ⟨rfl, rfl⟩⟩ (by decide +kernel) (ff_X9_15) ?_
  show tq_X _ _ _ _ _ _ _ Z352 _
  exact tq_vret rX9_init_17 rfl (by decide +kernel) ⟨rfl, rfl⟩

set_option maxRecDepth 100000 in
set_option maxHeartbeats 4000000 in
theorem zc38 {S : Nat × (Nat → Int32)} {d : Nat} : tq_C S miX0_init (d + 2) [.ref 82] Z272 (fun r σ => r = none ∧ σ = Z353) := by
  refine tq_C_of (by decide) (Nat.le_of_ble_eq_true rfl) (ls := [.ref 82, tq_u]) rfl ?_
  refine tq_aload_n rX0_init_0 rfl ?_
  refine tq_objInit rX0_init_1 (Nat.le_of_ble_eq_true rfl) (ob_X0_3) ?_
  refine tq_aload_n rX0_init_4 rfl ?_
  refine tq_sipush (600 : Int32) rX0_init_5 (by decide) ?_
  refine tz_newa 83 (t := 102) (n := 600) rX0_init_8 (by decide) (na_102) (by decide) (by decide) (by decide +kernel) (by decide +kernel) ?_
  show tq_X _ _ _ _ _ _ _ Z273 _
  refine tq_putR rX0_init_10 f_X0_9 ⟨rfl, fun _ => ⟨rfl, rfl⟩⟩ (by decide +kernel) (ff_X0_9) ?_
  show tq_X _ _ _ _ _ _ _ Z274 _
  refine tq_aload_n rX0_init_13 rfl ?_
  refine tq_iconst (0 : Int32) rX0_init_14 (by decide) ?_
  refine tq_putI rX0_init_15 f_X0_15 rfl (by decide +kernel) rfl ?_
  show tq_X _ _ _ _ _ _ _ Z275 _
  refine tq_aload_n rX0_init_18 rfl ?_
  refine tq_iconst (0 : Int32) rX0_init_19 (by decide) ?_
  refine tq_putI rX0_init_20 f_X0_19 rfl (by decide +kernel) rfl ?_
  show tq_X _ _ _ _ _ _ _ Z276 _
  refine tq_aload_n rX0_init_23 rfl ?_
  refine tq_iconst (-1 : Int32) rX0_init_24 (by decide) ?_
  refine tq_putI rX0_init_25 f_X0_22 rfl (by decide +kernel) rfl ?_
  show tq_X _ _ _ _ _ _ _ Z277 _
  refine tq_aload_n rX0_init_28 rfl ?_
  refine tq_iconst (4 : Int32) rX0_init_29 (by decide) ?_
  refine tz_newa 84 (t := 100) (n := 4) rX0_init_30 (by decide) (na_100) (by decide) (by decide) (by decide +kernel) (by decide +kernel) ?_
  show tq_X _ _ _ _ _ _ _ Z278 _
  refine tq_putR rX0_init_32 f_X0_25 ⟨rfl, fun _ => ⟨rfl, rfl⟩⟩ (by decide +kernel) (ff_X0_25) ?_
  show tq_X _ _ _ _ _ _ _ Z279 _
  refine tq_aload_n rX0_init_35 rfl ?_
  refine tq_iconst (2 : Int32) rX0_init_36 (by decide) ?_
  refine tz_anew 85 (ci := 3) (n := 2) rX0_init_37 (by decide) (aw_X0_29) (by decide) (by decide) (by decide +kernel) (by decide +kernel) ?_
  show tq_X _ _ _ _ _ _ _ Z280 _
  refine tq_putR rX0_init_40 f_X0_31 ⟨rfl, fun _ => ⟨rfl, rfl⟩⟩ (by decide +kernel) (ff_X0_31) ?_
  show tq_X _ _ _ _ _ _ _ Z281 _
  refine tq_aload_n rX0_init_43 rfl ?_
  refine tq_iconst (2 : Int32) rX0_init_44 (by decide) ?_
  refine tz_anew 86 (ci := 10) (n := 2) rX0_init_45 (by decide) (aw_X0_35) (by decide) (by decide) (by decide +kernel) (by decide +kernel) ?_
  show tq_X _ _ _ _ _ _ _ Z282 _
  refine tq_putR rX0_init_48 f_X0_37 ⟨rfl, fun _ => ⟨rfl, rfl⟩⟩ (by decide +kernel) (ff_X0_37) ?_
  show tq_X _ _ _ _ _ _ _ Z283 _
  refine tq_aload_n rX0_init_51 rfl ?_
  refine tq_iconst (2 : Int32) rX0_init_52 (by decide) ?_
  refine tz_anew 87 (ci := 4) (n := 2) rX0_init_53 (by decide) (aw_X0_41) (by decide) (by decide) (by decide +kernel) (by decide +kernel) ?_
  show tq_X _ _ _ _ _ _ _ Z284 _
  refine tq_putR rX0_init_56 f_X0_43 ⟨rfl, fun _ => ⟨rfl, rfl⟩⟩ (by decide +kernel) (ff_X0_43) ?_
  show tq_X _ _ _ _ _ _ _ Z285 _
  refine tq_aload_n rX0_init_59 rfl ?_
  refine tq_iconst (2 : Int32) rX0_init_60 (by decide) ?_
  refine tz_anew 88 (ci := 9) (n := 2) rX0_init_61 (by decide) (aw_X0_47) (by decide) (by decide) (by decide +kernel) (by decide +kernel) ?_
  show tq_X _ _ _ _ _ _ _ Z286 _
  refine tq_putR rX0_init_64 f_X0_49 ⟨rfl, fun _ => ⟨rfl, rfl⟩⟩ (by decide +kernel) (ff_X0_49) ?_
  show tq_X _ _ _ _ _ _ _ Z287 _
  refine tq_iconst (0 : Int32) rX0_init_67 (by decide) ?_
  refine tq_istore_n ([.ref 82, .int (0 : Int32)]) rX0_init_68 (Nat.le_of_ble_eq_true rfl) rfl ?_
  refine tq_iload_n rX0_init_69 rfl ?_
  refine tq_iconst (2 : Int32) rX0_init_70 (by decide) ?_
  refine tq_icmp_ge rX0_init_71 (fun h => absurd h (by decide)) (fun _ => ?_)
  refine tq_aload_n rX0_init_74 rfl ?_
  refine tq_getR (b := 85) rX0_init_75 f_X0_31 rfl (by decide +kernel) (by decide +kernel) ?_
  refine tq_iload_n rX0_init_78 rfl ?_
  refine tz_new 89 (ci := 3) rX0_init_79 (by decide) (nw_X0_29) (by decide +kernel) (by decide +kernel) ?_
  show tq_X _ _ _ _ _ _ _ Z288 _
  refine tq_dup rX0_init_82 rfl ?_
  refine tq_callI (as := []) (st := [.ref 89, .int (0 : Int32), .ref 85]) rX0_init_83 l_X0_53 moiX3_init ⟨rfl, miiX3_init, rfl⟩ rfl rfl (Nat.le_of_ble_eq_true rfl) (by decide +kernel) zc30 ?_
  rintro r9 s9 ⟨rfl, rfl⟩
  show tq_X _ _ _ _ _ _ [.ref 89, .int (0 : Int32), .ref 85] Z298 _
  refine tz_aast (ci := 3) (j := 0) rX0_init_86 (by decide +kernel) (by decide) (by decide +kernel) (by decide +kernel) (by decide) ?_
  show tq_X _ _ _ _ _ _ _ Z299 _
  refine tq_aload_n rX0_init_87 rfl ?_
  refine tq_getR (b := 86) rX0_init_88 f_X0_37 rfl (by decide +kernel) (by decide +kernel) ?_
  refine tq_iload_n rX0_init_91 rfl ?_
  refine tz_new 90 (ci := 10) rX0_init_92 (by decide) (nw_X0_35) (by decide +kernel) (by decide +kernel) ?_
  show tq_X _ _ _ _ _ _ _ Z300 _
  refine tq_dup rX0_init_95 rfl ?_
  refine tq_callI (as := []) (st := [.ref 90, .int (0 : Int32), .ref 86]) rX0_init_96 l_X0_54 moiX10_init ⟨rfl, miiX10_init, rfl⟩ rfl rfl (Nat.le_of_ble_eq_true rfl) (by decide +kernel) zc31 ?_
  rintro r9 s9 ⟨rfl, rfl⟩
  show tq_X _ _ _ _ _ _ [.ref 90, .int (0 : Int32), .ref 86] Z307 _
  refine tz_aast (ci := 10) (j := 0) rX0_init_99 (by decide +kernel) (by decide) (by decide +kernel) (by decide +kernel) (by decide) ?_
  show tq_X _ _ _ _ _ _ _ Z308 _
  refine tq_aload_n rX0_init_100 rfl ?_
  refine tq_getR (b := 87) rX0_init_101 f_X0_43 rfl (by decide +kernel) (by decide +kernel) ?_
  refine tq_iload_n rX0_init_104 rfl ?_
  refine tz_new 94 (ci := 4) rX0_init_105 (by decide) (nw_X0_41) (by decide +kernel) (by decide +kernel) ?_
  show tq_X _ _ _ _ _ _ _ Z309 _
  refine tq_dup rX0_init_108 rfl ?_
  refine tq_callI (as := []) (st := [.ref 94, .int (0 : Int32), .ref 87]) rX0_init_109 l_X0_55 moiX4_init ⟨rfl, miiX4_init, rfl⟩ rfl rfl (Nat.le_of_ble_eq_true rfl) (by decide +kernel) zc32 ?_
  rintro r9 s9 ⟨rfl, rfl⟩
  show tq_X _ _ _ _ _ _ [.ref 94, .int (0 : Int32), .ref 87] Z314 _
  refine tz_aast (ci := 4) (j := 0) rX0_init_112 (by decide +kernel) (by decide) (by decide +kernel) (by decide +kernel) (by decide) ?_
  show tq_X _ _ _ _ _ _ _ Z315 _
  refine tq_aload_n rX0_init_113 rfl ?_
  refine tq_getR (b := 88) rX0_init_114 f_X0_49 rfl (by decide +kernel) (by decide +kernel) ?_
  refine tq_iload_n rX0_init_117 rfl ?_
  refine tz_new 97 (ci := 9) rX0_init_118 (by decide) (nw_X0_47) (by decide +kernel) (by decide +kernel) ?_
  show tq_X _ _ _ _ _ _ _ Z316 _
  refine tq_dup rX0_init_121 rfl ?_
  refine tq_callI (as := []) (st := [.ref 97, .int (0 : Int32), .ref 88]) rX0_init_122 l_X0_56 moiX9_init ⟨rfl, miiX9_init, rfl⟩ rfl rfl (Nat.le_of_ble_eq_true rfl) (by decide +kernel) zc33 ?_
  rintro r9 s9 ⟨rfl, rfl⟩
  show tq_X _ _ _ _ _ _ [.ref 97, .int (0 : Int32), .ref 88] Z319 _
  refine tz_aast (ci := 9) (j := 0) rX0_init_125 (by decide +kernel) (by decide) (by decide +kernel) (by decide +kernel) (by decide) ?_
  show tq_X _ _ _ _ _ _ _ Z320 _
  refine tq_iinc (1 : Int32) ([.ref 82, .int (1 : Int32)]) rX0_init_126 rfl (by decide) (Nat.le_of_ble_eq_true rfl) rfl ?_
  refine tq_goto rX0_init_129 ?_
  refine tq_iload_n rX0_init_69 rfl ?_
  refine tq_iconst (2 : Int32) rX0_init_70 (by decide) ?_
  refine tq_icmp_ge rX0_init_71 (fun h => absurd h (by decide)) (fun _ => ?_)
  refine tq_aload_n rX0_init_74 rfl ?_
  refine tq_getR (b := 85) rX0_init_75 f_X0_31 rfl (by decide +kernel) (by decide +kernel) ?_
  refine tq_iload_n rX0_init_78 rfl ?_
  refine tz_new 99 (ci := 3) rX0_init_79 (by decide) (nw_X0_29) (by decide +kernel) (by decide +kernel) ?_
  show tq_X _ _ _ _ _ _ _ Z321 _
  refine tq_dup rX0_init_82 rfl ?_
  refine tq_callI (as := []) (st := [.ref 99, .int (1 : Int32), .ref 85]) rX0_init_83 l_X0_53 moiX3_init ⟨rfl, miiX3_init, rfl⟩ rfl rfl (Nat.le_of_ble_eq_true rfl) (by decide +kernel) zc34 ?_
  rintro r9 s9 ⟨rfl, rfl⟩
  show tq_X _ _ _ _ _ _ [.ref 99, .int (1 : Int32), .ref 85] Z331 _
  refine tz_aast (ci := 3) (j := 1) rX0_init_86 (by decide +kernel) (by decide) (by decide +kernel) (by decide +kernel) (by decide) ?_
  show tq_X _ _ _ _ _ _ _ Z332 _
  refine tq_aload_n rX0_init_87 rfl ?_
  refine tq_getR (b := 86) rX0_init_88 f_X0_37 rfl (by decide +kernel) (by decide +kernel) ?_
  refine tq_iload_n rX0_init_91 rfl ?_
  refine tz_new 100 (ci := 10) rX0_init_92 (by decide) (nw_X0_35) (by decide +kernel) (by decide +kernel) ?_
  show tq_X _ _ _ _ _ _ _ Z333 _
  refine tq_dup rX0_init_95 rfl ?_
  refine tq_callI (as := []) (st := [.ref 100, .int (1 : Int32), .ref 86]) rX0_init_96 l_X0_54 moiX10_init ⟨rfl, miiX10_init, rfl⟩ rfl rfl (Nat.le_of_ble_eq_true rfl) (by decide +kernel) zc35 ?_
  rintro r9 s9 ⟨rfl, rfl⟩
  show tq_X _ _ _ _ _ _ [.ref 100, .int (1 : Int32), .ref 86] Z340 _
  refine tz_aast (ci := 10) (j := 1) rX0_init_99 (by decide +kernel) (by decide) (by decide +kernel) (by decide +kernel) (by decide) ?_
  show tq_X _ _ _ _ _ _ _ Z341 _
  refine tq_aload_n rX0_init_100 rfl ?_
  refine tq_getR (b := 87) rX0_init_101 f_X0_43 rfl (by decide +kernel) (by decide +kernel) ?_
  refine tq_iload_n rX0_init_104 rfl ?_
  refine tz_new 104 (ci := 4) rX0_init_105 (by decide) (nw_X0_41) (by decide +kernel) (by decide +kernel) ?_
  show tq_X _ _ _ _ _ _ _ Z342 _
  refine tq_dup rX0_init_108 rfl ?_
  refine tq_callI (as := []) (st := [.ref 104, .int (1 : Int32), .ref 87]) rX0_init_109 l_X0_55 moiX4_init ⟨rfl, miiX4_init, rfl⟩ rfl rfl (Nat.le_of_ble_eq_true rfl) (by decide +kernel) zc36 ?_
  rintro r9 s9 ⟨rfl, rfl⟩
  show tq_X _ _ _ _ _ _ [.ref 104, .int (1 : Int32), .ref 87] Z347 _
  refine tz_aast (ci := 4) (j := 1) rX0_init_112 (by decide +kernel) (by decide) (by decide +kernel) (by decide +kernel) (by decide) ?_
  show tq_X _ _ _ _ _ _ _ Z348 _
  refine tq_aload_n rX0_init_113 rfl ?_
  refine tq_getR (b := 88) rX0_init_114 f_X0_49 rfl (by decide +kernel) (by decide +kernel) ?_
  refine tq_iload_n rX0_init_117 rfl ?_
  refine tz_new 107 (ci := 9) rX0_init_118 (by decide) (nw_X0_47) (by decide +kernel) (by decide +kernel) ?_
  show tq_X _ _ _ _ _ _ _ Z349 _
  refine tq_dup rX0_init_121 rfl ?_
  refine tq_callI (as := []) (st := [.ref 107, .int (1 : Int32), .ref 88]) rX0_init_122 l_X0_56 moiX9_init ⟨rfl, miiX9_init, rfl⟩ rfl rfl (Nat.le_of_ble_eq_true rfl) (by decide +kernel) zc37 ?_
  rintro r9 s9 ⟨rfl, rfl⟩
  show tq_X _ _ _ _ _ _ [.ref 107, .int (1 : Int32), .ref 88] Z352 _
  refine tz_aast (ci := 9) (j := 1) rX0_init_125 (by decide +kernel) (by decide) (by decide +kernel) (by decide +kernel) (by decide) ?_
  show tq_X _ _ _ _ _ _ _ Z353 _
  refine tq_iinc (2 : Int32) ([.ref 82, .int (2 : Int32)]) rX0_init_126 rfl (by decide) (Nat.le_of_ble_eq_true rfl) rfl ?_
  refine tq_goto rX0_init_129 ?_
  refine tq_iload_n rX0_init_69 rfl ?_
  refine tq_iconst (2 : Int32) rX0_init_70 (by decide) ?_
  refine tq_icmp_ge rX0_init_71 (fun _ => ?_) (fun h => absurd (by decide) h)
  exact tq_vret rX0_init_132 rfl (by decide +kernel) ⟨rfl, rfl⟩

set_option maxRecDepth 100000 in
set_option maxHeartbeats 4000000 in
theorem zc39 {S : Nat × (Nat → Int32)} {d : Nat} : tq_C S miX3_init (d + 1) [.ref 116] Z371 (fun r σ => r = none ∧ σ = Z381) := by
  refine tq_C_of (by decide) (Nat.le_of_ble_eq_true rfl) (ls := [.ref 116]) rfl ?_
  refine tq_aload_n rX3_init_0 rfl ?_
  refine tq_objInit rX3_init_1 (Nat.le_of_ble_eq_true rfl) (ob_X3_3) ?_
  refine tq_aload_n rX3_init_4 rfl ?_
  refine tq_iconst (0 : Int32) rX3_init_5 (by decide) ?_
  refine tq_putI rX3_init_6 f_X3_9 rfl (by decide +kernel) rfl ?_
  show tq_X _ _ _ _ _ _ _ Z372 _
  refine tq_aload_n rX3_init_9 rfl ?_
  refine tq_iconst (0 : Int32) rX3_init_10 (by decide) ?_
  refine tq_putI rX3_init_11 f_X3_15 rfl (by decide +kernel) rfl ?_
  show tq_X _ _ _ _ _ _ _ Z373 _
  refine tq_aload_n rX3_init_14 rfl ?_
  refine tq_lconst (0 : Int64) rX3_init_15 (by decide) ?_
  refine tq_putL rX3_init_16 f_X3_18 rfl (by decide +kernel) rfl ?_
  show tq_X _ _ _ _ _ _ _ Z374 _
  refine tq_aload_n rX3_init_19 rfl ?_
  refine tq_lconst (0 : Int64) rX3_init_20 (by decide) ?_
  refine tq_putL rX3_init_21 f_X3_22 rfl (by decide +kernel) rfl ?_
  show tq_X _ _ _ _ _ _ _ Z375 _
  refine tq_aload_n rX3_init_24 rfl ?_
  refine tq_lconst (0 : Int64) rX3_init_25 (by decide) ?_
  refine tq_putL rX3_init_26 f_X3_25 rfl (by decide +kernel) rfl ?_
  show tq_X _ _ _ _ _ _ _ Z376 _
  refine tq_aload_n rX3_init_29 rfl ?_
  refine tq_lconst (0 : Int64) rX3_init_30 (by decide) ?_
  refine tq_putL rX3_init_31 f_X3_28 rfl (by decide +kernel) rfl ?_
  show tq_X _ _ _ _ _ _ _ Z377 _
  refine tq_aload_n rX3_init_34 rfl ?_
  refine tq_lconst (0 : Int64) rX3_init_35 (by decide) ?_
  refine tq_putL rX3_init_36 f_X3_31 rfl (by decide +kernel) rfl ?_
  show tq_X _ _ _ _ _ _ _ Z378 _
  refine tq_aload_n rX3_init_39 rfl ?_
  refine tq_lconst (0 : Int64) rX3_init_40 (by decide) ?_
  refine tq_putL rX3_init_41 f_X3_34 rfl (by decide +kernel) rfl ?_
  show tq_X _ _ _ _ _ _ _ Z379 _
  refine tq_aload_n rX3_init_44 rfl ?_
  refine tq_lconst (0 : Int64) rX3_init_45 (by decide) ?_
  refine tq_putL rX3_init_46 f_X3_37 rfl (by decide +kernel) rfl ?_
  show tq_X _ _ _ _ _ _ _ Z380 _
  refine tq_aload_n rX3_init_49 rfl ?_
  refine tq_lconst (0 : Int64) rX3_init_50 (by decide) ?_
  refine tq_putL rX3_init_51 f_X3_40 rfl (by decide +kernel) rfl ?_
  show tq_X _ _ _ _ _ _ _ Z381 _
  exact tq_vret rX3_init_54 rfl (by decide +kernel) ⟨rfl, rfl⟩

set_option maxRecDepth 100000 in
set_option maxHeartbeats 4000000 in
theorem zc40 {S : Nat × (Nat → Int32)} {d : Nat} : tq_C S miX10_init (d + 1) [.ref 117] Z383 (fun r σ => r = none ∧ σ = Z390) := by
  refine tq_C_of (by decide) (Nat.le_of_ble_eq_true rfl) (ls := [.ref 117]) rfl ?_
  refine tq_aload_n rX10_init_0 rfl ?_
  refine tq_objInit rX10_init_1 (Nat.le_of_ble_eq_true rfl) (ob_X10_3) ?_
  refine tq_aload_n rX10_init_4 rfl ?_
  refine tq_iconst (0 : Int32) rX10_init_5 (by decide) ?_
  refine tq_putI rX10_init_6 f_X10_9 rfl (by decide +kernel) rfl ?_
  show tq_X _ _ _ _ _ _ _ Z384 _
  refine tq_aload_n rX10_init_9 rfl ?_
  refine tq_bipush (40 : Int32) rX10_init_10 (by decide) ?_
  refine tz_newa 118 (t := 100) (n := 40) rX10_init_12 (by decide) (na_100) (by decide) (by decide) (by decide +kernel) (by decide +kernel) ?_
  show tq_X _ _ _ _ _ _ _ Z385 _
  refine tq_putR rX10_init_14 f_X10_15 ⟨rfl, fun _ => ⟨rfl, rfl⟩⟩ (by decide +kernel) (ff_X10_15) ?_
  show tq_X _ _ _ _ _ _ _ Z386 _
  refine tq_aload_n rX10_init_17 rfl ?_
  refine tq_bipush (40 : Int32) rX10_init_18 (by decide) ?_
  refine tz_newa 119 (t := 100) (n := 40) rX10_init_20 (by decide) (na_100) (by decide) (by decide) (by decide +kernel) (by decide +kernel) ?_
  show tq_X _ _ _ _ _ _ _ Z387 _
  refine tq_putR rX10_init_22 f_X10_19 ⟨rfl, fun _ => ⟨rfl, rfl⟩⟩ (by decide +kernel) (ff_X10_19) ?_
  show tq_X _ _ _ _ _ _ _ Z388 _
  refine tq_aload_n rX10_init_25 rfl ?_
  refine tq_bipush (40 : Int32) rX10_init_26 (by decide) ?_
  refine tz_newa 120 (t := 100) (n := 40) rX10_init_28 (by decide) (na_100) (by decide) (by decide) (by decide +kernel) (by decide +kernel) ?_
  show tq_X _ _ _ _ _ _ _ Z389 _
  refine tq_putR rX10_init_30 f_X10_22 ⟨rfl, fun _ => ⟨rfl, rfl⟩⟩ (by decide +kernel) (ff_X10_22) ?_
  show tq_X _ _ _ _ _ _ _ Z390 _
  exact tq_vret rX10_init_33 rfl (by decide +kernel) ⟨rfl, rfl⟩

set_option maxRecDepth 100000 in
set_option maxHeartbeats 4000000 in
theorem zc41 {S : Nat × (Nat → Int32)} {d : Nat} : tq_C S miX4_init (d + 1) [.ref 121] Z392 (fun r σ => r = none ∧ σ = Z397) := by
  refine tq_C_of (by decide) (Nat.le_of_ble_eq_true rfl) (ls := [.ref 121]) rfl ?_
  refine tq_aload_n rX4_init_0 rfl ?_
  refine tq_objInit rX4_init_1 (Nat.le_of_ble_eq_true rfl) (ob_X4_3) ?_
  refine tq_aload_n rX4_init_4 rfl ?_
  refine tq_iconst (0 : Int32) rX4_init_5 (by decide) ?_
  refine tq_putI rX4_init_6 f_X4_9 rfl (by decide +kernel) rfl ?_
  show tq_X _ _ _ _ _ _ _ Z393 _
  refine tq_aload_n rX4_init_9 rfl ?_
  refine tq_bipush (8 : Int32) rX4_init_10 (by decide) ?_
  refine tz_newa 122 (t := 100) (n := 8) rX4_init_12 (by decide) (na_100) (by decide) (by decide) (by decide +kernel) (by decide +kernel) ?_
  show tq_X _ _ _ _ _ _ _ Z394 _
  refine tq_putR rX4_init_14 f_X4_15 ⟨rfl, fun _ => ⟨rfl, rfl⟩⟩ (by decide +kernel) (ff_X4_15) ?_
  show tq_X _ _ _ _ _ _ _ Z395 _
  refine tq_aload_n rX4_init_17 rfl ?_
  refine tq_bipush (8 : Int32) rX4_init_18 (by decide) ?_
  refine tz_newa 123 (t := 100) (n := 8) rX4_init_20 (by decide) (na_100) (by decide) (by decide) (by decide +kernel) (by decide +kernel) ?_
  show tq_X _ _ _ _ _ _ _ Z396 _
  refine tq_putR rX4_init_22 f_X4_19 ⟨rfl, fun _ => ⟨rfl, rfl⟩⟩ (by decide +kernel) (ff_X4_19) ?_
  show tq_X _ _ _ _ _ _ _ Z397 _
  exact tq_vret rX4_init_25 rfl (by decide +kernel) ⟨rfl, rfl⟩

set_option maxRecDepth 100000 in
set_option maxHeartbeats 4000000 in
theorem zc42 {S : Nat × (Nat → Int32)} {d : Nat} : tq_C S miX9_init (d + 1) [.ref 124] Z399 (fun r σ => r = none ∧ σ = Z402) := by
  refine tq_C_of (by decide) (Nat.le_of_ble_eq_true rfl) (ls := [.ref 124]) rfl ?_
  refine tq_aload_n rX9_init_0 rfl ?_
  refine tq_objInit rX9_init_1 (Nat.le_of_ble_eq_true rfl) (ob_X9_3) ?_
  refine tq_aload_n rX9_init_4 rfl ?_
  refine tq_iconst (0 : Int32) rX9_init_5 (by decide) ?_
  refine tq_putI rX9_init_6 f_X9_9 rfl (by decide +kernel) rfl ?_
  show tq_X _ _ _ _ _ _ _ Z400 _
  refine tq_aload_n rX9_init_9 rfl ?_
  refine tq_bipush (8 : Int32) rX9_init_10 (by decide) ?_
  refine tz_newa 125 (t := 100) (n := 8) rX9_init_12 (by decide) (na_100) (by decide) (by decide) (by decide +kernel) (by decide +kernel) ?_
  show tq_X _ _ _ _ _ _ _ Z401 _
  refine tq_putR rX9_init_14 f_X9_15 ⟨rfl, fun _ => ⟨rfl, rfl⟩⟩ (by decide +kernel) (ff_X9_15) ?_
  show tq_X _ _ _ _ _ _ _ Z402 _
  exact tq_vret rX9_init_17 rfl (by decide +kernel) ⟨rfl, rfl⟩

set_option maxRecDepth 100000 in
set_option maxHeartbeats 4000000 in
theorem zc43 {S : Nat × (Nat → Int32)} {d : Nat} : tq_C S miX3_init (d + 1) [.ref 126] Z404 (fun r σ => r = none ∧ σ = Z414) := by
  refine tq_C_of (by decide) (Nat.le_of_ble_eq_true rfl) (ls := [.ref 126]) rfl ?_
  refine tq_aload_n rX3_init_0 rfl ?_
  refine tq_objInit rX3_init_1 (Nat.le_of_ble_eq_true rfl) (ob_X3_3) ?_
  refine tq_aload_n rX3_init_4 rfl ?_
  refine tq_iconst (0 : Int32) rX3_init_5 (by decide) ?_
  refine tq_putI rX3_init_6 f_X3_9 rfl (by decide +kernel) rfl ?_
  show tq_X _ _ _ _ _ _ _ Z405 _
  refine tq_aload_n rX3_init_9 rfl ?_
  refine tq_iconst (0 : Int32) rX3_init_10 (by decide) ?_
  refine tq_putI rX3_init_11 f_X3_15 rfl (by decide +kernel) rfl ?_
  show tq_X _ _ _ _ _ _ _ Z406 _
  refine tq_aload_n rX3_init_14 rfl ?_
  refine tq_lconst (0 : Int64) rX3_init_15 (by decide) ?_
  refine tq_putL rX3_init_16 f_X3_18 rfl (by decide +kernel) rfl ?_
  show tq_X _ _ _ _ _ _ _ Z407 _
  refine tq_aload_n rX3_init_19 rfl ?_
  refine tq_lconst (0 : Int64) rX3_init_20 (by decide) ?_
  refine tq_putL rX3_init_21 f_X3_22 rfl (by decide +kernel) rfl ?_
  show tq_X _ _ _ _ _ _ _ Z408 _
  refine tq_aload_n rX3_init_24 rfl ?_
  refine tq_lconst (0 : Int64) rX3_init_25 (by decide) ?_
  refine tq_putL rX3_init_26 f_X3_25 rfl (by decide +kernel) rfl ?_
  show tq_X _ _ _ _ _ _ _ Z409 _
  refine tq_aload_n rX3_init_29 rfl ?_
  refine tq_lconst (0 : Int64) rX3_init_30 (by decide) ?_
  refine tq_putL rX3_init_31 f_X3_28 rfl (by decide +kernel) rfl ?_
  show tq_X _ _ _ _ _ _ _ Z410 _
  refine tq_aload_n rX3_init_34 rfl ?_
  refine tq_lconst (0 : Int64) rX3_init_35 (by decide) ?_
  refine tq_putL rX3_init_36 f_X3_31 rfl (by decide +kernel) rfl ?_
  show tq_X _ _ _ _ _ _ _ Z411 _
  refine tq_aload_n rX3_init_39 rfl ?_
  refine tq_lconst (0 : Int64) rX3_init_40 (by decide) ?_
  refine tq_putL rX3_init_41 f_X3_34 rfl (by decide +kernel) rfl ?_
  show tq_X _ _ _ _ _ _ _ Z412 _
  refine tq_aload_n rX3_init_44 rfl ?_
  refine tq_lconst (0 : Int64) rX3_init_45 (by decide) ?_
  refine tq_putL rX3_init_46 f_X3_37 rfl (by decide +kernel) rfl ?_
  show tq_X _ _ _ _ _ _ _ Z413 _
  refine tq_aload_n rX3_init_49 rfl ?_
  refine tq_lconst (0 : Int64) rX3_init_50 (by decide) ?_
  refine tq_putL rX3_init_51 f_X3_40 rfl (by decide +kernel) rfl ?_
  show tq_X _ _ _ _ _ _ _ Z414 _
  exact tq_vret rX3_init_54 rfl (by decide +kernel) ⟨rfl, rfl⟩

set_option maxRecDepth 100000 in
set_option maxHeartbeats 4000000 in
theorem zc44 {S : Nat × (Nat → Int32)} {d : Nat} : tq_C S miX10_init (d + 1) [.ref 127] Z416 (fun r σ => r = none ∧ σ = Z423) := by
  refine tq_C_of (by decide) (Nat.le_of_ble_eq_true rfl) (ls := [.ref 127]) rfl ?_
  refine tq_aload_n rX10_init_0 rfl ?_
  refine tq_objInit rX10_init_1 (Nat.le_of_ble_eq_true rfl) (ob_X10_3) ?_
  refine tq_aload_n rX10_init_4 rfl ?_
  refine tq_iconst (0 : Int32) rX10_init_5 (by decide) ?_
  refine tq_putI rX10_init_6 f_X10_9 rfl (by decide +kernel) rfl ?_
  show tq_X _ _ _ _ _ _ _ Z417 _
  refine tq_aload_n rX10_init_9 rfl ?_
  refine tq_bipush (40 : Int32) rX10_init_10 (by decide) ?_
  refine tz_newa 128 (t := 100) (n := 40) rX10_init_12 (by decide) (na_100) (by decide) (by decide) (by decide +kernel) (by decide +kernel) ?_
  show tq_X _ _ _ _ _ _ _ Z418 _
  refine tq_putR rX10_init_14 f_X10_15 ⟨rfl, fun _ => ⟨rfl, rfl⟩⟩ (by decide +kernel) (ff_X10_15) ?_
  show tq_X _ _ _ _ _ _ _ Z419 _
  refine tq_aload_n rX10_init_17 rfl ?_
  refine tq_bipush (40 : Int32) rX10_init_18 (by decide) ?_
  refine tz_newa 129 (t := 100) (n := 40) rX10_init_20 (by decide) (na_100) (by decide) (by decide) (by decide +kernel) (by decide +kernel) ?_
  show tq_X _ _ _ _ _ _ _ Z420 _
  refine tq_putR rX10_init_22 f_X10_19 ⟨rfl, fun _ => ⟨rfl, rfl⟩⟩ (by decide +kernel) (ff_X10_19) ?_
  show tq_X _ _ _ _ _ _ _ Z421 _
  refine tq_aload_n rX10_init_25 rfl ?_
  refine tq_bipush (40 : Int32) rX10_init_26 (by decide) ?_
  refine tz_newa 130 (t := 100) (n := 40) rX10_init_28 (by decide) (na_100) (by decide) (by decide) (by decide +kernel) (by decide +kernel) ?_
  show tq_X _ _ _ _ _ _ _ Z422 _
  refine tq_putR rX10_init_30 f_X10_22 ⟨rfl, fun _ => ⟨rfl, rfl⟩⟩ (by decide +kernel) (ff_X10_22) ?_
  show tq_X _ _ _ _ _ _ _ Z423 _
  exact tq_vret rX10_init_33 rfl (by decide +kernel) ⟨rfl, rfl⟩

set_option maxRecDepth 100000 in
set_option maxHeartbeats 4000000 in
theorem zc45 {S : Nat × (Nat → Int32)} {d : Nat} : tq_C S miX4_init (d + 1) [.ref 131] Z425 (fun r σ => r = none ∧ σ = Z430) := by
  refine tq_C_of (by decide) (Nat.le_of_ble_eq_true rfl) (ls := [.ref 131]) rfl ?_
  refine tq_aload_n rX4_init_0 rfl ?_
  refine tq_objInit rX4_init_1 (Nat.le_of_ble_eq_true rfl) (ob_X4_3) ?_
  refine tq_aload_n rX4_init_4 rfl ?_
  refine tq_iconst (0 : Int32) rX4_init_5 (by decide) ?_
  refine tq_putI rX4_init_6 f_X4_9 rfl (by decide +kernel) rfl ?_
  show tq_X _ _ _ _ _ _ _ Z426 _
  refine tq_aload_n rX4_init_9 rfl ?_
  refine tq_bipush (8 : Int32) rX4_init_10 (by decide) ?_
  refine tz_newa 132 (t := 100) (n := 8) rX4_init_12 (by decide) (na_100) (by decide) (by decide) (by decide +kernel) (by decide +kernel) ?_
  show tq_X _ _ _ _ _ _ _ Z427 _
  refine tq_putR rX4_init_14 f_X4_15 ⟨rfl, fun _ => ⟨rfl, rfl⟩⟩ (by decide +kernel) (ff_X4_15) ?_
  show tq_X _ _ _ _ _ _ _ Z428 _
  refine tq_aload_n rX4_init_17 rfl ?_
  refine tq_bipush (8 : Int32) rX4_init_18 (by decide) ?_
  refine tz_newa 133 (t := 100) (n := 8) rX4_init_20 (by decide) (na_100) (by decide) (by decide) (by decide +kernel) (by decide +kernel) ?_
  show tq_X _ _ _ _ _ _ _ Z429 _
  refine tq_putR rX4_init_22 f_X4_19 ⟨rfl, fun _ => ⟨rfl, rfl⟩⟩ (by decide +kernel) (ff_X4_19) ?_
  show tq_X _ _ _ _ _ _ _ Z430 _
  exact tq_vret rX4_init_25 rfl (by decide +kernel) ⟨rfl, rfl⟩

set_option maxRecDepth 100000 in
set_option maxHeartbeats 4000000 in
theorem zc46 {S : Nat × (Nat → Int32)} {d : Nat} : tq_C S miX9_init (d + 1) [.ref 134] Z432 (fun r σ => r = none ∧ σ = Z435) := by
  refine tq_C_of (by decide) (Nat.le_of_ble_eq_true rfl) (ls := [.ref 134]) rfl ?_
  refine tq_aload_n rX9_init_0 rfl ?_
  refine tq_objInit rX9_init_1 (Nat.le_of_ble_eq_true rfl) (ob_X9_3) ?_
  refine tq_aload_n rX9_init_4 rfl ?_
  refine tq_iconst (0 : Int32) rX9_init_5 (by decide) ?_
  refine tq_putI rX9_init_6 f_X9_9 rfl (by decide +kernel) rfl ?_
  show tq_X _ _ _ _ _ _ _ Z433 _
  refine tq_aload_n rX9_init_9 rfl ?_
  refine tq_bipush (8 : Int32) rX9_init_10 (by decide) ?_
  refine tz_newa 135 (t := 100) (n := 8) rX9_init_12 (by decide) (na_100) (by decide) (by decide) (by decide +kernel) (by decide +kernel) ?_
  show tq_X _ _ _ _ _ _ _ Z434 _
  refine tq_putR rX9_init_14 f_X9_15 ⟨rfl, fun _ => ⟨rfl, rfl⟩⟩ (by decide +kernel) (ff_X9_15) ?_
  show tq_X _ _ _ _ _ _ _ Z435 _
  exact tq_vret rX9_init_17 rfl (by decide +kernel) ⟨rfl, rfl⟩

set_option maxRecDepth 100000 in
set_option maxHeartbeats 4000000 in
theorem zc47 {S : Nat × (Nat → Int32)} {d : Nat} : tq_C S miX0_init (d + 2) [.ref 109] Z355 (fun r σ => r = none ∧ σ = Z436) := by
  refine tq_C_of (by decide) (Nat.le_of_ble_eq_true rfl) (ls := [.ref 109, tq_u]) rfl ?_
  refine tq_aload_n rX0_init_0 rfl ?_
  refine tq_objInit rX0_init_1 (Nat.le_of_ble_eq_true rfl) (ob_X0_3) ?_
  refine tq_aload_n rX0_init_4 rfl ?_
  refine tq_sipush (600 : Int32) rX0_init_5 (by decide) ?_
  refine tz_newa 110 (t := 102) (n := 600) rX0_init_8 (by decide) (na_102) (by decide) (by decide) (by decide +kernel) (by decide +kernel) ?_
  show tq_X _ _ _ _ _ _ _ Z356 _
  refine tq_putR rX0_init_10 f_X0_9 ⟨rfl, fun _ => ⟨rfl, rfl⟩⟩ (by decide +kernel) (ff_X0_9) ?_
  show tq_X _ _ _ _ _ _ _ Z357 _
  refine tq_aload_n rX0_init_13 rfl ?_
  refine tq_iconst (0 : Int32) rX0_init_14 (by decide) ?_
  refine tq_putI rX0_init_15 f_X0_15 rfl (by decide +kernel) rfl ?_
  show tq_X _ _ _ _ _ _ _ Z358 _
  refine tq_aload_n rX0_init_18 rfl ?_
  refine tq_iconst (0 : Int32) rX0_init_19 (by decide) ?_
  refine tq_putI rX0_init_20 f_X0_19 rfl (by decide +kernel) rfl ?_
  show tq_X _ _ _ _ _ _ _ Z359 _
  refine tq_aload_n rX0_init_23 rfl ?_
  refine tq_iconst (-1 : Int32) rX0_init_24 (by decide) ?_
  refine tq_putI rX0_init_25 f_X0_22 rfl (by decide +kernel) rfl ?_
  show tq_X _ _ _ _ _ _ _ Z360 _
  refine tq_aload_n rX0_init_28 rfl ?_
  refine tq_iconst (4 : Int32) rX0_init_29 (by decide) ?_
  refine tz_newa 111 (t := 100) (n := 4) rX0_init_30 (by decide) (na_100) (by decide) (by decide) (by decide +kernel) (by decide +kernel) ?_
  show tq_X _ _ _ _ _ _ _ Z361 _
  refine tq_putR rX0_init_32 f_X0_25 ⟨rfl, fun _ => ⟨rfl, rfl⟩⟩ (by decide +kernel) (ff_X0_25) ?_
  show tq_X _ _ _ _ _ _ _ Z362 _
  refine tq_aload_n rX0_init_35 rfl ?_
  refine tq_iconst (2 : Int32) rX0_init_36 (by decide) ?_
  refine tz_anew 112 (ci := 3) (n := 2) rX0_init_37 (by decide) (aw_X0_29) (by decide) (by decide) (by decide +kernel) (by decide +kernel) ?_
  show tq_X _ _ _ _ _ _ _ Z363 _
  refine tq_putR rX0_init_40 f_X0_31 ⟨rfl, fun _ => ⟨rfl, rfl⟩⟩ (by decide +kernel) (ff_X0_31) ?_
  show tq_X _ _ _ _ _ _ _ Z364 _
  refine tq_aload_n rX0_init_43 rfl ?_
  refine tq_iconst (2 : Int32) rX0_init_44 (by decide) ?_
  refine tz_anew 113 (ci := 10) (n := 2) rX0_init_45 (by decide) (aw_X0_35) (by decide) (by decide) (by decide +kernel) (by decide +kernel) ?_
  show tq_X _ _ _ _ _ _ _ Z365 _
  refine tq_putR rX0_init_48 f_X0_37 ⟨rfl, fun _ => ⟨rfl, rfl⟩⟩ (by decide +kernel) (ff_X0_37) ?_
  show tq_X _ _ _ _ _ _ _ Z366 _
  refine tq_aload_n rX0_init_51 rfl ?_
  refine tq_iconst (2 : Int32) rX0_init_52 (by decide) ?_
  refine tz_anew 114 (ci := 4) (n := 2) rX0_init_53 (by decide) (aw_X0_41) (by decide) (by decide) (by decide +kernel) (by decide +kernel) ?_
  show tq_X _ _ _ _ _ _ _ Z367 _
  refine tq_putR rX0_init_56 f_X0_43 ⟨rfl, fun _ => ⟨rfl, rfl⟩⟩ (by decide +kernel) (ff_X0_43) ?_
  show tq_X _ _ _ _ _ _ _ Z368 _
  refine tq_aload_n rX0_init_59 rfl ?_
  refine tq_iconst (2 : Int32) rX0_init_60 (by decide) ?_
  refine tz_anew 115 (ci := 9) (n := 2) rX0_init_61 (by decide) (aw_X0_47) (by decide) (by decide) (by decide +kernel) (by decide +kernel) ?_
  show tq_X _ _ _ _ _ _ _ Z369 _
  refine tq_putR rX0_init_64 f_X0_49 ⟨rfl, fun _ => ⟨rfl, rfl⟩⟩ (by decide +kernel) (ff_X0_49) ?_
  show tq_X _ _ _ _ _ _ _ Z370 _
  refine tq_iconst (0 : Int32) rX0_init_67 (by decide) ?_
  refine tq_istore_n ([.ref 109, .int (0 : Int32)]) rX0_init_68 (Nat.le_of_ble_eq_true rfl) rfl ?_
  refine tq_iload_n rX0_init_69 rfl ?_
  refine tq_iconst (2 : Int32) rX0_init_70 (by decide) ?_
  refine tq_icmp_ge rX0_init_71 (fun h => absurd h (by decide)) (fun _ => ?_)
  refine tq_aload_n rX0_init_74 rfl ?_
  refine tq_getR (b := 112) rX0_init_75 f_X0_31 rfl (by decide +kernel) (by decide +kernel) ?_
  refine tq_iload_n rX0_init_78 rfl ?_
  refine tz_new 116 (ci := 3) rX0_init_79 (by decide) (nw_X0_29) (by decide +kernel) (by decide +kernel) ?_
  show tq_X _ _ _ _ _ _ _ Z371 _
  refine tq_dup rX0_init_82 rfl ?_
  refine tq_callI (as := []) (st := [.ref 116, .int (0 : Int32), .ref 112]) rX0_init_83 l_X0_53 moiX3_init ⟨rfl, miiX3_init, rfl⟩ rfl rfl (Nat.le_of_ble_eq_true rfl) (by decide +kernel) zc39 ?_
  rintro r9 s9 ⟨rfl, rfl⟩
  show tq_X _ _ _ _ _ _ [.ref 116, .int (0 : Int32), .ref 112] Z381 _
  refine tz_aast (ci := 3) (j := 0) rX0_init_86 (by decide +kernel) (by decide) (by decide +kernel) (by decide +kernel) (by decide) ?_
  show tq_X _ _ _ _ _ _ _ Z382 _
  refine tq_aload_n rX0_init_87 rfl ?_
  refine tq_getR (b := 113) rX0_init_88 f_X0_37 rfl (by decide +kernel) (by decide +kernel) ?_
  refine tq_iload_n rX0_init_91 rfl ?_
  refine tz_new 117 (ci := 10) rX0_init_92 (by decide) (nw_X0_35) (by decide +kernel) (by decide +kernel) ?_
  show tq_X _ _ _ _ _ _ _ Z383 _
  refine tq_dup rX0_init_95 rfl ?_
  refine tq_callI (as := []) (st := [.ref 117, .int (0 : Int32), .ref 113]) rX0_init_96 l_X0_54 moiX10_init ⟨rfl, miiX10_init, rfl⟩ rfl rfl (Nat.le_of_ble_eq_true rfl) (by decide +kernel) zc40 ?_
  rintro r9 s9 ⟨rfl, rfl⟩
  show tq_X _ _ _ _ _ _ [.ref 117, .int (0 : Int32), .ref 113] Z390 _
  refine tz_aast (ci := 10) (j := 0) rX0_init_99 (by decide +kernel) (by decide) (by decide +kernel) (by decide +kernel) (by decide) ?_
  show tq_X _ _ _ _ _ _ _ Z391 _
  refine tq_aload_n rX0_init_100 rfl ?_
  refine tq_getR (b := 114) rX0_init_101 f_X0_43 rfl (by decide +kernel) (by decide +kernel) ?_
  refine tq_iload_n rX0_init_104 rfl ?_
  refine tz_new 121 (ci := 4) rX0_init_105 (by decide) (nw_X0_41) (by decide +kernel) (by decide +kernel) ?_
  show tq_X _ _ _ _ _ _ _ Z392 _
  refine tq_dup rX0_init_108 rfl ?_
  refine tq_callI (as := []) (st := [.ref 121, .int (0 : Int32), .ref 114]) rX0_init_109 l_X0_55 moiX4_init ⟨rfl, miiX4_init, rfl⟩ rfl rfl (Nat.le_of_ble_eq_true rfl) (by decide +kernel) zc41 ?_
  rintro r9 s9 ⟨rfl, rfl⟩
  show tq_X _ _ _ _ _ _ [.ref 121, .int (0 : Int32), .ref 114] Z397 _
  refine tz_aast (ci := 4) (j := 0) rX0_init_112 (by decide +kernel) (by decide) (by decide +kernel) (by decide +kernel) (by decide) ?_
  show tq_X _ _ _ _ _ _ _ Z398 _
  refine tq_aload_n rX0_init_113 rfl ?_
  refine tq_getR (b := 115) rX0_init_114 f_X0_49 rfl (by decide +kernel) (by decide +kernel) ?_
  refine tq_iload_n rX0_init_117 rfl ?_
  refine tz_new 124 (ci := 9) rX0_init_118 (by decide) (nw_X0_47) (by decide +kernel) (by decide +kernel) ?_
  show tq_X _ _ _ _ _ _ _ Z399 _
  refine tq_dup rX0_init_121 rfl ?_
  refine tq_callI (as := []) (st := [.ref 124, .int (0 : Int32), .ref 115]) rX0_init_122 l_X0_56 moiX9_init ⟨rfl, miiX9_init, rfl⟩ rfl rfl (Nat.le_of_ble_eq_true rfl) (by decide +kernel) zc42 ?_
  rintro r9 s9 ⟨rfl, rfl⟩
  show tq_X _ _ _ _ _ _ [.ref 124, .int (0 : Int32), .ref 115] Z402 _
  refine tz_aast (ci := 9) (j := 0) rX0_init_125 (by decide +kernel) (by decide) (by decide +kernel) (by decide +kernel) (by decide) ?_
  show tq_X _ _ _ _ _ _ _ Z403 _
  refine tq_iinc (1 : Int32) ([.ref 109, .int (1 : Int32)]) rX0_init_126 rfl (by decide) (Nat.le_of_ble_eq_true rfl) rfl ?_
  refine tq_goto rX0_init_129 ?_
  refine tq_iload_n rX0_init_69 rfl ?_
  refine tq_iconst (2 : Int32) rX0_init_70 (by decide) ?_
  refine tq_icmp_ge rX0_init_71 (fun h => absurd h (by decide)) (fun _ => ?_)
  refine tq_aload_n rX0_init_74 rfl ?_
  refine tq_getR (b := 112) rX0_init_75 f_X0_31 rfl (by decide +kernel) (by decide +kernel) ?_
  refine tq_iload_n rX0_init_78 rfl ?_
  refine tz_new 126 (ci := 3) rX0_init_79 (by decide) (nw_X0_29) (by decide +kernel) (by decide +kernel) ?_
  show tq_X _ _ _ _ _ _ _ Z404 _
  refine tq_dup rX0_init_82 rfl ?_
  refine tq_callI (as := []) (st := [.ref 126, .int (1 : Int32), .ref 112]) rX0_init_83 l_X0_53 moiX3_init ⟨rfl, miiX3_init, rfl⟩ rfl rfl (Nat.le_of_ble_eq_true rfl) (by decide +kernel) zc43 ?_
  rintro r9 s9 ⟨rfl, rfl⟩
  show tq_X _ _ _ _ _ _ [.ref 126, .int (1 : Int32), .ref 112] Z414 _
  refine tz_aast (ci := 3) (j := 1) rX0_init_86 (by decide +kernel) (by decide) (by decide +kernel) (by decide +kernel) (by decide) ?_
  show tq_X _ _ _ _ _ _ _ Z415 _
  refine tq_aload_n rX0_init_87 rfl ?_
  refine tq_getR (b := 113) rX0_init_88 f_X0_37 rfl (by decide +kernel) (by decide +kernel) ?_
  refine tq_iload_n rX0_init_91 rfl ?_
  refine tz_new 127 (ci := 10) rX0_init_92 (by decide) (nw_X0_35) (by decide +kernel) (by decide +kernel) ?_
  show tq_X _ _ _ _ _ _ _ Z416 _
  refine tq_dup rX0_init_95 rfl ?_
  refine tq_callI (as := []) (st := [.ref 127, .int (1 : Int32), .ref 113]) rX0_init_96 l_X0_54 moiX10_init ⟨rfl, miiX10_init, rfl⟩ rfl rfl (Nat.le_of_ble_eq_true rfl) (by decide +kernel) zc44 ?_
  rintro r9 s9 ⟨rfl, rfl⟩
  show tq_X _ _ _ _ _ _ [.ref 127, .int (1 : Int32), .ref 113] Z423 _
  refine tz_aast (ci := 10) (j := 1) rX0_init_99 (by decide +kernel) (by decide) (by decide +kernel) (by decide +kernel) (by decide) ?_
  show tq_X _ _ _ _ _ _ _ Z424 _
  refine tq_aload_n rX0_init_100 rfl ?_
  refine tq_getR (b := 114) rX0_init_101 f_X0_43 rfl (by decide +kernel) (by decide +kernel) ?_
  refine tq_iload_n rX0_init_104 rfl ?_
  refine tz_new 131 (ci := 4) rX0_init_105 (by decide) (nw_X0_41) (by decide +kernel) (by decide +kernel) ?_
  show tq_X _ _ _ _ _ _ _ Z425 _
  refine tq_dup rX0_init_108 rfl ?_
  refine tq_callI (as := []) (st := [.ref 131, .int (1 : Int32), .ref 114]) rX0_init_109 l_X0_55 moiX4_init ⟨rfl, miiX4_init, rfl⟩ rfl rfl (Nat.le_of_ble_eq_true rfl) (by decide +kernel) zc45 ?_
  rintro r9 s9 ⟨rfl, rfl⟩
  show tq_X _ _ _ _ _ _ [.ref 131, .int (1 : Int32), .ref 114] Z430 _
  refine tz_aast (ci := 4) (j := 1) rX0_init_112 (by decide +kernel) (by decide) (by decide +kernel) (by decide +kernel) (by decide) ?_
  show tq_X _ _ _ _ _ _ _ Z431 _
  refine tq_aload_n rX0_init_113 rfl ?_
  refine tq_getR (b := 115) rX0_init_114 f_X0_49 rfl (by decide +kernel) (by decide +kernel) ?_
  refine tq_iload_n rX0_init_117 rfl ?_
  refine tz_new 134 (ci := 9) rX0_init_118 (by decide) (nw_X0_47) (by decide +kernel) (by decide +kernel) ?_
  show tq_X _ _ _ _ _ _ _ Z432 _
  refine tq_dup rX0_init_121 rfl ?_
  refine tq_callI (as := []) (st := [.ref 134, .int (1 : Int32), .ref 115]) rX0_init_122 l_X0_56 moiX9_init ⟨rfl, miiX9_init, rfl⟩ rfl rfl (Nat.le_of_ble_eq_true rfl) (by decide +kernel) zc46 ?_
  rintro r9 s9 ⟨rfl, rfl⟩
  show tq_X _ _ _ _ _ _ [.ref 134, .int (1 : Int32), .ref 115] Z435 _
  refine tz_aast (ci := 9) (j := 1) rX0_init_125 (by decide +kernel) (by decide) (by decide +kernel) (by decide +kernel) (by decide) ?_
  show tq_X _ _ _ _ _ _ _ Z436 _
  refine tq_iinc (2 : Int32) ([.ref 109, .int (2 : Int32)]) rX0_init_126 rfl (by decide) (Nat.le_of_ble_eq_true rfl) rfl ?_
  refine tq_goto rX0_init_129 ?_
  refine tq_iload_n rX0_init_69 rfl ?_
  refine tq_iconst (2 : Int32) rX0_init_70 (by decide) ?_
  refine tq_icmp_ge rX0_init_71 (fun _ => ?_) (fun h => absurd (by decide) h)
  exact tq_vret rX0_init_132 rfl (by decide +kernel) ⟨rfl, rfl⟩

set_option maxRecDepth 100000 in
set_option maxHeartbeats 4000000 in
theorem zc48 {S : Nat × (Nat → Int32)} {d : Nat} : tq_C S miX11_init (d + 3) [.ref 0] Z1 (fun r σ => r = none ∧ σ = Z437) := by
  refine tq_C_of (by decide) (Nat.le_of_ble_eq_true rfl) (ls := [.ref 0, tq_u]) rfl ?_
  refine tq_aload_n rX11_init_0 rfl ?_
  refine tq_objInit rX11_init_1 (Nat.le_of_ble_eq_true rfl) (ob_X11_1) ?_
  refine tq_aload_n rX11_init_4 rfl ?_
  refine tz_new 1 (ci := 0) rX11_init_5 (by decide) (nw_X11_7) (by decide +kernel) (by decide +kernel) ?_
  show tq_X _ _ _ _ _ _ _ Z2 _
  refine tq_dup rX11_init_8 rfl ?_
  refine tq_callI (as := []) (st := [.ref 1, .ref 0]) rX11_init_9 l_X11_9 moiX0_init ⟨rfl, miiX0_init, rfl⟩ rfl rfl (Nat.le_of_ble_eq_true rfl) (by decide +kernel) zc9 ?_
  rintro r9 s9 ⟨rfl, rfl⟩
  show tq_X _ _ _ _ _ _ [.ref 1, .ref 0] Z83 _
  refine tq_putR rX11_init_12 f_X11_10 ⟨rfl, fun _ => ⟨rfl, rfl⟩⟩ (by decide +kernel) (ff_X11_10) ?_
  show tq_X _ _ _ _ _ _ _ Z84 _
  refine tq_aload_n rX11_init_15 rfl ?_
  refine tq_iconst (3 : Int32) rX11_init_16 (by decide) ?_
  refine tz_anew 28 (ci := 0) (n := 3) rX11_init_17 (by decide) (aw_X11_7) (by decide) (by decide) (by decide +kernel) (by decide +kernel) ?_
  show tq_X _ _ _ _ _ _ _ Z85 _
  refine tq_putR rX11_init_20 f_X11_16 ⟨rfl, fun _ => ⟨rfl, rfl⟩⟩ (by decide +kernel) (ff_X11_16) ?_
  show tq_X _ _ _ _ _ _ _ Z86 _
  refine tq_aload_n rX11_init_23 rfl ?_
  refine tq_iconst (3 : Int32) rX11_init_24 (by decide) ?_
  refine tz_newa 29 (t := 103) (n := 3) rX11_init_25 (by decide) (na_103) (by decide) (by decide) (by decide +kernel) (by decide +kernel) ?_
  show tq_X _ _ _ _ _ _ _ Z87 _
  refine tq_putR rX11_init_27 f_X11_20 ⟨rfl, fun _ => ⟨rfl, rfl⟩⟩ (by decide +kernel) (ff_X11_20) ?_
  show tq_X _ _ _ _ _ _ _ Z88 _
  refine tq_aload_n rX11_init_30 rfl ?_
  refine tz_new 30 (ci := 7) rX11_init_31 (by decide) (nw_X11_24) (by decide +kernel) (by decide +kernel) ?_
  show tq_X _ _ _ _ _ _ _ Z89 _
  refine tq_dup rX11_init_34 rfl ?_
  refine tq_callI (as := []) (st := [.ref 30, .ref 0]) rX11_init_35 l_X11_26 moiX7_init ⟨rfl, miiX7_init, rfl⟩ rfl rfl (Nat.le_of_ble_eq_true rfl) (by decide +kernel) zc14 ?_
  rintro r9 s9 ⟨rfl, rfl⟩
  show tq_X _ _ _ _ _ _ [.ref 30, .ref 0] Z133 _
  refine tq_putR rX11_init_38 f_X11_27 ⟨rfl, fun _ => ⟨rfl, rfl⟩⟩ (by decide +kernel) (ff_X11_27) ?_
  show tq_X _ _ _ _ _ _ _ Z134 _
  refine tq_aload_n rX11_init_41 rfl ?_
  refine tz_new 43 (ci := 8) rX11_init_42 (by decide) (nw_X11_31) (by decide +kernel) (by decide +kernel) ?_
  show tq_X _ _ _ _ _ _ _ Z135 _
  refine tq_dup rX11_init_45 rfl ?_
  refine tq_callI (as := []) (st := [.ref 43, .ref 0]) rX11_init_46 l_X11_33 moiX8_init ⟨rfl, miiX8_init, rfl⟩ rfl rfl (Nat.le_of_ble_eq_true rfl) (by decide +kernel) zc16 ?_
  rintro r9 s9 ⟨rfl, rfl⟩
  show tq_X _ _ _ _ _ _ [.ref 43, .ref 0] Z157 _
  refine tq_putR rX11_init_49 f_X11_34 ⟨rfl, fun _ => ⟨rfl, rfl⟩⟩ (by decide +kernel) (ff_X11_34) ?_
  show tq_X _ _ _ _ _ _ _ Z158 _
  refine tq_aload_n rX11_init_52 rfl ?_
  refine tz_new 45 (ci := 5) rX11_init_53 (by decide) (nw_X11_38) (by decide +kernel) (by decide +kernel) ?_
  show tq_X _ _ _ _ _ _ _ Z159 _
  refine tq_dup rX11_init_56 rfl ?_
  refine tq_callI (as := []) (st := [.ref 45, .ref 0]) rX11_init_57 l_X11_40 moiX5_init ⟨rfl, miiX5_init, rfl⟩ rfl rfl (Nat.le_of_ble_eq_true rfl) (by decide +kernel) zc17 ?_
  rintro r9 s9 ⟨rfl, rfl⟩
  show tq_X _ _ _ _ _ _ [.ref 45, .ref 0] Z170 _
  refine tq_putR rX11_init_60 f_X11_41 ⟨rfl, fun _ => ⟨rfl, rfl⟩⟩ (by decide +kernel) (ff_X11_41) ?_
  show tq_X _ _ _ _ _ _ _ Z171 _
  refine tq_aload_n rX11_init_63 rfl ?_
  refine tz_new 48 (ci := 6) rX11_init_64 (by decide) (nw_X11_45) (by decide +kernel) (by decide +kernel) ?_
  show tq_X _ _ _ _ _ _ _ Z172 _
  refine tq_dup rX11_init_67 rfl ?_
  refine tq_callI (as := []) (st := [.ref 48, .ref 0]) rX11_init_68 l_X11_47 moiX6_init ⟨rfl, miiX6_init, rfl⟩ rfl rfl (Nat.le_of_ble_eq_true rfl) (by decide +kernel) zc18 ?_
  rintro r9 s9 ⟨rfl, rfl⟩
  show tq_X _ _ _ _ _ _ [.ref 48, .ref 0] Z174 _
  refine tq_putR rX11_init_71 f_X11_48 ⟨rfl, fun _ => ⟨rfl, rfl⟩⟩ (by decide +kernel) (ff_X11_48) ?_
  show tq_X _ _ _ _ _ _ _ Z175 _
  refine tq_aload_n rX11_init_74 rfl ?_
  refine tz_new 49 (ci := 2) rX11_init_75 (by decide) (nw_X11_52) (by decide +kernel) (by decide +kernel) ?_
  show tq_X _ _ _ _ _ _ _ Z176 _
  refine tq_dup rX11_init_78 rfl ?_
  refine tq_callI (as := []) (st := [.ref 49, .ref 0]) rX11_init_79 l_X11_54 moiX2_init ⟨rfl, miiX2_init, rfl⟩ rfl rfl (Nat.le_of_ble_eq_true rfl) (by decide +kernel) zc19 ?_
  rintro r9 s9 ⟨rfl, rfl⟩
  show tq_X _ _ _ _ _ _ [.ref 49, .ref 0] Z180 _
  refine tq_putR rX11_init_82 f_X11_55 ⟨rfl, fun _ => ⟨rfl, rfl⟩⟩ (by decide +kernel) (ff_X11_55) ?_
  show tq_X _ _ _ _ _ _ _ Z181 _
  refine tq_aload_n rX11_init_85 rfl ?_
  refine tz_new 52 (ci := 1) rX11_init_86 (by decide) (nw_X11_59) (by decide +kernel) (by decide +kernel) ?_
  show tq_X _ _ _ _ _ _ _ Z182 _
  refine tq_dup rX11_init_89 rfl ?_
  refine tq_callI (as := []) (st := [.ref 52, .ref 0]) rX11_init_90 l_X11_61 moiX1_init ⟨rfl, miiX1_init, rfl⟩ rfl rfl (Nat.le_of_ble_eq_true rfl) (by decide +kernel) zc20 ?_
  rintro r9 s9 ⟨rfl, rfl⟩
  show tq_X _ _ _ _ _ _ [.ref 52, .ref 0] Z185 _
  refine tq_putR rX11_init_93 f_X11_62 ⟨rfl, fun _ => ⟨rfl, rfl⟩⟩ (by decide +kernel) (ff_X11_62) ?_
  show tq_X _ _ _ _ _ _ _ Z186 _
  refine tq_aload_n rX11_init_96 rfl ?_
  refine tq_bipush (49 : Int32) rX11_init_97 (by decide) ?_
  refine tz_newa 54 (t := 101) (n := 49) rX11_init_99 (by decide) (na_101) (by decide) (by decide) (by decide +kernel) (by decide +kernel) ?_
  show tq_X _ _ _ _ _ _ _ Z187 _
  refine tq_putR rX11_init_101 f_X11_66 ⟨rfl, fun _ => ⟨rfl, rfl⟩⟩ (by decide +kernel) (ff_X11_66) ?_
  show tq_X _ _ _ _ _ _ _ Z188 _
  refine tq_iconst (0 : Int32) rX11_init_104 (by decide) ?_
  refine tq_istore_n ([.ref 0, .int (0 : Int32)]) rX11_init_105 (Nat.le_of_ble_eq_true rfl) rfl ?_
  refine tq_iload_n rX11_init_106 rfl ?_
  refine tq_aload_n rX11_init_107 rfl ?_
  refine tq_getR (b := 28) rX11_init_108 f_X11_16 rfl (by decide +kernel) (by decide +kernel) ?_
  refine tz_alen (3 : Int32) (t := 110) rX11_init_111 (by decide +kernel) (by decide) (by decide +kernel) ?_
  refine tq_icmp_ge rX11_init_112 (fun h => absurd h (by decide)) (fun _ => ?_)
  refine tq_aload_n rX11_init_115 rfl ?_
  refine tq_getR (b := 28) rX11_init_116 f_X11_16 rfl (by decide +kernel) (by decide +kernel) ?_
  refine tq_iload_n rX11_init_119 rfl ?_
  refine tz_new 55 (ci := 0) rX11_init_120 (by decide) (nw_X11_7) (by decide +kernel) (by decide +kernel) ?_
  show tq_X _ _ _ _ _ _ _ Z189 _
  refine tq_dup rX11_init_123 rfl ?_
  refine tq_callI (as := []) (st := [.ref 55, .int (0 : Int32), .ref 28]) rX11_init_124 l_X11_9 moiX0_init ⟨rfl, miiX0_init, rfl⟩ rfl rfl (Nat.le_of_ble_eq_true rfl) (by decide +kernel) zc29 ?_
  rintro r9 s9 ⟨rfl, rfl⟩
  show tq_X _ _ _ _ _ _ [.ref 55, .int (0 : Int32), .ref 28] Z270 _
  refine tz_aast (ci := 0) (j := 0) rX11_init_127 (by decide +kernel) (by decide) (by decide +kernel) (by decide +kernel) (by decide) ?_
  show tq_X _ _ _ _ _ _ _ Z271 _
  refine tq_iinc (1 : Int32) ([.ref 0, .int (1 : Int32)]) rX11_init_128 rfl (by decide) (Nat.le_of_ble_eq_true rfl) rfl ?_
  refine tq_goto rX11_init_131 ?_
  refine tq_iload_n rX11_init_106 rfl ?_
  refine tq_aload_n rX11_init_107 rfl ?_
  refine tq_getR (b := 28) rX11_init_108 f_X11_16 rfl (by decide +kernel) (by decide +kernel) ?_
  refine tz_alen (3 : Int32) (t := 110) rX11_init_111 (by decide +kernel) (by decide) (by decide +kernel) ?_
  refine tq_icmp_ge rX11_init_112 (fun h => absurd h (by decide)) (fun _ => ?_)
  refine tq_aload_n rX11_init_115 rfl ?_
  refine tq_getR (b := 28) rX11_init_116 f_X11_16 rfl (by decide +kernel) (by decide +kernel) ?_
  refine tq_iload_n rX11_init_119 rfl ?_
  refine tz_new 82 (ci := 0) rX11_init_120 (by decide) (nw_X11_7) (by decide +kernel) (by decide +kernel) ?_
  show tq_X _ _ _ _ _ _ _ Z272 _
  refine tq_dup rX11_init_123 rfl ?_
  refine tq_callI (as := []) (st := [.ref 82, .int (1 : Int32), .ref 28]) rX11_init_124 l_X11_9 moiX0_init ⟨rfl, miiX0_init, rfl⟩ rfl rfl (Nat.le_of_ble_eq_true rfl) (by decide +kernel) zc38 ?_
  rintro r9 s9 ⟨rfl, rfl⟩
  show tq_X _ _ _ _ _ _ [.ref 82, .int (1 : Int32), .ref 28] Z353 _
  refine tz_aast (ci := 0) (j := 1) rX11_init_127 (by decide +kernel) (by decide) (by decide +kernel) (by decide +kernel) (by decide) ?_
  show tq_X _ _ _ _ _ _ _ Z354 _
  refine tq_iinc (2 : Int32) ([.ref 0, .int (2 : Int32)]) rX11_init_128 rfl (by decide) (Nat.le_of_ble_eq_true rfl) rfl ?_
  refine tq_goto rX11_init_131 ?_
  refine tq_iload_n rX11_init_106 rfl ?_
  refine tq_aload_n rX11_init_107 rfl ?_
  refine tq_getR (b := 28) rX11_init_108 f_X11_16 rfl (by decide +kernel) (by decide +kernel) ?_
  refine tz_alen (3 : Int32) (t := 110) rX11_init_111 (by decide +kernel) (by decide) (by decide +kernel) ?_
  refine tq_icmp_ge rX11_init_112 (fun h => absurd h (by decide)) (fun _ => ?_)
  refine tq_aload_n rX11_init_115 rfl ?_
  refine tq_getR (b := 28) rX11_init_116 f_X11_16 rfl (by decide +kernel) (by decide +kernel) ?_
  refine tq_iload_n rX11_init_119 rfl ?_
  refine tz_new 109 (ci := 0) rX11_init_120 (by decide) (nw_X11_7) (by decide +kernel) (by decide +kernel) ?_
  show tq_X _ _ _ _ _ _ _ Z355 _
  refine tq_dup rX11_init_123 rfl ?_
  refine tq_callI (as := []) (st := [.ref 109, .int (2 : Int32), .ref 28]) rX11_init_124 l_X11_9 moiX0_init ⟨rfl, miiX0_init, rfl⟩ rfl rfl (Nat.le_of_ble_eq_true rfl) (by decide +kernel) zc47 ?_
  rintro r9 s9 ⟨rfl, rfl⟩
  show tq_X _ _ _ _ _ _ [.ref 109, .int (2 : Int32), .ref 28] Z436 _
  refine tz_aast (ci := 0) (j := 2) rX11_init_127 (by decide +kernel) (by decide) (by decide +kernel) (by decide +kernel) (by decide) ?_
  show tq_X _ _ _ _ _ _ _ Z437 _
  refine tq_iinc (3 : Int32) ([.ref 0, .int (3 : Int32)]) rX11_init_128 rfl (by decide) (Nat.le_of_ble_eq_true rfl) rfl ?_
  refine tq_goto rX11_init_131 ?_
  refine tq_iload_n rX11_init_106 rfl ?_
  refine tq_aload_n rX11_init_107 rfl ?_
  refine tq_getR (b := 28) rX11_init_108 f_X11_16 rfl (by decide +kernel) (by decide +kernel) ?_
  refine tz_alen (3 : Int32) (t := 110) rX11_init_111 (by decide +kernel) (by decide) (by decide +kernel) ?_
  refine tq_icmp_ge rX11_init_112 (fun _ => ?_) (fun h => absurd (by decide) h)
  exact tq_vret rX11_init_134 rfl (by decide +kernel) ⟨rfl, rfl⟩

set_option maxRecDepth 100000 in
set_option maxHeartbeats 4000000 in
theorem zc49 {S : Nat × (Nat → Int32)} {d : Nat} : tq_C S miX12_init (d + 1) [.ref 136] Z438 (fun r σ => r = none ∧ σ = Z473) := by
  refine tq_C_of (by decide) (Nat.le_of_ble_eq_true rfl) (ls := [.ref 136]) rfl ?_
  refine tq_aload_n rX12_init_0 rfl ?_
  refine tq_objInit rX12_init_1 (Nat.le_of_ble_eq_true rfl) (ob_X12_1) ?_
  refine tq_aload_n rX12_init_4 rfl ?_
  refine tq_sipush (4016 : Int32) rX12_init_5 (by decide) ?_
  refine tz_newa 137 (t := 100) (n := 4016) rX12_init_8 (by decide) (na_100) (by decide) (by decide) (by decide +kernel) (by decide +kernel) ?_
  show tq_X _ _ _ _ _ _ _ Z439 _
  refine tq_putR rX12_init_10 f_X12_7 ⟨rfl, fun _ => ⟨rfl, rfl⟩⟩ (by decide +kernel) (ff_X12_7) ?_
  show tq_X _ _ _ _ _ _ _ Z440 _
  refine tq_aload_n rX12_init_13 rfl ?_
  refine tq_iconst (3 : Int32) rX12_init_14 (by decide) ?_
  refine tz_newa 138 (t := 103) (n := 3) rX12_init_15 (by decide) (na_103) (by decide) (by decide) (by decide +kernel) (by decide +kernel) ?_
  show tq_X _ _ _ _ _ _ _ Z441 _
  refine tq_putR rX12_init_17 f_X12_13 ⟨rfl, fun _ => ⟨rfl, rfl⟩⟩ (by decide +kernel) (ff_X12_13) ?_
  show tq_X _ _ _ _ _ _ _ Z442 _
  refine tq_aload_n rX12_init_20 rfl ?_
  refine tq_bipush (121 : Int32) rX12_init_21 (by decide) ?_
  refine tz_newa 139 (t := 100) (n := 121) rX12_init_23 (by decide) (na_100) (by decide) (by decide) (by decide +kernel) (by decide +kernel) ?_
  show tq_X _ _ _ _ _ _ _ Z443 _
  refine tq_putR rX12_init_25 f_X12_17 ⟨rfl, fun _ => ⟨rfl, rfl⟩⟩ (by decide +kernel) (ff_X12_17) ?_
  show tq_X _ _ _ _ _ _ _ Z444 _
  refine tq_aload_n rX12_init_28 rfl ?_
  refine tq_sipush (192 : Int32) rX12_init_29 (by decide) ?_
  refine tz_newa 140 (t := 100) (n := 192) rX12_init_32 (by decide) (na_100) (by decide) (by decide) (by decide +kernel) (by decide +kernel) ?_
  show tq_X _ _ _ _ _ _ _ Z445 _
  refine tq_putR rX12_init_34 f_X12_20 ⟨rfl, fun _ => ⟨rfl, rfl⟩⟩ (by decide +kernel) (ff_X12_20) ?_
  show tq_X _ _ _ _ _ _ _ Z446 _
  refine tq_aload_n rX12_init_37 rfl ?_
  refine tq_bipush (48 : Int32) rX12_init_38 (by decide) ?_
  refine tz_newa 141 (t := 103) (n := 48) rX12_init_40 (by decide) (na_103) (by decide) (by decide) (by decide +kernel) (by decide +kernel) ?_
  show tq_X _ _ _ _ _ _ _ Z447 _
  refine tq_putR rX12_init_42 f_X12_23 ⟨rfl, fun _ => ⟨rfl, rfl⟩⟩ (by decide +kernel) (ff_X12_23) ?_
  show tq_X _ _ _ _ _ _ _ Z448 _
  refine tq_aload_n rX12_init_45 rfl ?_
  refine tq_bipush (48 : Int32) rX12_init_46 (by decide) ?_
  refine tz_newa 142 (t := 100) (n := 48) rX12_init_48 (by decide) (na_100) (by decide) (by decide) (by decide +kernel) (by decide +kernel) ?_
  show tq_X _ _ _ _ _ _ _ Z449 _
  refine tq_putR rX12_init_50 f_X12_26 ⟨rfl, fun _ => ⟨rfl, rfl⟩⟩ (by decide +kernel) (ff_X12_26) ?_
  show tq_X _ _ _ _ _ _ _ Z450 _
  refine tq_aload_n rX12_init_53 rfl ?_
  refine tq_bipush (48 : Int32) rX12_init_54 (by decide) ?_
  refine tz_newa 143 (t := 100) (n := 48) rX12_init_56 (by decide) (na_100) (by decide) (by decide) (by decide +kernel) (by decide +kernel) ?_
  show tq_X _ _ _ _ _ _ _ Z451 _
  refine tq_putR rX12_init_58 f_X12_29 ⟨rfl, fun _ => ⟨rfl, rfl⟩⟩ (by decide +kernel) (ff_X12_29) ?_
  show tq_X _ _ _ _ _ _ _ Z452 _
  refine tq_aload_n rX12_init_61 rfl ?_
  refine tq_iconst (2 : Int32) rX12_init_62 (by decide) ?_
  refine tz_newa 144 (t := 100) (n := 2) rX12_init_63 (by decide) (na_100) (by decide) (by decide) (by decide +kernel) (by decide +kernel) ?_
  show tq_X _ _ _ _ _ _ _ Z453 _
  refine tq_putR rX12_init_65 f_X12_32 ⟨rfl, fun _ => ⟨rfl, rfl⟩⟩ (by decide +kernel) (ff_X12_32) ?_
  show tq_X _ _ _ _ _ _ _ Z454 _
  refine tq_aload_n rX12_init_68 rfl ?_
  refine tq_iconst (2 : Int32) rX12_init_69 (by decide) ?_
  refine tz_newa 145 (t := 100) (n := 2) rX12_init_70 (by decide) (na_100) (by decide) (by decide) (by decide +kernel) (by decide +kernel) ?_
  show tq_X _ _ _ _ _ _ _ Z455 _
  refine tq_putR rX12_init_72 f_X12_35 ⟨rfl, fun _ => ⟨rfl, rfl⟩⟩ (by decide +kernel) (ff_X12_35) ?_
  show tq_X _ _ _ _ _ _ _ Z456 _
  refine tq_aload_n rX12_init_75 rfl ?_
  refine tq_iconst (2 : Int32) rX12_init_76 (by decide) ?_
  refine tz_newa 146 (t := 100) (n := 2) rX12_init_77 (by decide) (na_100) (by decide) (by decide) (by decide +kernel) (by decide +kernel) ?_
  show tq_X _ _ _ _ _ _ _ Z457 _
  refine tq_putR rX12_init_79 f_X12_38 ⟨rfl, fun _ => ⟨rfl, rfl⟩⟩ (by decide +kernel) (ff_X12_38) ?_
  show tq_X _ _ _ _ _ _ _ Z458 _
  refine tq_aload_n rX12_init_82 rfl ?_
  refine tq_iconst (3 : Int32) rX12_init_83 (by decide) ?_
  refine tz_newa 147 (t := 100) (n := 3) rX12_init_84 (by decide) (na_100) (by decide) (by decide) (by decide +kernel) (by decide +kernel) ?_
  show tq_X _ _ _ _ _ _ _ Z459 _
  refine tq_putR rX12_init_86 f_X12_41 ⟨rfl, fun _ => ⟨rfl, rfl⟩⟩ (by decide +kernel) (ff_X12_41) ?_
  show tq_X _ _ _ _ _ _ _ Z460 _
  refine tq_aload_n rX12_init_89 rfl ?_
  refine tq_iconst (3 : Int32) rX12_init_90 (by decide) ?_
  refine tz_newa 148 (t := 100) (n := 3) rX12_init_91 (by decide) (na_100) (by decide) (by decide) (by decide +kernel) (by decide +kernel) ?_
  show tq_X _ _ _ _ _ _ _ Z461 _
  refine tq_putR rX12_init_93 f_X12_44 ⟨rfl, fun _ => ⟨rfl, rfl⟩⟩ (by decide +kernel) (ff_X12_44) ?_
  show tq_X _ _ _ _ _ _ _ Z462 _
  refine tq_aload_n rX12_init_96 rfl ?_
  refine tq_iconst (4 : Int32) rX12_init_97 (by decide) ?_
  refine tz_newa 149 (t := 101) (n := 4) rX12_init_98 (by decide) (na_101) (by decide) (by decide) (by decide +kernel) (by decide +kernel) ?_
  show tq_X _ _ _ _ _ _ _ Z463 _
  refine tq_putR rX12_init_100 f_X12_47 ⟨rfl, fun _ => ⟨rfl, rfl⟩⟩ (by decide +kernel) (ff_X12_47) ?_
  show tq_X _ _ _ _ _ _ _ Z464 _
  refine tq_aload_n rX12_init_103 rfl ?_
  refine tq_iconst (2 : Int32) rX12_init_104 (by decide) ?_
  refine tz_newa 150 (t := 100) (n := 2) rX12_init_105 (by decide) (na_100) (by decide) (by decide) (by decide +kernel) (by decide +kernel) ?_
  show tq_X _ _ _ _ _ _ _ Z465 _
  refine tq_putR rX12_init_107 f_X12_51 ⟨rfl, fun _ => ⟨rfl, rfl⟩⟩ (by decide +kernel) (ff_X12_51) ?_
  show tq_X _ _ _ _ _ _ _ Z466 _
  refine tq_aload_n rX12_init_110 rfl ?_
  refine tq_bipush (10 : Int32) rX12_init_111 (by decide) ?_
  refine tz_newa 151 (t := 100) (n := 10) rX12_init_113 (by decide) (na_100) (by decide) (by decide) (by decide +kernel) (by decide +kernel) ?_
  show tq_X _ _ _ _ _ _ _ Z467 _
  refine tq_putR rX12_init_115 f_X12_54 ⟨rfl, fun _ => ⟨rfl, rfl⟩⟩ (by decide +kernel) (ff_X12_54) ?_
  show tq_X _ _ _ _ _ _ _ Z468 _
  refine tq_aload_n rX12_init_118 rfl ?_
  refine tq_sipush (256 : Int32) rX12_init_119 (by decide) ?_
  refine tz_newa 152 (t := 100) (n := 256) rX12_init_122 (by decide) (na_100) (by decide) (by decide) (by decide +kernel) (by decide +kernel) ?_
  show tq_X _ _ _ _ _ _ _ Z469 _
  refine tq_putR rX12_init_124 f_X12_57 ⟨rfl, fun _ => ⟨rfl, rfl⟩⟩ (by decide +kernel) (ff_X12_57) ?_
  show tq_X _ _ _ _ _ _ _ Z470 _
  refine tq_aload_n rX12_init_127 rfl ?_
  refine tq_sipush (256 : Int32) rX12_init_128 (by decide) ?_
  refine tz_newa 153 (t := 100) (n := 256) rX12_init_131 (by decide) (na_100) (by decide) (by decide) (by decide +kernel) (by decide +kernel) ?_
  show tq_X _ _ _ _ _ _ _ Z471 _
  refine tq_putR rX12_init_133 f_X12_60 ⟨rfl, fun _ => ⟨rfl, rfl⟩⟩ (by decide +kernel) (ff_X12_60) ?_
  show tq_X _ _ _ _ _ _ _ Z472 _
  refine tq_aload_n rX12_init_136 rfl ?_
  refine tq_getR (b := 137) rX12_init_137 f_X12_7 rfl (by decide +kernel) (by decide +kernel) ?_
  refine tq_bipush (6 : Int32) rX12_init_140 (by decide) ?_
  refine tq_iconst (-1 : Int32) rX12_init_142 (by decide) ?_
  refine tz_iast (j := 6) rX12_init_143 (by decide +kernel) (by decide +kernel) (by decide) ?_
  show tq_X _ _ _ _ _ _ _ Z473 _
  exact tq_vret rX12_init_144 rfl (by decide +kernel) ⟨rfl, rfl⟩

