/-! THE MIRROR, part 4: by program (wip/whole/gen_mirror.py). -/
abbrev mX9_add : tq_M := (yX9_add, cX9_add, 2, (Option.none : Option Jvm.ClassFile.FieldType), 0, 0)
theorem rX9_add_0 : tq_D cX9_add 0 (.aload_n 0) 1 1 := ⟨by decide +kernel, rfl⟩
theorem rX9_add_1 : tq_D cX9_add 1 (.getfield 9) 3 4 := ⟨by decide +kernel, rfl⟩
theorem rX9_add_4 : tq_J cX9_add 4 (.ifCond .lt) 36 7 := ⟨32, by decide +kernel, by decide, rfl⟩
theorem rX9_add_7 : tq_D cX9_add 7 (.aload_n 0) 1 8 := ⟨by decide +kernel, rfl⟩
theorem rX9_add_8 : tq_D cX9_add 8 (.getfield 9) 3 11 := ⟨by decide +kernel, rfl⟩
theorem rX9_add_11 : tq_D cX9_add 11 (.bipush 8) 2 13 := ⟨by decide +kernel, rfl⟩
theorem rX9_add_13 : tq_J cX9_add 13 (.if_icmp .ge) 36 16 := ⟨23, by decide +kernel, by decide, rfl⟩
theorem rX9_add_16 : tq_D cX9_add 16 (.aload_n 0) 1 17 := ⟨by decide +kernel, rfl⟩
theorem rX9_add_17 : tq_D cX9_add 17 (.getfield 15) 3 20 := ⟨by decide +kernel, rfl⟩
theorem rX9_add_20 : tq_D cX9_add 20 (.aload_n 0) 1 21 := ⟨by decide +kernel, rfl⟩
theorem rX9_add_21 : tq_D cX9_add 21 (.getfield 9) 3 24 := ⟨by decide +kernel, rfl⟩
theorem rX9_add_24 : tq_D cX9_add 24 (.iload_n 1) 1 25 := ⟨by decide +kernel, rfl⟩
theorem rX9_add_25 : tq_D cX9_add 25 (.iastore) 1 26 := ⟨by decide +kernel, rfl⟩
theorem rX9_add_26 : tq_D cX9_add 26 (.aload_n 0) 1 27 := ⟨by decide +kernel, rfl⟩
theorem rX9_add_27 : tq_D cX9_add 27 (.dup) 1 28 := ⟨by decide +kernel, rfl⟩
theorem rX9_add_28 : tq_D cX9_add 28 (.getfield 9) 3 31 := ⟨by decide +kernel, rfl⟩
theorem rX9_add_31 : tq_D cX9_add 31 (.iconst 1) 1 32 := ⟨by decide +kernel, rfl⟩
theorem rX9_add_32 : tq_D cX9_add 32 (.iadd) 1 33 := ⟨by decide +kernel, rfl⟩
theorem rX9_add_33 : tq_D cX9_add 33 (.putfield 9) 3 36 := ⟨by decide +kernel, rfl⟩
theorem rX9_add_36 : decode cX9_add 36 = .ok (.return_, 1) := by decide +kernel
noncomputable def FX9_add (I : tq_PI) (L : tq_PL) (a0 : Nat) (a1 : Int32) : Option (tq_PI) :=
  (if (I a0 0) < 0 then some I else (if (8 : Int32) ≤ (I a0 0) then some I else (if 0 ≤ (I a0 0) ∧ (I a0 0) < 8 then some (tq_up2 (tq_up2 I (tq_rg a0 1) ((I a0 0)).toNatClampNeg a1) a0 0 ((((tq_up2 I (tq_rg a0 1) ((I a0 0)).toNatClampNeg a1)) a0 0) + (1 : Int32))) else none)))
set_option maxRecDepth 100000 in
set_option maxHeartbeats 4000000 in
theorem CX9_add {S : Nat × (Nat → Int32)} {d : Nat} {I : tq_PI} {L : tq_PL} {a0 : Nat} {a1 : Int32} (h0 : tq_sh0 a0 = 9) {out : tq_PI} (hf : FX9_add I L a0 a1 = some out) : tq_K S mX9_add d [.ref a0, .int a1] I L (tq_one2 (none) out L) := by
  unfold FX9_add at hf
  refine tq_K_of (by decide) (Nat.le_of_ble_eq_true rfl) (ls := [.ref a0, .int a1]) rfl ?_
  refine tq_aload_n rX9_add_0 rfl ?_
  refine ty_getI rX9_add_1 f_X9_9 rfl h0 ?_
  refine tq_if_lt rX9_add_4 (fun c1 => ?_) (fun c1 => ?_)
  · rw [if_pos c1] at hf
    refine ty_vret rX9_add_36 rfl rfl ?_
    have hf := Option.some.inj hf
    subst hf
    exact ⟨rfl, rfl, rfl⟩
  · rw [if_neg c1] at hf
    refine tq_aload_n rX9_add_7 rfl ?_
    refine ty_getI rX9_add_8 f_X9_9 rfl h0 ?_
    refine tq_bipush (8 : Int32) rX9_add_11 (by decide) ?_
    refine tq_icmp_ge rX9_add_13 (fun c2 => ?_) (fun c2 => ?_)
    · rw [if_pos c2] at hf
      refine ty_vret rX9_add_36 rfl rfl ?_
      have hf := Option.some.inj hf
      subst hf
      exact ⟨rfl, rfl, rfl⟩
    · rw [if_neg c2] at hf
      refine tq_aload_n rX9_add_16 rfl ?_
      refine ty_getR rX9_add_17 f_X9_15 rfl h0 (hp_9_1 h0).1 ?_
      refine tq_aload_n rX9_add_20 rfl ?_
      refine ty_getI rX9_add_21 f_X9_9 rfl h0 ?_
      refine tq_iload_n rX9_add_24 rfl ?_
      obtain ⟨g3, hf⟩ := tq_chk hf
      refine ty_iast (v := 8) rX9_add_25 (hp_9_1 h0).2.1 (hp_9_1 h0).2.2 rfl (by decide) g3 ?_
      refine tq_aload_n rX9_add_26 rfl ?_
      refine tq_dup rX9_add_27 rfl ?_
      refine ty_getI rX9_add_28 f_X9_9 rfl h0 ?_
      refine tq_iconst (1 : Int32) rX9_add_31 (by decide) ?_
      refine tq_iadd rX9_add_32 ?_
      refine ty_putI rX9_add_33 f_X9_9 rfl h0 rfl ?_
      refine ty_vret rX9_add_36 rfl rfl ?_
      have hf := Option.some.inj hf
      subst hf
      exact ⟨rfl, rfl, rfl⟩

abbrev mX7_tell : tq_M := (yX7_tell, cX7_tell, 3, (Option.none : Option Jvm.ClassFile.FieldType), 0, 0)
theorem moX4_add : tq_mok mX4_add 2 := ⟨tq_sg1 _ (List.mem_of_getElem? (i := 5) rfl), tq_sg3 _ (List.mem_of_getElem? (i := 101) rfl), ⟨by decide, by decide, by decide +kernel⟩, by decide⟩
theorem mvX4_add : 4 < 13 ∧ (tq_cl 4).1 = mX4_add.1.cls ∧ Cond.instanceMethod mX4_add.1 ∈ lw_tbl ∧ Cond.selects mX4_add.1.cls mX4_add.1 mX4_add.1 ∈ lw_tbl := ⟨by decide, rfl, tq_sg3 _ (List.mem_of_getElem? (i := 99) rfl), tq_sg3 _ (List.mem_of_getElem? (i := 100) rfl)⟩
theorem moX7_tellOfHill : tq_mok mX7_tellOfHill 1 := ⟨tq_sg1 _ (List.mem_of_getElem? (i := 7) rfl), tq_sg3 _ (List.mem_of_getElem? (i := 84) rfl), ⟨by decide, by decide, by decide +kernel⟩, by decide⟩
theorem mvX7_tellOfHill : 7 < 13 ∧ (tq_cl 7).1 = mX7_tellOfHill.1.cls ∧ Cond.instanceMethod mX7_tellOfHill.1 ∈ lw_tbl ∧ Cond.selects mX7_tellOfHill.1.cls mX7_tellOfHill.1 mX7_tellOfHill.1 ∈ lw_tbl := ⟨by decide, rfl, tq_sg3 _ (List.mem_of_getElem? (i := 83) rfl), List.mem_append_left _ (List.mem_map.mpr ⟨_, List.mem_of_getElem? (i := 13) rfl, rfl⟩)⟩
theorem moX9_add : tq_mok mX9_add 1 := ⟨tq_sg1 _ (List.mem_of_getElem? (i := 6) rfl), tq_sg3 _ (List.mem_of_getElem? (i := 105) rfl), ⟨by decide, by decide, by decide +kernel⟩, by decide⟩
theorem mvX9_add : 9 < 13 ∧ (tq_cl 9).1 = mX9_add.1.cls ∧ Cond.instanceMethod mX9_add.1 ∈ lw_tbl ∧ Cond.selects mX9_add.1.cls mX9_add.1 mX9_add.1 ∈ lw_tbl := ⟨by decide, rfl, tq_sg3 _ (List.mem_of_getElem? (i := 103) rfl), tq_sg3 _ (List.mem_of_getElem? (i := 104) rfl)⟩
theorem moX10_add : tq_mok mX10_add 3 := ⟨tq_sg1 _ (List.mem_of_getElem? (i := 4) rfl), tq_sg3 _ (List.mem_of_getElem? (i := 97) rfl), ⟨by decide, by decide, by decide +kernel⟩, by decide⟩
theorem mvX10_add : 10 < 13 ∧ (tq_cl 10).1 = mX10_add.1.cls ∧ Cond.instanceMethod mX10_add.1 ∈ lw_tbl ∧ Cond.selects mX10_add.1.cls mX10_add.1 mX10_add.1 ∈ lw_tbl := ⟨by decide, rfl, tq_sg3 _ (List.mem_of_getElem? (i := 95) rfl), tq_sg3 _ (List.mem_of_getElem? (i := 96) rfl)⟩
theorem l_X7_203 : tq_lok RX7 203 mX7_tellOfHill.1 := Or.inl (tq_sg3 _ (List.mem_of_getElem? (i := 81) rfl))
theorem l_X7_207 : tq_lok RX7 207 mX10_add.1 := Or.inl (tq_sg3 _ (List.mem_of_getElem? (i := 94) rfl))
theorem l_X7_211 : tq_lok RX7 211 mX4_add.1 := Or.inl (tq_sg3 _ (List.mem_of_getElem? (i := 98) rfl))
theorem l_X7_213 : tq_lok RX7 213 mX9_add.1 := Or.inl (tq_sg3 _ (List.mem_of_getElem? (i := 102) rfl))
theorem rX7_tell_0 : tq_D cX7_tell 0 (.iload_n 1) 1 1 := ⟨by decide +kernel, rfl⟩
theorem rX7_tell_1 : decode cX7_tell 1 = .ok (.tableswitch 99 0 2 #[27, 35, 67], 27) := by decide +kernel
theorem rX7_tell_28 : tq_D cX7_tell 28 (.aload_n 0) 1 29 := ⟨by decide +kernel, rfl⟩
theorem rX7_tell_29 : tq_D cX7_tell 29 (.iload_n 2) 1 30 := ⟨by decide +kernel, rfl⟩
theorem rX7_tell_30 : tq_D cX7_tell 30 (.invokevirtual 203) 3 33 := ⟨by decide +kernel, rfl⟩
theorem rX7_tell_33 : tq_J cX7_tell 33 .goto 113 36 := ⟨80, by decide +kernel, by decide, rfl⟩
theorem rX7_tell_36 : tq_D cX7_tell 36 (.aload_n 0) 1 37 := ⟨by decide +kernel, rfl⟩
theorem rX7_tell_37 : tq_D cX7_tell 37 (.getfield 25) 3 40 := ⟨by decide +kernel, rfl⟩
theorem rX7_tell_40 : tq_D cX7_tell 40 (.iload_n 2) 1 41 := ⟨by decide +kernel, rfl⟩
theorem rX7_tell_41 : tq_D cX7_tell 41 (.aload_n 0) 1 42 := ⟨by decide +kernel, rfl⟩
theorem rX7_tell_42 : tq_D cX7_tell 42 (.getfield 43) 3 45 := ⟨by decide +kernel, rfl⟩
theorem rX7_tell_45 : tq_D cX7_tell 45 (.iconst 0) 1 46 := ⟨by decide +kernel, rfl⟩
theorem rX7_tell_46 : tq_D cX7_tell 46 (.iaload) 1 47 := ⟨by decide +kernel, rfl⟩
theorem rX7_tell_47 : tq_D cX7_tell 47 (.iload_n 2) 1 48 := ⟨by decide +kernel, rfl⟩
theorem rX7_tell_48 : tq_D cX7_tell 48 (.iconst 3) 1 49 := ⟨by decide +kernel, rfl⟩
theorem rX7_tell_49 : tq_J cX7_tell 49 (.if_icmp .ne) 56 52 := ⟨7, by decide +kernel, by decide, rfl⟩
theorem rX7_tell_52 : tq_D cX7_tell 52 (.iconst (-1)) 1 53 := ⟨by decide +kernel, rfl⟩
theorem rX7_tell_53 : tq_J cX7_tell 53 .goto 62 56 := ⟨9, by decide +kernel, by decide, rfl⟩
theorem rX7_tell_56 : tq_D cX7_tell 56 (.aload_n 0) 1 57 := ⟨by decide +kernel, rfl⟩
theorem rX7_tell_57 : tq_D cX7_tell 57 (.getfield 43) 3 60 := ⟨by decide +kernel, rfl⟩
theorem rX7_tell_60 : tq_D cX7_tell 60 (.iconst 1) 1 61 := ⟨by decide +kernel, rfl⟩
theorem rX7_tell_61 : tq_D cX7_tell 61 (.iaload) 1 62 := ⟨by decide +kernel, rfl⟩
theorem rX7_tell_62 : tq_D cX7_tell 62 (.invokevirtual 207) 3 65 := ⟨by decide +kernel, rfl⟩
theorem rX7_tell_65 : tq_J cX7_tell 65 .goto 113 68 := ⟨48, by decide +kernel, by decide, rfl⟩
theorem rX7_tell_68 : tq_D cX7_tell 68 (.aload_n 0) 1 69 := ⟨by decide +kernel, rfl⟩
theorem rX7_tell_69 : tq_D cX7_tell 69 (.getfield 32) 3 72 := ⟨by decide +kernel, rfl⟩
theorem rX7_tell_72 : tq_D cX7_tell 72 (.bipush 8) 2 74 := ⟨by decide +kernel, rfl⟩
theorem rX7_tell_74 : tq_D cX7_tell 74 (.aload_n 0) 1 75 := ⟨by decide +kernel, rfl⟩
theorem rX7_tell_75 : tq_D cX7_tell 75 (.getfield 43) 3 78 := ⟨by decide +kernel, rfl⟩
theorem rX7_tell_78 : tq_D cX7_tell 78 (.iconst 1) 1 79 := ⟨by decide +kernel, rfl⟩
theorem rX7_tell_79 : tq_D cX7_tell 79 (.iaload) 1 80 := ⟨by decide +kernel, rfl⟩
theorem rX7_tell_80 : tq_D cX7_tell 80 (.imul) 1 81 := ⟨by decide +kernel, rfl⟩
theorem rX7_tell_81 : tq_D cX7_tell 81 (.aload_n 0) 1 82 := ⟨by decide +kernel, rfl⟩
theorem rX7_tell_82 : tq_D cX7_tell 82 (.getfield 43) 3 85 := ⟨by decide +kernel, rfl⟩
theorem rX7_tell_85 : tq_D cX7_tell 85 (.iconst 0) 1 86 := ⟨by decide +kernel, rfl⟩
theorem rX7_tell_86 : tq_D cX7_tell 86 (.iaload) 1 87 := ⟨by decide +kernel, rfl⟩
theorem rX7_tell_87 : tq_D cX7_tell 87 (.iadd) 1 88 := ⟨by decide +kernel, rfl⟩
theorem rX7_tell_88 : tq_D cX7_tell 88 (.aload_n 0) 1 89 := ⟨by decide +kernel, rfl⟩
theorem rX7_tell_89 : tq_D cX7_tell 89 (.getfield 43) 3 92 := ⟨by decide +kernel, rfl⟩
theorem rX7_tell_92 : tq_D cX7_tell 92 (.iconst 2) 1 93 := ⟨by decide +kernel, rfl⟩
theorem rX7_tell_93 : tq_D cX7_tell 93 (.iaload) 1 94 := ⟨by decide +kernel, rfl⟩
theorem rX7_tell_94 : tq_D cX7_tell 94 (.invokevirtual 211) 3 97 := ⟨by decide +kernel, rfl⟩
theorem rX7_tell_97 : tq_J cX7_tell 97 .goto 113 100 := ⟨16, by decide +kernel, by decide, rfl⟩
theorem rX7_tell_100 : tq_D cX7_tell 100 (.aload_n 0) 1 101 := ⟨by decide +kernel, rfl⟩
theorem rX7_tell_101 : tq_D cX7_tell 101 (.getfield 39) 3 104 := ⟨by decide +kernel, rfl⟩
theorem rX7_tell_104 : tq_D cX7_tell 104 (.aload_n 0) 1 105 := ⟨by decide +kernel, rfl⟩
theorem rX7_tell_105 : tq_D cX7_tell 105 (.getfield 43) 3 108 := ⟨by decide +kernel, rfl⟩
theorem rX7_tell_108 : tq_D cX7_tell 108 (.iconst 0) 1 109 := ⟨by decide +kernel, rfl⟩
theorem rX7_tell_109 : tq_D cX7_tell 109 (.iaload) 1 110 := ⟨by decide +kernel, rfl⟩
theorem rX7_tell_110 : tq_D cX7_tell 110 (.invokevirtual 213) 3 113 := ⟨by decide +kernel, rfl⟩
theorem rX7_tell_113 : decode cX7_tell 113 = .ok (.return_, 1) := by decide +kernel
noncomputable def FX7_tell_j62 (I : tq_PI) (L : tq_PL) (b0 : Int32) (b1 : Int32) (b2 : Int32) (b3 : Nat) : Option (tq_PI × tq_PL) :=
  ((FX10_add I L b3 b2 b1 b0).bind fun p7 => some (p7, L))
noncomputable def FX7_tell (I : tq_PI) (L : tq_PL) (a0 : Nat) (a1 : Int32) (a2 : Int32) : Option (tq_PI × tq_PL) :=
  (if a1 = 0 then ((FX7_tellOfHill I L a0 a2).bind fun p2 => some (p2.1, p2.2)) else (if a1 = 1 then (if 0 ≤ (0 : Int32) ∧ (0 : Int32) < 3 then (if a2 = (3 : Int32) then (FX7_tell_j62 I L ((-1 : Int32)) ((I (tq_rg a0 5) ((0 : Int32)).toNatClampNeg)) a2 ((tq_rg a0 2))) else (if 0 ≤ (1 : Int32) ∧ (1 : Int32) < 3 then (FX7_tell_j62 I L ((I (tq_rg a0 5) ((1 : Int32)).toNatClampNeg)) ((I (tq_rg a0 5) ((0 : Int32)).toNatClampNeg)) a2 ((tq_rg a0 2))) else none)) else none) else (if a1 = 2 then (if 0 ≤ (1 : Int32) ∧ (1 : Int32) < 3 then (if 0 ≤ (0 : Int32) ∧ (0 : Int32) < 3 then (if 0 ≤ (2 : Int32) ∧ (2 : Int32) < 3 then ((FX4_add I L ((tq_rg a0 3)) ((((8 : Int32) * (I (tq_rg a0 5) ((1 : Int32)).toNatClampNeg)) + (I (tq_rg a0 5) ((0 : Int32)).toNatClampNeg))) ((I (tq_rg a0 5) ((2 : Int32)).toNatClampNeg))).bind fun p12 => some (p12, L)) else none) else none) else none) else (if 0 ≤ (0 : Int32) ∧ (0 : Int32) < 3 then ((FX9_add I L ((tq_rg a0 4)) ((I (tq_rg a0 5) ((0 : Int32)).toNatClampNeg))).bind fun p14 => some (p14, L)) else none))))
set_option maxRecDepth 100000 in
set_option maxHeartbeats 4000000 in
theorem FX7_tell_j62_x {S : Nat × (Nat → Int32)} {d : Nat} {I : tq_PI} {L : tq_PL} {b0 : Int32} {b1 : Int32} {b2 : Int32} {b3 : Nat} (k3 : tq_sh0 b3 = 10) {q0 : Option Value → tq_PI → tq_PL → Prop} {out : tq_PI × tq_PL} (hf : FX7_tell_j62 I L b0 b1 b2 b3 = some out) (hk : q0 none out.1 out.2) : tq_X S mX7_tell (d + 3) tq_k0 62 ([tq_u, tq_u, tq_u]) ([.int b0, .int b1, .int b2, .ref b3]) (tq_st I L) (tq_Q q0) := by
  unfold FX7_tell_j62 at hf
  obtain ⟨p7, e7, hf⟩ := Option.bind_eq_some_iff.mp hf
  refine ty_callVV ([.int b2, .int b1, .int b0]) ([]) rX7_tell_62 l_X7_207 moX10_add mvX10_add k3 rfl rfl (Nat.le_of_ble_eq_true rfl) ⟨rfl, rfl⟩ (CX10_add k3 e7) ?_
  refine tq_goto rX7_tell_65 ?_
  refine ty_vret rX7_tell_113 rfl rfl ?_
  have hf := Option.some.inj hf
  subst hf
  exact hk

set_option maxRecDepth 100000 in
set_option maxHeartbeats 4000000 in
theorem CX7_tell {S : Nat × (Nat → Int32)} {d : Nat} {I : tq_PI} {L : tq_PL} {a0 : Nat} {a1 : Int32} {a2 : Int32} (h0 : tq_sh0 a0 = 7) {out : tq_PI × tq_PL} (hf : FX7_tell I L a0 a1 a2 = some out) : tq_K S mX7_tell (d + 3) [.ref a0, .int a1, .int a2] I L (tq_one2 (none) out.1 out.2) := by
  unfold FX7_tell at hf
  refine tq_K_of (by decide) (Nat.le_of_ble_eq_true rfl) (ls := [.ref a0, .int a1, .int a2]) rfl ?_
  refine tq_iload_n rX7_tell_0 rfl ?_
  by_cases c1 : a1 = 0
  · rw [if_pos c1] at hf
    refine tq_swIn (tgt := 28) 27 rX7_tell_1 (by rw [c1]; decide) (by rw [c1]; decide) (by rw [c1]; rfl) (by decide) ?_
    refine tq_aload_n rX7_tell_28 rfl ?_
    refine tq_iload_n rX7_tell_29 rfl ?_
    obtain ⟨p2, e2, hf⟩ := Option.bind_eq_some_iff.mp hf
    refine ty_callVV ([.int a2]) ([]) rX7_tell_30 l_X7_203 moX7_tellOfHill mvX7_tellOfHill h0 rfl rfl (Nat.le_of_ble_eq_true rfl) ⟨rfl, rfl⟩ (CX7_tellOfHill h0 e2) ?_
    refine tq_goto rX7_tell_33 ?_
    refine ty_vret rX7_tell_113 rfl rfl ?_
    have hf := Option.some.inj hf
    subst hf
    exact ⟨rfl, rfl, rfl⟩
  · rw [if_neg c1] at hf
    by_cases c3 : a1 = 1
    · rw [if_pos c3] at hf
      refine tq_swIn (tgt := 36) 35 rX7_tell_1 (by rw [c3]; decide) (by rw [c3]; decide) (by rw [c3]; rfl) (by decide) ?_
      refine tq_aload_n rX7_tell_36 rfl ?_
      refine ty_getR rX7_tell_37 f_X7_25 rfl h0 (hp_7_2 h0).1 ?_
      refine tq_iload_n rX7_tell_40 rfl ?_
      refine tq_aload_n rX7_tell_41 rfl ?_
      refine ty_getR rX7_tell_42 f_X7_43 rfl h0 (hp_7_5 h0).1 ?_
      refine tq_iconst (0 : Int32) rX7_tell_45 (by decide) ?_
      obtain ⟨g4, hf⟩ := tq_chk hf
      refine ty_iald (v := 3) rX7_tell_46 (hp_7_5 h0).2.1 (hp_7_5 h0).2.2 rfl (by decide) g4 ?_
      refine tq_iload_n rX7_tell_47 rfl ?_
      refine tq_iconst (3 : Int32) rX7_tell_48 (by decide) ?_
      refine tq_icmp_ne rX7_tell_49 (fun c5 => ?_) (fun c5 => ?_)
      · rw [if_neg c5] at hf
        refine tq_aload_n rX7_tell_56 rfl ?_
        refine ty_getR rX7_tell_57 f_X7_43 rfl h0 (hp_7_5 h0).1 ?_
        refine tq_iconst (1 : Int32) rX7_tell_60 (by decide) ?_
        obtain ⟨g6, hf⟩ := tq_chk hf
        refine ty_iald (v := 3) rX7_tell_61 (hp_7_5 h0).2.1 (hp_7_5 h0).2.2 rfl (by decide) g6 ?_
        exact tq_forget _ (tq_le_u (tq_le_u (tq_le_u tq_le_n))) (FX7_tell_j62_x  (hp_7_2 h0).2.1 hf ⟨rfl, rfl, rfl⟩)
      · rw [if_pos c5] at hf
        refine tq_iconst (-1 : Int32) rX7_tell_52 (by decide) ?_
        refine tq_goto rX7_tell_53 ?_
        exact tq_forget _ (tq_le_u (tq_le_u (tq_le_u tq_le_n))) (FX7_tell_j62_x  (hp_7_2 h0).2.1 hf ⟨rfl, rfl, rfl⟩)
    · rw [if_neg c3] at hf
      by_cases c8 : a1 = 2
      · rw [if_pos c8] at hf
        refine tq_swIn (tgt := 68) 67 rX7_tell_1 (by rw [c8]; decide) (by rw [c8]; decide) (by rw [c8]; rfl) (by decide) ?_
        refine tq_aload_n rX7_tell_68 rfl ?_
        refine ty_getR rX7_tell_69 f_X7_32 rfl h0 (hp_7_3 h0).1 ?_
        refine tq_bipush (8 : Int32) rX7_tell_72 (by decide) ?_
        refine tq_aload_n rX7_tell_74 rfl ?_
        refine ty_getR rX7_tell_75 f_X7_43 rfl h0 (hp_7_5 h0).1 ?_
        refine tq_iconst (1 : Int32) rX7_tell_78 (by decide) ?_
        obtain ⟨g9, hf⟩ := tq_chk hf
        refine ty_iald (v := 3) rX7_tell_79 (hp_7_5 h0).2.1 (hp_7_5 h0).2.2 rfl (by decide) g9 ?_
        refine tq_imul rX7_tell_80 ?_
        refine tq_aload_n rX7_tell_81 rfl ?_
        refine ty_getR rX7_tell_82 f_X7_43 rfl h0 (hp_7_5 h0).1 ?_
        refine tq_iconst (0 : Int32) rX7_tell_85 (by decide) ?_
        obtain ⟨g10, hf⟩ := tq_chk hf
        refine ty_iald (v := 3) rX7_tell_86 (hp_7_5 h0).2.1 (hp_7_5 h0).2.2 rfl (by decide) g10 ?_
        refine tq_iadd rX7_tell_87 ?_
        refine tq_aload_n rX7_tell_88 rfl ?_
        refine ty_getR rX7_tell_89 f_X7_43 rfl h0 (hp_7_5 h0).1 ?_
        refine tq_iconst (2 : Int32) rX7_tell_92 (by decide) ?_
        obtain ⟨g11, hf⟩ := tq_chk hf
        refine ty_iald (v := 3) rX7_tell_93 (hp_7_5 h0).2.1 (hp_7_5 h0).2.2 rfl (by decide) g11 ?_
        obtain ⟨p12, e12, hf⟩ := Option.bind_eq_some_iff.mp hf
        refine ty_callVV ([.int (((8 : Int32) * (I (tq_rg a0 5) ((1 : Int32)).toNatClampNeg)) + (I (tq_rg a0 5) ((0 : Int32)).toNatClampNeg)), .int (I (tq_rg a0 5) ((2 : Int32)).toNatClampNeg)]) ([]) rX7_tell_94 l_X7_211 moX4_add mvX4_add (hp_7_3 h0).2.1 rfl rfl (Nat.le_of_ble_eq_true rfl) ⟨rfl, rfl⟩ (CX4_add (hp_7_3 h0).2.1 e12) ?_
        refine tq_goto rX7_tell_97 ?_
        refine ty_vret rX7_tell_113 rfl rfl ?_
        have hf := Option.some.inj hf
        subst hf
        exact ⟨rfl, rfl, rfl⟩
      · rw [if_neg c8] at hf
        have c1o := tq_ni (c := 0) c1 (by decide)
        have c3o := tq_ni (c := 1) c3 (by decide)
        have c8o := tq_ni (c := 2) c8 (by decide)
        refine tq_swOut (tgt := 100) rX7_tell_1 (by omega) (by decide) ?_
        refine tq_aload_n rX7_tell_100 rfl ?_
        refine ty_getR rX7_tell_101 f_X7_39 rfl h0 (hp_7_4 h0).1 ?_
        refine tq_aload_n rX7_tell_104 rfl ?_
        refine ty_getR rX7_tell_105 f_X7_43 rfl h0 (hp_7_5 h0).1 ?_
        refine tq_iconst (0 : Int32) rX7_tell_108 (by decide) ?_
        obtain ⟨g13, hf⟩ := tq_chk hf
        refine ty_iald (v := 3) rX7_tell_109 (hp_7_5 h0).2.1 (hp_7_5 h0).2.2 rfl (by decide) g13 ?_
        obtain ⟨p14, e14, hf⟩ := Option.bind_eq_some_iff.mp hf
        refine ty_callVV ([.int (I (tq_rg a0 5) ((0 : Int32)).toNatClampNeg)]) ([]) rX7_tell_110 l_X7_213 moX9_add mvX9_add (hp_7_4 h0).2.1 rfl rfl (Nat.le_of_ble_eq_true rfl) ⟨rfl, rfl⟩ (CX9_add (hp_7_4 h0).2.1 e14) ?_
        refine ty_vret rX7_tell_113 rfl rfl ?_
        have hf := Option.some.inj hf
        subst hf
        exact ⟨rfl, rfl, rfl⟩

abbrev mX7_readLine : tq_M := (yX7_readLine, cX7_readLine, 5, (Option.some Jvm.ClassFile.FieldType.boolean), 0, 0)
theorem moX7_blame : tq_mok mX7_blame 2 := ⟨tq_sg1 _ (List.mem_of_getElem? (i := 7) rfl), tq_sg3 _ (List.mem_of_getElem? (i := 69) rfl), ⟨by decide, by decide, by decide +kernel⟩, by decide⟩
theorem mvX7_blame : 7 < 13 ∧ (tq_cl 7).1 = mX7_blame.1.cls ∧ Cond.instanceMethod mX7_blame.1 ∈ lw_tbl ∧ Cond.selects mX7_blame.1.cls mX7_blame.1 mX7_blame.1 ∈ lw_tbl := ⟨by decide, rfl, tq_sg3 _ (List.mem_of_getElem? (i := 68) rfl), List.mem_append_left _ (List.mem_map.mpr ⟨_, List.mem_of_getElem? (i := 10) rfl, rfl⟩)⟩
theorem moX7_isFull : tq_mok mX7_isFull 1 := ⟨tq_sg1 _ (List.mem_of_getElem? (i := 7) rfl), tq_sg3 _ (List.mem_of_getElem? (i := 65) rfl), ⟨by decide, by decide, by decide +kernel⟩, by decide⟩
theorem mvX7_isFull : 7 < 13 ∧ (tq_cl 7).1 = mX7_isFull.1.cls ∧ Cond.instanceMethod mX7_isFull.1 ∈ lw_tbl ∧ Cond.selects mX7_isFull.1.cls mX7_isFull.1 mX7_isFull.1 ∈ lw_tbl := ⟨by decide, rfl, tq_sg3 _ (List.mem_of_getElem? (i := 64) rfl), List.mem_append_left _ (List.mem_map.mpr ⟨_, List.mem_of_getElem? (i := 9) rfl, rfl⟩)⟩
theorem moX7_mayBe : tq_mok mX7_mayBe 3 := ⟨tq_sg1 _ (List.mem_of_getElem? (i := 7) rfl), tq_sg3 _ (List.mem_of_getElem? (i := 76) rfl), ⟨by decide, by decide, by decide +kernel⟩, by decide⟩
theorem mvX7_mayBe : 7 < 13 ∧ (tq_cl 7).1 = mX7_mayBe.1.cls ∧ Cond.instanceMethod mX7_mayBe.1 ∈ lw_tbl ∧ Cond.selects mX7_mayBe.1.cls mX7_mayBe.1 mX7_mayBe.1 ∈ lw_tbl := ⟨by decide, rfl, tq_sg3 _ (List.mem_of_getElem? (i := 75) rfl), List.mem_append_left _ (List.mem_map.mpr ⟨_, List.mem_of_getElem? (i := 11) rfl, rfl⟩)⟩
theorem moX7_next : tq_mok mX7_next 0 := ⟨tq_sg1 _ (List.mem_of_getElem? (i := 7) rfl), tq_sg2 _ (List.mem_of_getElem? (i := 205) rfl), ⟨by decide, by decide, by decide +kernel⟩, by decide⟩
theorem mvX7_next : 7 < 13 ∧ (tq_cl 7).1 = mX7_next.1.cls ∧ Cond.instanceMethod mX7_next.1 ∈ lw_tbl ∧ Cond.selects mX7_next.1.cls mX7_next.1 mX7_next.1 ∈ lw_tbl := ⟨by decide, rfl, tq_sg2 _ (List.mem_of_getElem? (i := 204) rfl), List.mem_append_left _ (List.mem_map.mpr ⟨_, List.mem_of_getElem? (i := 1) rfl, rfl⟩)⟩
theorem moX7_numbersOf : tq_mok mX7_numbersOf 2 := ⟨tq_sg1 _ (List.mem_of_getElem? (i := 7) rfl), tq_sg3 _ (List.mem_of_getElem? (i := 72) rfl), ⟨by decide, by decide, by decide +kernel⟩, by decide⟩
theorem msX7_numbersOf : Cond.static mX7_numbersOf.1 ∈ lw_tbl := tq_sg3 _ (List.mem_of_getElem? (i := 71) rfl)
theorem moX7_tell : tq_mok mX7_tell 2 := ⟨tq_sg1 _ (List.mem_of_getElem? (i := 7) rfl), tq_sg3 _ (List.mem_of_getElem? (i := 80) rfl), ⟨by decide, by decide, by decide +kernel⟩, by decide⟩
theorem mvX7_tell : 7 < 13 ∧ (tq_cl 7).1 = mX7_tell.1.cls ∧ Cond.instanceMethod mX7_tell.1 ∈ lw_tbl ∧ Cond.selects mX7_tell.1.cls mX7_tell.1 mX7_tell.1 ∈ lw_tbl := ⟨by decide, rfl, tq_sg3 _ (List.mem_of_getElem? (i := 79) rfl), List.mem_append_left _ (List.mem_map.mpr ⟨_, List.mem_of_getElem? (i := 12) rfl, rfl⟩)⟩
theorem l_X7_120 : tq_lok RX7 120 mX7_blame.1 := Or.inl (tq_sg3 _ (List.mem_of_getElem? (i := 66) rfl))
theorem l_X7_151 : tq_lok RX7 151 mX7_isFull.1 := Or.inl (tq_sg3 _ (List.mem_of_getElem? (i := 62) rfl))
theorem l_X7_154 : tq_lok RX7 154 mX7_numbersOf.1 := Or.inl (tq_sg3 _ (List.mem_of_getElem? (i := 70) rfl))
theorem l_X7_157 : tq_lok RX7 157 mX7_mayBe.1 := Or.inl (tq_sg3 _ (List.mem_of_getElem? (i := 73) rfl))
theorem l_X7_161 : tq_lok RX7 161 mX7_tell.1 := Or.inl (tq_sg3 _ (List.mem_of_getElem? (i := 77) rfl))
theorem l_X7_88 : tq_lok RX7 88 mX7_next.1 := Or.inl (tq_sg2 _ (List.mem_of_getElem? (i := 202) rfl))
theorem rX7_readLine_0 : tq_D cX7_readLine 0 (.aload_n 0) 1 1 := ⟨by decide +kernel, rfl⟩
theorem rX7_readLine_1 : tq_D cX7_readLine 1 (.iload_n 1) 1 2 := ⟨by decide +kernel, rfl⟩
theorem rX7_readLine_2 : tq_D cX7_readLine 2 (.invokevirtual 151) 3 5 := ⟨by decide +kernel, rfl⟩
theorem rX7_readLine_5 : tq_J cX7_readLine 5 (.ifCond .eq) 17 8 := ⟨12, by decide +kernel, by decide, rfl⟩
theorem rX7_readLine_8 : tq_D cX7_readLine 8 (.aload_n 0) 1 9 := ⟨by decide +kernel, rfl⟩
theorem rX7_readLine_9 : tq_D cX7_readLine 9 (.iconst 3) 1 10 := ⟨by decide +kernel, rfl⟩
theorem rX7_readLine_10 : tq_D cX7_readLine 10 (.aload_n 0) 1 11 := ⟨by decide +kernel, rfl⟩
theorem rX7_readLine_11 : tq_D cX7_readLine 11 (.getfield 58) 3 14 := ⟨by decide +kernel, rfl⟩
theorem rX7_readLine_14 : tq_D cX7_readLine 14 (.invokevirtual 120) 3 17 := ⟨by decide +kernel, rfl⟩
theorem rX7_readLine_17 : tq_D cX7_readLine 17 (.iload_n 1) 1 18 := ⟨by decide +kernel, rfl⟩
theorem rX7_readLine_18 : tq_D cX7_readLine 18 (.iload_n 2) 1 19 := ⟨by decide +kernel, rfl⟩
theorem rX7_readLine_19 : tq_D cX7_readLine 19 (.invokestatic 154) 3 22 := ⟨by decide +kernel, rfl⟩
theorem rX7_readLine_22 : tq_D cX7_readLine 22 (.istore_n 3) 1 23 := ⟨by decide +kernel, rfl⟩
theorem rX7_readLine_23 : tq_D cX7_readLine 23 (.iconst 0) 1 24 := ⟨by decide +kernel, rfl⟩
theorem rX7_readLine_24 : tq_D cX7_readLine 24 (.istore 4) 2 26 := ⟨by decide +kernel, rfl⟩
theorem rX7_readLine_26 : tq_D cX7_readLine 26 (.iload 4) 2 28 := ⟨by decide +kernel, rfl⟩
theorem rX7_readLine_28 : tq_D cX7_readLine 28 (.iload_n 3) 1 29 := ⟨by decide +kernel, rfl⟩
theorem rX7_readLine_29 : tq_J cX7_readLine 29 (.if_icmp .ge) 89 32 := ⟨60, by decide +kernel, by decide, rfl⟩
theorem rX7_readLine_32 : tq_D cX7_readLine 32 (.iload 4) 2 34 := ⟨by decide +kernel, rfl⟩
theorem rX7_readLine_34 : tq_D cX7_readLine 34 (.aload_n 0) 1 35 := ⟨by decide +kernel, rfl⟩
theorem rX7_readLine_35 : tq_D cX7_readLine 35 (.getfield 43) 3 38 := ⟨by decide +kernel, rfl⟩
theorem rX7_readLine_38 : tq_D cX7_readLine 38 (.arraylength) 1 39 := ⟨by decide +kernel, rfl⟩
theorem rX7_readLine_39 : tq_J cX7_readLine 39 (.if_icmp .ge) 89 42 := ⟨50, by decide +kernel, by decide, rfl⟩
theorem rX7_readLine_42 : tq_D cX7_readLine 42 (.aload_n 0) 1 43 := ⟨by decide +kernel, rfl⟩
theorem rX7_readLine_43 : tq_D cX7_readLine 43 (.invokevirtual 88) 3 46 := ⟨by decide +kernel, rfl⟩
theorem rX7_readLine_46 : tq_D cX7_readLine 46 (.iconst 2) 1 47 := ⟨by decide +kernel, rfl⟩
theorem rX7_readLine_47 : tq_J cX7_readLine 47 (.if_icmp .eq) 52 50 := ⟨5, by decide +kernel, by decide, rfl⟩
theorem rX7_readLine_50 : tq_D cX7_readLine 50 (.iconst 0) 1 51 := ⟨by decide +kernel, rfl⟩
theorem rX7_readLine_51 : decode cX7_readLine 51 = .ok (.ireturn, 1) := by decide +kernel
theorem rX7_readLine_52 : tq_D cX7_readLine 52 (.aload_n 0) 1 53 := ⟨by decide +kernel, rfl⟩
theorem rX7_readLine_53 : tq_D cX7_readLine 53 (.getfield 43) 3 56 := ⟨by decide +kernel, rfl⟩
theorem rX7_readLine_56 : tq_D cX7_readLine 56 (.iload 4) 2 58 := ⟨by decide +kernel, rfl⟩
theorem rX7_readLine_58 : tq_D cX7_readLine 58 (.aload_n 0) 1 59 := ⟨by decide +kernel, rfl⟩
theorem rX7_readLine_59 : tq_D cX7_readLine 59 (.getfield 61) 3 62 := ⟨by decide +kernel, rfl⟩
theorem rX7_readLine_62 : tq_D cX7_readLine 62 (.iastore) 1 63 := ⟨by decide +kernel, rfl⟩
theorem rX7_readLine_63 : tq_D cX7_readLine 63 (.aload_n 0) 1 64 := ⟨by decide +kernel, rfl⟩
theorem rX7_readLine_64 : tq_D cX7_readLine 64 (.iload_n 1) 1 65 := ⟨by decide +kernel, rfl⟩
theorem rX7_readLine_65 : tq_D cX7_readLine 65 (.iload_n 2) 1 66 := ⟨by decide +kernel, rfl⟩
theorem rX7_readLine_66 : tq_D cX7_readLine 66 (.iload 4) 2 68 := ⟨by decide +kernel, rfl⟩
theorem rX7_readLine_68 : tq_D cX7_readLine 68 (.invokevirtual 157) 3 71 := ⟨by decide +kernel, rfl⟩
theorem rX7_readLine_71 : tq_J cX7_readLine 71 (.ifCond .ne) 83 74 := ⟨12, by decide +kernel, by decide, rfl⟩
theorem rX7_readLine_74 : tq_D cX7_readLine 74 (.aload_n 0) 1 75 := ⟨by decide +kernel, rfl⟩
theorem rX7_readLine_75 : tq_D cX7_readLine 75 (.iconst 2) 1 76 := ⟨by decide +kernel, rfl⟩
theorem rX7_readLine_76 : tq_D cX7_readLine 76 (.aload_n 0) 1 77 := ⟨by decide +kernel, rfl⟩
theorem rX7_readLine_77 : tq_D cX7_readLine 77 (.getfield 58) 3 80 := ⟨by decide +kernel, rfl⟩
theorem rX7_readLine_80 : tq_D cX7_readLine 80 (.invokevirtual 120) 3 83 := ⟨by decide +kernel, rfl⟩
theorem rX7_readLine_83 : tq_D cX7_readLine 83 (.iinc 4 1) 3 86 := ⟨by decide +kernel, rfl⟩
theorem rX7_readLine_86 : tq_J cX7_readLine 86 .goto 26 89 := ⟨(-60), by decide +kernel, by decide, rfl⟩
theorem rX7_readLine_89 : tq_D cX7_readLine 89 (.aload_n 0) 1 90 := ⟨by decide +kernel, rfl⟩
theorem rX7_readLine_90 : tq_D cX7_readLine 90 (.invokevirtual 88) 3 93 := ⟨by decide +kernel, rfl⟩
theorem rX7_readLine_93 : tq_D cX7_readLine 93 (.iconst 3) 1 94 := ⟨by decide +kernel, rfl⟩
theorem rX7_readLine_94 : tq_J cX7_readLine 94 (.if_icmp .eq) 99 97 := ⟨5, by decide +kernel, by decide, rfl⟩
theorem rX7_readLine_97 : tq_D cX7_readLine 97 (.iconst 0) 1 98 := ⟨by decide +kernel, rfl⟩
theorem rX7_readLine_98 : decode cX7_readLine 98 = .ok (.ireturn, 1) := by decide +kernel
theorem rX7_readLine_99 : tq_D cX7_readLine 99 (.aload_n 0) 1 100 := ⟨by decide +kernel, rfl⟩
theorem rX7_readLine_100 : tq_D cX7_readLine 100 (.iload_n 1) 1 101 := ⟨by decide +kernel, rfl⟩
theorem rX7_readLine_101 : tq_D cX7_readLine 101 (.iload_n 2) 1 102 := ⟨by decide +kernel, rfl⟩
theorem rX7_readLine_102 : tq_D cX7_readLine 102 (.invokevirtual 161) 3 105 := ⟨by decide +kernel, rfl⟩
theorem rX7_readLine_105 : tq_D cX7_readLine 105 (.iconst 1) 1 106 := ⟨by decide +kernel, rfl⟩
theorem rX7_readLine_106 : decode cX7_readLine 106 = .ok (.ireturn, 1) := by decide +kernel
noncomputable def FX7_readLine_j83L26 (I : tq_PI) (L : tq_PL) (a0 : Nat) (a1 : Int32) (a2 : Int32) (a3 : Int32) (a4 : Int32) : Option ((Int32 × tq_PI) ⊕ ((tq_PI) ⊕ (Bool × tq_PI × tq_PL))) :=
  some (.inl ((a4 + 1), I))
noncomputable def FX7_readLine_s26 (I : tq_PI) (L : tq_PL) (a0 : Nat) (a1 : Int32) (a2 : Int32) (a3 : Int32) (a4 : Int32) : Option ((Int32 × tq_PI) ⊕ ((tq_PI) ⊕ (Bool × tq_PI × tq_PL))) :=
  (if a3 ≤ a4 then some (.inr (.inl I)) else (if (3 : Int32) ≤ a4 then some (.inr (.inl I)) else ((FX7_next I L a0).bind fun p6 => (if p6.1 = (2 : Int32) then (if 0 ≤ a4 ∧ a4 < 3 then (tq_let (FX7_mayBe ((tq_up2 p6.2 (tq_rg a0 5) a4.toNatClampNeg (p6.2 a0 10))) L a0 a1 a2 a4) fun p9 => (if (tq_b p9) = 0 then (tq_let (FX7_blame ((tq_up2 p6.2 (tq_rg a0 5) a4.toNatClampNeg (p6.2 a0 10))) L a0 ((2 : Int32)) ((((tq_up2 p6.2 (tq_rg a0 5) a4.toNatClampNeg (p6.2 a0 10))) a0 9))) fun p11 => (FX7_readLine_j83L26 p11 L a0 a1 a2 a3 a4)) else (FX7_readLine_j83L26 ((tq_up2 p6.2 (tq_rg a0 5) a4.toNatClampNeg (p6.2 a0 10))) L a0 a1 a2 a3 a4))) else none) else some (.inr (.inr (false, p6.2, L)))))))
noncomputable def FX7_readLine_j17 (I : tq_PI) (L : tq_PL) (a0 : Nat) (a1 : Int32) (a2 : Int32) : Option (Bool × tq_PI × tq_PL) :=
  (tq_let (FX7_numbersOf I L a1 a2) fun p3 => ((tq_it (fun p : Int32 × tq_PI => FX7_readLine_s26 p.2 L a0 a1 a2 p3 p.1) tq_N ((0 : Int32), I)).bind fun p12 => p12.elim (fun t13 => ((FX7_next t13 L a0).bind fun p14 => (if p14.1 = (3 : Int32) then ((FX7_tell p14.2 L a0 a1 a2).bind fun p16 => some (true, p16.1, p16.2)) else some (false, p14.2, L)))) (fun t13 => some t13)))
noncomputable def FX7_readLine (I : tq_PI) (L : tq_PL) (a0 : Nat) (a1 : Int32) (a2 : Int32) : Option (Bool × tq_PI × tq_PL) :=
  (tq_let (FX7_isFull I L a0 a1) fun p1 => (if (tq_b p1) = 0 then (FX7_readLine_j17 I L a0 a1 a2) else (tq_let (FX7_blame I L a0 ((3 : Int32)) ((I a0 9))) fun p17 => (FX7_readLine_j17 p17 L a0 a1 a2))))
set_option maxRecDepth 100000 in
set_option maxHeartbeats 4000000 in
theorem FX7_readLine_j83L26_x {S : Nat × (Nat → Int32)} {d : Nat} {I : tq_PI} {L : tq_PL} {a0 : Nat} {a1 : Int32} {a2 : Int32} {a3 : Int32} {a4 : Int32} (h0 : tq_sh0 a0 = 7) {q0 : Option Value → tq_PI → tq_PL → Prop} {out : (Int32 × tq_PI) ⊕ ((tq_PI) ⊕ (Bool × tq_PI × tq_PL))} (hf : FX7_readLine_j83L26 I L a0 a1 a2 a3 a4 = some out) (hk : Sum.elim (fun p : Int32 × tq_PI => tq_X S mX7_readLine (d + 4) tq_k0 26 ([.ref a0, .int a1, .int a2, .int a3, .int p.1]) [] (tq_st p.2 L) (tq_Q q0)) (Sum.elim (fun p : tq_PI => tq_X S mX7_readLine (d + 4) tq_k0 89 ([.ref a0, .int a1, .int a2, tq_u, tq_u]) [] (tq_st p L) (tq_Q q0)) (fun p : Bool × tq_PI × tq_PL => q0 (some (.int (tq_b p.1))) p.2.1 p.2.2)) out) : tq_X S mX7_readLine (d + 4) tq_k0 83 ([.ref a0, .int a1, .int a2, .int a3, .int a4]) ([]) (tq_st I L) (tq_Q q0) := by
  unfold FX7_readLine_j83L26 at hf
  refine tq_iinc (a4 + 1) ([.ref a0, .int a1, .int a2, .int a3, .int (a4 + 1)]) rX7_readLine_83 rfl (tq_inc (by decide)) (Nat.le_of_ble_eq_true rfl) rfl ?_
  refine tq_goto rX7_readLine_86 ?_
  have hf := Option.some.inj hf
  subst hf
  exact tq_forget _ (tq_le_s (tq_le_s (tq_le_s (tq_le_s (tq_le_s tq_le_n))))) hk

set_option maxRecDepth 100000 in
set_option maxHeartbeats 4000000 in
theorem FX7_readLine_s26_x {S : Nat × (Nat → Int32)} {d : Nat} {I : tq_PI} {L : tq_PL} {a0 : Nat} {a1 : Int32} {a2 : Int32} {a3 : Int32} {a4 : Int32} (h0 : tq_sh0 a0 = 7) {q0 : Option Value → tq_PI → tq_PL → Prop} {out : (Int32 × tq_PI) ⊕ ((tq_PI) ⊕ (Bool × tq_PI × tq_PL))} (hf : FX7_readLine_s26 I L a0 a1 a2 a3 a4 = some out) (hk : Sum.elim (fun p : Int32 × tq_PI => tq_X S mX7_readLine (d + 4) tq_k0 26 ([.ref a0, .int a1, .int a2, .int a3, .int p.1]) [] (tq_st p.2 L) (tq_Q q0)) (Sum.elim (fun p : tq_PI => tq_X S mX7_readLine (d + 4) tq_k0 89 ([.ref a0, .int a1, .int a2, tq_u, tq_u]) [] (tq_st p L) (tq_Q q0)) (fun p : Bool × tq_PI × tq_PL => q0 (some (.int (tq_b p.1))) p.2.1 p.2.2)) out) : tq_X S mX7_readLine (d + 4) tq_k0 26 ([.ref a0, .int a1, .int a2, .int a3, .int a4]) [] (tq_st I L) (tq_Q q0) := by
  unfold FX7_readLine_s26 at hf
  refine tq_iload rX7_readLine_26 rfl ?_
  refine tq_iload_n rX7_readLine_28 rfl ?_
  refine tq_icmp_ge rX7_readLine_29 (fun c4 => ?_) (fun c4 => ?_)
  · rw [if_pos c4] at hf
    have hf := Option.some.inj hf
    subst hf
    exact tq_forget _ (tq_le_s (tq_le_s (tq_le_s (tq_le_u (tq_le_u tq_le_n))))) hk
  · rw [if_neg c4] at hf
    refine tq_iload rX7_readLine_32 rfl ?_
    refine tq_aload_n rX7_readLine_34 rfl ?_
    refine ty_getR rX7_readLine_35 f_X7_43 rfl h0 (hp_7_5 h0).1 ?_
    refine ty_alen (v := 3) rX7_readLine_38 (hp_7_5 h0).2.1 (by decide) (hp_7_5 h0).2.2 rfl ?_
    refine tq_icmp_ge rX7_readLine_39 (fun c5 => ?_) (fun c5 => ?_)
    · rw [if_pos c5] at hf
      have hf := Option.some.inj hf
      subst hf
      exact tq_forget _ (tq_le_s (tq_le_s (tq_le_s (tq_le_u (tq_le_u tq_le_n))))) hk
    · rw [if_neg c5] at hf
      refine tq_aload_n rX7_readLine_42 rfl ?_
      obtain ⟨p6, e6, hf⟩ := Option.bind_eq_some_iff.mp hf
      refine ty_callVI p6.1 ([]) ([]) rX7_readLine_43 l_X7_88 moX7_next mvX7_next h0 rfl rfl (Nat.le_of_ble_eq_true rfl) ⟨rfl, rfl⟩ (CX7_next h0 e6) ?_
      refine tq_iconst (2 : Int32) rX7_readLine_46 (by decide) ?_
      refine tq_icmp_eq rX7_readLine_47 (fun c7 => ?_) (fun c7 => ?_)
      · rw [if_pos c7] at hf
        refine tq_aload_n rX7_readLine_52 rfl ?_
        refine ty_getR rX7_readLine_53 f_X7_43 rfl h0 (hp_7_5 h0).1 ?_
        refine tq_iload rX7_readLine_56 rfl ?_
        refine tq_aload_n rX7_readLine_58 rfl ?_
        refine ty_getI rX7_readLine_59 f_X7_61 rfl h0 ?_
        obtain ⟨g8, hf⟩ := tq_chk hf
        refine ty_iast (v := 3) rX7_readLine_62 (hp_7_5 h0).2.1 (hp_7_5 h0).2.2 rfl (by decide) g8 ?_
        refine tq_aload_n rX7_readLine_63 rfl ?_
        refine tq_iload_n rX7_readLine_64 rfl ?_
        refine tq_iload_n rX7_readLine_65 rfl ?_
        refine tq_iload rX7_readLine_66 rfl ?_
        obtain ⟨p9, e9, hf⟩ := tq_let_elim hf
        refine ty_callVI (tq_b p9) ([.int a1, .int a2, .int a4]) ([]) rX7_readLine_68 l_X7_157 moX7_mayBe mvX7_mayBe h0 rfl rfl (Nat.le_of_ble_eq_true rfl) ⟨rfl, rfl⟩ (CX7_mayBe h0 e9) ?_
        refine tq_if_ne rX7_readLine_71 (fun c10 => ?_) (fun c10 => ?_)
        · rw [if_neg c10] at hf
          exact tq_forget _ (tq_le_s (tq_le_s (tq_le_s (tq_le_s (tq_le_s tq_le_n))))) (FX7_readLine_j83L26_x  h0 hf hk)
        · rw [if_pos c10] at hf
          refine tq_aload_n rX7_readLine_74 rfl ?_
          refine tq_iconst (2 : Int32) rX7_readLine_75 (by decide) ?_
          refine tq_aload_n rX7_readLine_76 rfl ?_
          refine ty_getI rX7_readLine_77 f_X7_58 rfl h0 ?_
          obtain ⟨p11, e11, hf⟩ := tq_let_elim hf
          refine ty_callVV ([.int (2 : Int32), .int (((tq_up2 p6.2 (tq_rg a0 5) a4.toNatClampNeg (p6.2 a0 10))) a0 9)]) ([]) rX7_readLine_80 l_X7_120 moX7_blame mvX7_blame h0 rfl rfl (Nat.le_of_ble_eq_true rfl) ⟨rfl, rfl⟩ (CX7_blame h0 e11) ?_
          exact tq_forget _ (tq_le_s (tq_le_s (tq_le_s (tq_le_s (tq_le_s tq_le_n))))) (FX7_readLine_j83L26_x  h0 hf hk)
      · rw [if_neg c7] at hf
        refine tq_iconst (0 : Int32) rX7_readLine_50 (by decide) ?_
        refine ty_zret (ty := .boolean) rX7_readLine_51 rfl rfl rfl ?_
        have hf := Option.some.inj hf
        subst hf
        exact hk

set_option maxRecDepth 100000 in
set_option maxHeartbeats 4000000 in
theorem FX7_readLine_j17_x {S : Nat × (Nat → Int32)} {d : Nat} {I : tq_PI} {L : tq_PL} {a0 : Nat} {a1 : Int32} {a2 : Int32} (h0 : tq_sh0 a0 = 7) {q0 : Option Value → tq_PI → tq_PL → Prop} {out : Bool × tq_PI × tq_PL} (hf : FX7_readLine_j17 I L a0 a1 a2 = some out) (hk : q0 (some (.int (tq_b out.1))) out.2.1 out.2.2) : tq_X S mX7_readLine (d + 4) tq_k0 17 ([.ref a0, .int a1, .int a2, tq_u, tq_u]) ([]) (tq_st I L) (tq_Q q0) := by
  unfold FX7_readLine_j17 at hf
  refine tq_iload_n rX7_readLine_17 rfl ?_
  refine tq_iload_n rX7_readLine_18 rfl ?_
  obtain ⟨p3, e3, hf⟩ := tq_let_elim hf
  refine ty_callSI p3 ([.int a1, .int a2]) ([]) rX7_readLine_19 l_X7_154 moX7_numbersOf msX7_numbersOf rfl rfl (Nat.le_of_ble_eq_true rfl) ⟨rfl, rfl⟩ (CX7_numbersOf  e3) ?_
  refine tq_istore_n ([.ref a0, .int a1, .int a2, .int p3, tq_u]) rX7_readLine_22 (Nat.le_of_ble_eq_true rfl) rfl ?_
  refine tq_iconst (0 : Int32) rX7_readLine_23 (by decide) ?_
  refine tq_istore ([.ref a0, .int a1, .int a2, .int p3, .int (0 : Int32)]) rX7_readLine_24 (Nat.le_of_ble_eq_true rfl) rfl ?_
  obtain ⟨p12, e12, hf⟩ := Option.bind_eq_some_iff.mp hf
  refine tq_forget _ (tq_le_s (tq_le_s (tq_le_s (tq_le_s (tq_le_s tq_le_n))))) ?_
  refine tq_it_elim (P := fun p : Int32 × tq_PI => tq_X S mX7_readLine (d + 4) tq_k0 26 ([.ref a0, .int a1, .int a2, .int p3, .int p.1]) [] (tq_st p.2 L) (tq_Q q0)) (R := Sum.elim (fun p : tq_PI => tq_X S mX7_readLine (d + 4) tq_k0 89 ([.ref a0, .int a1, .int a2, tq_u, tq_u]) [] (tq_st p L) (tq_Q q0)) (fun p : Bool × tq_PI × tq_PL => q0 (some (.int (tq_b p.1))) p.2.1 p.2.2)) (fun p o hp hk => FX7_readLine_s26_x  h0 hp hk) _ (((0 : Int32), I)) _ e12 ?_
  rcases tq_selim hf with ⟨t13, t13q, hf⟩ | ⟨t13, t13q, hf⟩
  · rw [t13q]
    show tq_X _ _ _ _ _ _ _ _ _
    refine tq_aload_n rX7_readLine_89 rfl ?_
    obtain ⟨p14, e14, hf⟩ := Option.bind_eq_some_iff.mp hf
    refine ty_callVI p14.1 ([]) ([]) rX7_readLine_90 l_X7_88 moX7_next mvX7_next h0 rfl rfl (Nat.le_of_ble_eq_true rfl) ⟨rfl, rfl⟩ (CX7_next h0 e14) ?_
    refine tq_iconst (3 : Int32) rX7_readLine_93 (by decide) ?_
    refine tq_icmp_eq rX7_readLine_94 (fun c15 => ?_) (fun c15 => ?_)
    · rw [if_pos c15] at hf
      refine tq_aload_n rX7_readLine_99 rfl ?_
      refine tq_iload_n rX7_readLine_100 rfl ?_
      refine tq_iload_n rX7_readLine_101 rfl ?_
      obtain ⟨p16, e16, hf⟩ := Option.bind_eq_some_iff.mp hf
      refine ty_callVV ([.int a1, .int a2]) ([]) rX7_readLine_102 l_X7_161 moX7_tell mvX7_tell h0 rfl rfl (Nat.le_of_ble_eq_true rfl) ⟨rfl, rfl⟩ (CX7_tell h0 e16) ?_
      refine tq_iconst (1 : Int32) rX7_readLine_105 (by decide) ?_
      refine ty_zret (ty := .boolean) rX7_readLine_106 rfl rfl rfl ?_
      have hf := Option.some.inj hf
      subst hf
      exact hk
    · rw [if_neg c15] at hf
      refine tq_iconst (0 : Int32) rX7_readLine_97 (by decide) ?_
      refine ty_zret (ty := .boolean) rX7_readLine_98 rfl rfl rfl ?_
      have hf := Option.some.inj hf
      subst hf
      exact hk
  · rw [t13q]
    have hf := Option.some.inj hf
    subst hf
    exact hk

set_option maxRecDepth 100000 in
set_option maxHeartbeats 4000000 in
theorem CX7_readLine {S : Nat × (Nat → Int32)} {d : Nat} {I : tq_PI} {L : tq_PL} {a0 : Nat} {a1 : Int32} {a2 : Int32} (h0 : tq_sh0 a0 = 7) {out : Bool × tq_PI × tq_PL} (hf : FX7_readLine I L a0 a1 a2 = some out) : tq_K S mX7_readLine (d + 4) [.ref a0, .int a1, .int a2] I L (tq_one2 (some (.int (tq_b out.1))) out.2.1 out.2.2) := by
  unfold FX7_readLine at hf
  refine tq_K_of (by decide) (Nat.le_of_ble_eq_true rfl) (ls := [.ref a0, .int a1, .int a2, tq_u, tq_u]) rfl ?_
  refine tq_aload_n rX7_readLine_0 rfl ?_
  refine tq_iload_n rX7_readLine_1 rfl ?_
  obtain ⟨p1, e1, hf⟩ := tq_let_elim hf
  refine ty_callVI (tq_b p1) ([.int a1]) ([]) rX7_readLine_2 l_X7_151 moX7_isFull mvX7_isFull h0 rfl rfl (Nat.le_of_ble_eq_true rfl) ⟨rfl, rfl⟩ (CX7_isFull h0 e1) ?_
  refine tq_if_eq rX7_readLine_5 (fun c2 => ?_) (fun c2 => ?_)
  · rw [if_pos c2] at hf
    exact tq_forget _ (tq_le_s (tq_le_s (tq_le_s (tq_le_u (tq_le_u tq_le_n))))) (FX7_readLine_j17_x  h0 hf ⟨rfl, rfl, rfl⟩)
  · rw [if_neg c2] at hf
    refine tq_aload_n rX7_readLine_8 rfl ?_
    refine tq_iconst (3 : Int32) rX7_readLine_9 (by decide) ?_
    refine tq_aload_n rX7_readLine_10 rfl ?_
    refine ty_getI rX7_readLine_11 f_X7_58 rfl h0 ?_
    obtain ⟨p17, e17, hf⟩ := tq_let_elim hf
    refine ty_callVV ([.int (3 : Int32), .int (I a0 9)]) ([]) rX7_readLine_14 l_X7_120 moX7_blame mvX7_blame h0 rfl rfl (Nat.le_of_ble_eq_true rfl) ⟨rfl, rfl⟩ (CX7_blame h0 e17) ?_
    exact tq_forget _ (tq_le_s (tq_le_s (tq_le_s (tq_le_u (tq_le_u tq_le_n))))) (FX7_readLine_j17_x  h0 hf ⟨rfl, rfl, rfl⟩)

abbrev mX7_finishHill : tq_M := (yX7_finishHill, cX7_finishHill, 1, (Option.none : Option Jvm.ClassFile.FieldType), 0, 0)
theorem f_X7_115 : tq_fok RX7 115 3 2 := ⟨by decide, by decide, Or.inr ⟨_, tq_sg1 _ (List.mem_of_getElem? (i := 53) rfl)⟩⟩
theorem k_X7_118 : Cond.constantLong RX7 118 (-1) ∈ lw_tbl := tq_sg3 _ (List.mem_of_getElem? (i := 110) rfl)
theorem l_X7_127 : tq_lok RX7 127 mX3_solid.1 := Or.inl (tq_sg3 _ (List.mem_of_getElem? (i := 111) rfl))
theorem l_X7_131 : tq_lok RX7 131 mX3_standing.1 := Or.inl (tq_sg3 _ (List.mem_of_getElem? (i := 119) rfl))
theorem rX7_finishHill_0 : tq_D cX7_finishHill 0 (.aload_n 0) 1 1 := ⟨by decide +kernel, rfl⟩
theorem rX7_finishHill_1 : tq_D cX7_finishHill 1 (.getfield 47) 3 4 := ⟨by decide +kernel, rfl⟩
theorem rX7_finishHill_4 : tq_D cX7_finishHill 4 (.aload_n 0) 1 5 := ⟨by decide +kernel, rfl⟩
theorem rX7_finishHill_5 : tq_D cX7_finishHill 5 (.getfield 18) 3 8 := ⟨by decide +kernel, rfl⟩
theorem rX7_finishHill_8 : tq_D cX7_finishHill 8 (.getfield 115) 3 11 := ⟨by decide +kernel, rfl⟩
theorem rX7_finishHill_11 : tq_D cX7_finishHill 11 (.ldc2_w 118) 3 14 := ⟨by decide +kernel, rfl⟩
theorem rX7_finishHill_14 : tq_D cX7_finishHill 14 (.lxor) 1 15 := ⟨by decide +kernel, rfl⟩
theorem rX7_finishHill_15 : tq_D cX7_finishHill 15 (.land) 1 16 := ⟨by decide +kernel, rfl⟩
theorem rX7_finishHill_16 : tq_D cX7_finishHill 16 (.lconst 0) 1 17 := ⟨by decide +kernel, rfl⟩
theorem rX7_finishHill_17 : tq_D cX7_finishHill 17 (.lcmp) 1 18 := ⟨by decide +kernel, rfl⟩
theorem rX7_finishHill_18 : tq_J cX7_finishHill 18 (.ifCond .eq) 30 21 := ⟨12, by decide +kernel, by decide, rfl⟩
theorem rX7_finishHill_21 : tq_D cX7_finishHill 21 (.aload_n 0) 1 22 := ⟨by decide +kernel, rfl⟩
theorem rX7_finishHill_22 : tq_D cX7_finishHill 22 (.iconst 4) 1 23 := ⟨by decide +kernel, rfl⟩
theorem rX7_finishHill_23 : tq_D cX7_finishHill 23 (.aload_n 0) 1 24 := ⟨by decide +kernel, rfl⟩
theorem rX7_finishHill_24 : tq_D cX7_finishHill 24 (.getfield 51) 3 27 := ⟨by decide +kernel, rfl⟩
theorem rX7_finishHill_27 : tq_D cX7_finishHill 27 (.invokevirtual 120) 3 30 := ⟨by decide +kernel, rfl⟩
theorem rX7_finishHill_30 : tq_D cX7_finishHill 30 (.aload_n 0) 1 31 := ⟨by decide +kernel, rfl⟩
theorem rX7_finishHill_31 : tq_D cX7_finishHill 31 (.getfield 18) 3 34 := ⟨by decide +kernel, rfl⟩
theorem rX7_finishHill_34 : tq_D cX7_finishHill 34 (.iconst 1) 1 35 := ⟨by decide +kernel, rfl⟩
theorem rX7_finishHill_35 : tq_D cX7_finishHill 35 (.aload_n 0) 1 36 := ⟨by decide +kernel, rfl⟩
theorem rX7_finishHill_36 : tq_D cX7_finishHill 36 (.getfield 18) 3 39 := ⟨by decide +kernel, rfl⟩
theorem rX7_finishHill_39 : tq_D cX7_finishHill 39 (.getfield 115) 3 42 := ⟨by decide +kernel, rfl⟩
theorem rX7_finishHill_42 : tq_D cX7_finishHill 42 (.aload_n 0) 1 43 := ⟨by decide +kernel, rfl⟩
theorem rX7_finishHill_43 : tq_D cX7_finishHill 43 (.getfield 47) 3 46 := ⟨by decide +kernel, rfl⟩
theorem rX7_finishHill_46 : tq_D cX7_finishHill 46 (.ldc2_w 118) 3 49 := ⟨by decide +kernel, rfl⟩
theorem rX7_finishHill_49 : tq_D cX7_finishHill 49 (.lxor) 1 50 := ⟨by decide +kernel, rfl⟩
theorem rX7_finishHill_50 : tq_D cX7_finishHill 50 (.land) 1 51 := ⟨by decide +kernel, rfl⟩
theorem rX7_finishHill_51 : tq_D cX7_finishHill 51 (.invokevirtual 123) 3 54 := ⟨by decide +kernel, rfl⟩
theorem rX7_finishHill_54 : tq_D cX7_finishHill 54 (.aload_n 0) 1 55 := ⟨by decide +kernel, rfl⟩
theorem rX7_finishHill_55 : tq_D cX7_finishHill 55 (.getfield 18) 3 58 := ⟨by decide +kernel, rfl⟩
theorem rX7_finishHill_58 : tq_D cX7_finishHill 58 (.aload_n 0) 1 59 := ⟨by decide +kernel, rfl⟩
theorem rX7_finishHill_59 : tq_D cX7_finishHill 59 (.getfield 18) 3 62 := ⟨by decide +kernel, rfl⟩
theorem rX7_finishHill_62 : tq_D cX7_finishHill 62 (.invokevirtual 127) 3 65 := ⟨by decide +kernel, rfl⟩
theorem rX7_finishHill_65 : tq_D cX7_finishHill 65 (.invokevirtual 131) 3 68 := ⟨by decide +kernel, rfl⟩
theorem rX7_finishHill_68 : tq_D cX7_finishHill 68 (.aload_n 0) 1 69 := ⟨by decide +kernel, rfl⟩
theorem rX7_finishHill_69 : tq_D cX7_finishHill 69 (.getfield 18) 3 72 := ⟨by decide +kernel, rfl⟩
theorem rX7_finishHill_72 : tq_D cX7_finishHill 72 (.invokevirtual 127) 3 75 := ⟨by decide +kernel, rfl⟩
theorem rX7_finishHill_75 : tq_D cX7_finishHill 75 (.lcmp) 1 76 := ⟨by decide +kernel, rfl⟩
theorem rX7_finishHill_76 : tq_J cX7_finishHill 76 (.ifCond .eq) 88 79 := ⟨12, by decide +kernel, by decide, rfl⟩
theorem rX7_finishHill_79 : tq_D cX7_finishHill 79 (.aload_n 0) 1 80 := ⟨by decide +kernel, rfl⟩
theorem rX7_finishHill_80 : tq_D cX7_finishHill 80 (.iconst 5) 1 81 := ⟨by decide +kernel, rfl⟩
theorem rX7_finishHill_81 : tq_D cX7_finishHill 81 (.aload_n 0) 1 82 := ⟨by decide +kernel, rfl⟩
theorem rX7_finishHill_82 : tq_D cX7_finishHill 82 (.getfield 51) 3 85 := ⟨by decide +kernel, rfl⟩
theorem rX7_finishHill_85 : tq_D cX7_finishHill 85 (.invokevirtual 120) 3 88 := ⟨by decide +kernel, rfl⟩
theorem rX7_finishHill_88 : decode cX7_finishHill 88 = .ok (.return_, 1) := by decide +kernel
noncomputable def FX7_finishHill_j30 (I : tq_PI) (L : tq_PL) (a0 : Nat) : tq_PI × tq_PL :=
  (tq_let (FX3_put I L ((tq_rg a0 1)) ((1 : Int32)) (((L (tq_rg a0 1) 2) &&& ((L a0 6) ^^^ (-1 : Int64))))) fun p2 => (tq_let (FX3_solid I p2 ((tq_rg a0 1))) fun p3 => (tq_let (FX3_standing I p2 ((tq_rg a0 1)) p3) fun p4 => (tq_let (FX3_solid I p2 ((tq_rg a0 1))) fun p5 => (if (lg_cmp p4 p5) = 0 then (I, p2) else (tq_let (FX7_blame I p2 a0 ((5 : Int32)) ((I a0 7))) fun p7 => (p7, p2)))))))
noncomputable def FX7_finishHill (I : tq_PI) (L : tq_PL) (a0 : Nat) : tq_PI × tq_PL :=
  (if (lg_cmp ((L a0 6) &&& ((L (tq_rg a0 1) 2) ^^^ (-1 : Int64))) (0 : Int64)) = 0 then (FX7_finishHill_j30 I L a0) else (tq_let (FX7_blame I L a0 ((4 : Int32)) ((I a0 7))) fun p8 => (FX7_finishHill_j30 p8 L a0)))
set_option maxRecDepth 100000 in
set_option maxHeartbeats 4000000 in
theorem FX7_finishHill_j30_x {S : Nat × (Nat → Int32)} {d : Nat} {I : tq_PI} {L : tq_PL} {a0 : Nat} (h0 : tq_sh0 a0 = 7) {q0 : Option Value → tq_PI → tq_PL → Prop} {out : tq_PI × tq_PL} (hf : FX7_finishHill_j30 I L a0 = out) (hk : q0 none out.1 out.2) : tq_X S mX7_finishHill (d + 2) tq_k0 30 ([.ref a0]) ([]) (tq_st I L) (tq_Q q0) := by
  unfold FX7_finishHill_j30 at hf
  refine tq_aload_n rX7_finishHill_30 rfl ?_
  refine ty_getR rX7_finishHill_31 f_X7_18 rfl h0 (hp_7_1 h0).1 ?_
  refine tq_iconst (1 : Int32) rX7_finishHill_34 (by decide) ?_
  refine tq_aload_n rX7_finishHill_35 rfl ?_
  refine ty_getR rX7_finishHill_36 f_X7_18 rfl h0 (hp_7_1 h0).1 ?_
  refine ty_getL rX7_finishHill_39 f_X7_115 rfl (hp_7_1 h0).2.1 ?_
  refine tq_aload_n rX7_finishHill_42 rfl ?_
  refine ty_getL rX7_finishHill_43 f_X7_47 rfl h0 ?_
  refine tq_ldc2 rX7_finishHill_46 (k_X7_118) ?_
  refine tq_lxor rX7_finishHill_49 ?_
  refine tq_land rX7_finishHill_50 ?_
  obtain ⟨p2, e2, hf⟩ := tq_let_elim hf
  refine ty_callVV ([.int (1 : Int32), .long ((L (tq_rg a0 1) 2) &&& ((L a0 6) ^^^ (-1 : Int64)))]) ([]) rX7_finishHill_51 l_X7_123 moX3_put mvX3_put (hp_7_1 h0).2.1 rfl rfl (Nat.le_of_ble_eq_true rfl) ⟨rfl, rfl⟩ (CX3_put (hp_7_1 h0).2.1 e2) ?_
  refine tq_aload_n rX7_finishHill_54 rfl ?_
  refine ty_getR rX7_finishHill_55 f_X7_18 rfl h0 (hp_7_1 h0).1 ?_
  refine tq_aload_n rX7_finishHill_58 rfl ?_
  refine ty_getR rX7_finishHill_59 f_X7_18 rfl h0 (hp_7_1 h0).1 ?_
  obtain ⟨p3, e3, hf⟩ := tq_let_elim hf
  refine ty_callVJ p3 ([]) ([.ref (tq_rg a0 1)]) rX7_finishHill_62 l_X7_127 moX3_solid mvX3_solid (hp_7_1 h0).2.1 rfl rfl (Nat.le_of_ble_eq_true rfl) ⟨rfl, rfl⟩ (CX3_solid (hp_7_1 h0).2.1 e3) ?_
  obtain ⟨p4, e4, hf⟩ := tq_let_elim hf
  refine ty_callVJ p4 ([.long p3]) ([]) rX7_finishHill_65 l_X7_131 moX3_standing mvX3_standing (hp_7_1 h0).2.1 rfl rfl (Nat.le_of_ble_eq_true rfl) ⟨rfl, rfl⟩ (CX3_standing (hp_7_1 h0).2.1 e4) ?_
  refine tq_aload_n rX7_finishHill_68 rfl ?_
  refine ty_getR rX7_finishHill_69 f_X7_18 rfl h0 (hp_7_1 h0).1 ?_
  obtain ⟨p5, e5, hf⟩ := tq_let_elim hf
  refine ty_callVJ p5 ([]) ([.long p4]) rX7_finishHill_72 l_X7_127 moX3_solid mvX3_solid (hp_7_1 h0).2.1 rfl rfl (Nat.le_of_ble_eq_true rfl) ⟨rfl, rfl⟩ (CX3_solid (hp_7_1 h0).2.1 e5) ?_
  refine tq_lcmp rX7_finishHill_75 ?_
  refine tq_if_eq rX7_finishHill_76 (fun c6 => ?_) (fun c6 => ?_)
  · rw [if_pos c6] at hf
    refine ty_vret rX7_finishHill_88 rfl rfl ?_
    subst hf
    exact hk
  · rw [if_neg c6] at hf
    refine tq_aload_n rX7_finishHill_79 rfl ?_
    refine tq_iconst (5 : Int32) rX7_finishHill_80 (by decide) ?_
    refine tq_aload_n rX7_finishHill_81 rfl ?_
    refine ty_getI rX7_finishHill_82 f_X7_51 rfl h0 ?_
    obtain ⟨p7, e7, hf⟩ := tq_let_elim hf
    refine ty_callVV ([.int (5 : Int32), .int (I a0 7)]) ([]) rX7_finishHill_85 l_X7_120 moX7_blame mvX7_blame h0 rfl rfl (Nat.le_of_ble_eq_true rfl) ⟨rfl, rfl⟩ (CX7_blame h0 e7) ?_
    refine ty_vret rX7_finishHill_88 rfl rfl ?_
    subst hf
    exact hk

set_option maxRecDepth 100000 in
set_option maxHeartbeats 4000000 in
theorem CX7_finishHill {S : Nat × (Nat → Int32)} {d : Nat} {I : tq_PI} {L : tq_PL} {a0 : Nat} (h0 : tq_sh0 a0 = 7) {out : tq_PI × tq_PL} (hf : FX7_finishHill I L a0 = out) : tq_K S mX7_finishHill (d + 2) [.ref a0] I L (tq_one2 (none) out.1 out.2) := by
  unfold FX7_finishHill at hf
  refine tq_K_of (by decide) (Nat.le_of_ble_eq_true rfl) (ls := [.ref a0]) rfl ?_
  refine tq_aload_n rX7_finishHill_0 rfl ?_
  refine ty_getL rX7_finishHill_1 f_X7_47 rfl h0 ?_
  refine tq_aload_n rX7_finishHill_4 rfl ?_
  refine ty_getR rX7_finishHill_5 f_X7_18 rfl h0 (hp_7_1 h0).1 ?_
  refine ty_getL rX7_finishHill_8 f_X7_115 rfl (hp_7_1 h0).2.1 ?_
  refine tq_ldc2 rX7_finishHill_11 (k_X7_118) ?_
  refine tq_lxor rX7_finishHill_14 ?_
  refine tq_land rX7_finishHill_15 ?_
  refine tq_lconst (0 : Int64) rX7_finishHill_16 (by decide) ?_
  refine tq_lcmp rX7_finishHill_17 ?_
  refine tq_if_eq rX7_finishHill_18 (fun c1 => ?_) (fun c1 => ?_)
  · rw [if_pos c1] at hf
    exact tq_forget _ (tq_le_s tq_le_n) (FX7_finishHill_j30_x  h0 hf ⟨rfl, rfl, rfl⟩)
  · rw [if_neg c1] at hf
    refine tq_aload_n rX7_finishHill_21 rfl ?_
    refine tq_iconst (4 : Int32) rX7_finishHill_22 (by decide) ?_
    refine tq_aload_n rX7_finishHill_23 rfl ?_
    refine ty_getI rX7_finishHill_24 f_X7_51 rfl h0 ?_
    obtain ⟨p8, e8, hf⟩ := tq_let_elim hf
    refine ty_callVV ([.int (4 : Int32), .int (I a0 7)]) ([]) rX7_finishHill_27 l_X7_120 moX7_blame mvX7_blame h0 rfl rfl (Nat.le_of_ble_eq_true rfl) ⟨rfl, rfl⟩ (CX7_blame h0 e8) ?_
    exact tq_forget _ (tq_le_s tq_le_n) (FX7_finishHill_j30_x  h0 hf ⟨rfl, rfl, rfl⟩)

abbrev mX7_read : tq_M := (yX7_read, cX7_read, 7, (Option.none : Option Jvm.ClassFile.FieldType), 0, 0)
theorem moX7_begin : tq_mok mX7_begin 0 := ⟨tq_sg1 _ (List.mem_of_getElem? (i := 7) rfl), tq_sg2 _ (List.mem_of_getElem? (i := 188) rfl), ⟨by decide, by decide, by decide +kernel⟩, by decide⟩
theorem mvX7_begin : 7 < 13 ∧ (tq_cl 7).1 = mX7_begin.1.cls ∧ Cond.instanceMethod mX7_begin.1 ∈ lw_tbl ∧ Cond.selects mX7_begin.1.cls mX7_begin.1 mX7_begin.1 ∈ lw_tbl := ⟨by decide, rfl, tq_sg2 _ (List.mem_of_getElem? (i := 187) rfl), List.mem_append_left _ (List.mem_map.mpr ⟨_, List.mem_of_getElem? (i := 0) rfl, rfl⟩)⟩
theorem moX7_finishHill : tq_mok mX7_finishHill 0 := ⟨tq_sg1 _ (List.mem_of_getElem? (i := 7) rfl), tq_sg3 _ (List.mem_of_getElem? (i := 109) rfl), ⟨by decide, by decide, by decide +kernel⟩, by decide⟩
theorem mvX7_finishHill : 7 < 13 ∧ (tq_cl 7).1 = mX7_finishHill.1.cls ∧ Cond.instanceMethod mX7_finishHill.1 ∈ lw_tbl ∧ Cond.selects mX7_finishHill.1.cls mX7_finishHill.1 mX7_finishHill.1 ∈ lw_tbl := ⟨by decide, rfl, tq_sg3 _ (List.mem_of_getElem? (i := 108) rfl), List.mem_append_left _ (List.mem_map.mpr ⟨_, List.mem_of_getElem? (i := 14) rfl, rfl⟩)⟩
theorem moX7_keyword : tq_mok mX7_keyword 1 := ⟨tq_sg1 _ (List.mem_of_getElem? (i := 7) rfl), tq_sg2 _ (List.mem_of_getElem? (i := 226) rfl), ⟨by decide, by decide, by decide +kernel⟩, by decide⟩
theorem mvX7_keyword : 7 < 13 ∧ (tq_cl 7).1 = mX7_keyword.1.cls ∧ Cond.instanceMethod mX7_keyword.1 ∈ lw_tbl ∧ Cond.selects mX7_keyword.1.cls mX7_keyword.1 mX7_keyword.1 ∈ lw_tbl := ⟨by decide, rfl, tq_sg2 _ (List.mem_of_getElem? (i := 225) rfl), List.mem_append_left _ (List.mem_map.mpr ⟨_, List.mem_of_getElem? (i := 4) rfl, rfl⟩)⟩
theorem moX7_readLine : tq_mok mX7_readLine 2 := ⟨tq_sg1 _ (List.mem_of_getElem? (i := 7) rfl), tq_sg3 _ (List.mem_of_getElem? (i := 61) rfl), ⟨by decide, by decide, by decide +kernel⟩, by decide⟩
theorem mvX7_readLine : 7 < 13 ∧ (tq_cl 7).1 = mX7_readLine.1.cls ∧ Cond.instanceMethod mX7_readLine.1 ∈ lw_tbl ∧ Cond.selects mX7_readLine.1.cls mX7_readLine.1 mX7_readLine.1 ∈ lw_tbl := ⟨by decide, rfl, tq_sg3 _ (List.mem_of_getElem? (i := 60) rfl), List.mem_append_left _ (List.mem_map.mpr ⟨_, List.mem_of_getElem? (i := 8) rfl, rfl⟩)⟩
theorem l_X7_100 : tq_lok RX7 100 mX7_finishHill.1 := Or.inl (tq_sg3 _ (List.mem_of_getElem? (i := 106) rfl))
theorem l_X7_85 : tq_lok RX7 85 mX7_begin.1 := Or.inl (tq_sg2 _ (List.mem_of_getElem? (i := 185) rfl))
theorem l_X7_92 : tq_lok RX7 92 mX7_keyword.1 := Or.inl (tq_sg2 _ (List.mem_of_getElem? (i := 223) rfl))
theorem l_X7_96 : tq_lok RX7 96 mX7_readLine.1 := Or.inl (tq_sg3 _ (List.mem_of_getElem? (i := 58) rfl))
theorem n_X7_70 : Cond.methodLink RX7 70 Lib.Math.min.name ∈ lw_tbl ∧ Cond.static Lib.Math.min.name ∈ lw_tbl ∧ Cond.initialized "java/lang/Math" ∈ lw_tbl ∧ Cond.code Lib.Math.min.name Lib.Math.min.code 2 (some .int) ∈ lw_tbl := ⟨tq_sg2 _ (List.mem_of_getElem? (i := 176) rfl), tq_sg2 _ (List.mem_of_getElem? (i := 177) rfl), tq_sg1 _ (List.mem_of_getElem? (i := 14) rfl), tq_sg2 _ (List.mem_of_getElem? (i := 178) rfl)⟩
theorem n_X7_76 : Cond.methodLink RX7 76 Lib.Math.max.name ∈ lw_tbl ∧ Cond.static Lib.Math.max.name ∈ lw_tbl ∧ Cond.initialized "java/lang/Math" ∈ lw_tbl ∧ Cond.code Lib.Math.max.name Lib.Math.max.code 2 (some .int) ∈ lw_tbl := ⟨tq_sg2 _ (List.mem_of_getElem? (i := 179) rfl), tq_sg2 _ (List.mem_of_getElem? (i := 180) rfl), tq_sg1 _ (List.mem_of_getElem? (i := 14) rfl), tq_sg2 _ (List.mem_of_getElem? (i := 181) rfl)⟩
theorem n_X7_79 : Cond.methodLink RX7 79 arraycopyName ∈ lw_tbl ∧ Cond.native arraycopyName ∈ lw_tbl ∧ Cond.static arraycopyName ∈ lw_tbl ∧ Cond.initialized "java/lang/System" ∈ lw_tbl := ⟨tq_sg2 _ (List.mem_of_getElem? (i := 182) rfl), tq_sg2 _ (List.mem_of_getElem? (i := 184) rfl), tq_sg2 _ (List.mem_of_getElem? (i := 183) rfl), tq_sg1 _ (List.mem_of_getElem? (i := 15) rfl)⟩
theorem rX7_read_0 : tq_D cX7_read 0 (.aload_n 0) 1 1 := ⟨by decide +kernel, rfl⟩
theorem rX7_read_1 : tq_D cX7_read 1 (.iconst 0) 1 2 := ⟨by decide +kernel, rfl⟩
theorem rX7_read_2 : tq_D cX7_read 2 (.iload_n 2) 1 3 := ⟨by decide +kernel, rfl⟩
theorem rX7_read_3 : tq_D cX7_read 3 (.aload_n 1) 1 4 := ⟨by decide +kernel, rfl⟩
theorem rX7_read_4 : tq_D cX7_read 4 (.arraylength) 1 5 := ⟨by decide +kernel, rfl⟩
theorem rX7_read_5 : tq_D cX7_read 5 (.aload_n 0) 1 6 := ⟨by decide +kernel, rfl⟩
theorem rX7_read_6 : tq_D cX7_read 6 (.getfield 9) 3 9 := ⟨by decide +kernel, rfl⟩
theorem rX7_read_9 : tq_D cX7_read 9 (.arraylength) 1 10 := ⟨by decide +kernel, rfl⟩
theorem rX7_read_10 : tq_D cX7_read 10 (.invokestatic 70) 3 13 := ⟨by decide +kernel, rfl⟩
theorem rX7_read_13 : tq_D cX7_read 13 (.invokestatic 70) 3 16 := ⟨by decide +kernel, rfl⟩
theorem rX7_read_16 : tq_D cX7_read 16 (.invokestatic 76) 3 19 := ⟨by decide +kernel, rfl⟩
theorem rX7_read_19 : tq_D cX7_read 19 (.putfield 51) 3 22 := ⟨by decide +kernel, rfl⟩
theorem rX7_read_22 : tq_D cX7_read 22 (.aload_n 1) 1 23 := ⟨by decide +kernel, rfl⟩
theorem rX7_read_23 : tq_D cX7_read 23 (.iconst 0) 1 24 := ⟨by decide +kernel, rfl⟩
theorem rX7_read_24 : tq_D cX7_read 24 (.aload_n 0) 1 25 := ⟨by decide +kernel, rfl⟩
theorem rX7_read_25 : tq_D cX7_read 25 (.getfield 9) 3 28 := ⟨by decide +kernel, rfl⟩
theorem rX7_read_28 : tq_D cX7_read 28 (.iconst 0) 1 29 := ⟨by decide +kernel, rfl⟩
theorem rX7_read_29 : tq_D cX7_read 29 (.aload_n 0) 1 30 := ⟨by decide +kernel, rfl⟩
theorem rX7_read_30 : tq_D cX7_read 30 (.getfield 51) 3 33 := ⟨by decide +kernel, rfl⟩
theorem rX7_read_33 : tq_D cX7_read 33 (.invokestatic 79) 3 36 := ⟨by decide +kernel, rfl⟩
theorem rX7_read_36 : tq_D cX7_read 36 (.aload_n 0) 1 37 := ⟨by decide +kernel, rfl⟩
theorem rX7_read_37 : tq_D cX7_read 37 (.invokevirtual 85) 3 40 := ⟨by decide +kernel, rfl⟩
theorem rX7_read_40 : tq_D cX7_read 40 (.iconst 0) 1 41 := ⟨by decide +kernel, rfl⟩
theorem rX7_read_41 : tq_D cX7_read 41 (.istore 4) 2 43 := ⟨by decide +kernel, rfl⟩
theorem rX7_read_43 : tq_D cX7_read 43 (.iload 4) 2 45 := ⟨by decide +kernel, rfl⟩
theorem rX7_read_45 : tq_D cX7_read 45 (.sipush 600) 3 48 := ⟨by decide +kernel, rfl⟩
theorem rX7_read_48 : tq_J cX7_read 48 (.if_icmp .gt) 118 51 := ⟨70, by decide +kernel, by decide, rfl⟩
theorem rX7_read_51 : tq_D cX7_read 51 (.aload_n 0) 1 52 := ⟨by decide +kernel, rfl⟩
theorem rX7_read_52 : tq_D cX7_read 52 (.invokevirtual 88) 3 55 := ⟨by decide +kernel, rfl⟩
theorem rX7_read_55 : tq_D cX7_read 55 (.istore 5) 2 57 := ⟨by decide +kernel, rfl⟩
theorem rX7_read_57 : tq_D cX7_read 57 (.iload 5) 2 59 := ⟨by decide +kernel, rfl⟩
theorem rX7_read_59 : tq_J cX7_read 59 (.ifCond .ne) 65 62 := ⟨6, by decide +kernel, by decide, rfl⟩
theorem rX7_read_62 : tq_J cX7_read 62 .goto 118 65 := ⟨56, by decide +kernel, by decide, rfl⟩
theorem rX7_read_65 : tq_D cX7_read 65 (.iload 5) 2 67 := ⟨by decide +kernel, rfl⟩
theorem rX7_read_67 : tq_D cX7_read 67 (.iconst 1) 1 68 := ⟨by decide +kernel, rfl⟩
theorem rX7_read_68 : tq_J cX7_read 68 (.if_icmp .ne) 79 71 := ⟨11, by decide +kernel, by decide, rfl⟩
theorem rX7_read_71 : tq_D cX7_read 71 (.aload_n 0) 1 72 := ⟨by decide +kernel, rfl⟩
theorem rX7_read_72 : tq_D cX7_read 72 (.iload_n 3) 1 73 := ⟨by decide +kernel, rfl⟩
theorem rX7_read_73 : tq_D cX7_read 73 (.invokevirtual 92) 3 76 := ⟨by decide +kernel, rfl⟩
theorem rX7_read_76 : tq_J cX7_read 76 .goto 80 79 := ⟨4, by decide +kernel, by decide, rfl⟩
theorem rX7_read_79 : tq_D cX7_read 79 (.iconst (-1)) 1 80 := ⟨by decide +kernel, rfl⟩
theorem rX7_read_80 : tq_D cX7_read 80 (.istore 6) 2 82 := ⟨by decide +kernel, rfl⟩
theorem rX7_read_82 : tq_D cX7_read 82 (.iload 6) 2 84 := ⟨by decide +kernel, rfl⟩
theorem rX7_read_84 : tq_D cX7_read 84 (.iconst (-1)) 1 85 := ⟨by decide +kernel, rfl⟩
theorem rX7_read_85 : tq_J cX7_read 85 (.if_icmp .eq) 98 88 := ⟨13, by decide +kernel, by decide, rfl⟩
theorem rX7_read_88 : tq_D cX7_read 88 (.aload_n 0) 1 89 := ⟨by decide +kernel, rfl⟩
theorem rX7_read_89 : tq_D cX7_read 89 (.iload_n 3) 1 90 := ⟨by decide +kernel, rfl⟩
theorem rX7_read_90 : tq_D cX7_read 90 (.iload 6) 2 92 := ⟨by decide +kernel, rfl⟩
theorem rX7_read_92 : tq_D cX7_read 92 (.invokevirtual 96) 3 95 := ⟨by decide +kernel, rfl⟩
theorem rX7_read_95 : tq_J cX7_read 95 (.ifCond .ne) 112 98 := ⟨17, by decide +kernel, by decide, rfl⟩
theorem rX7_read_98 : tq_D cX7_read 98 (.aload_n 0) 1 99 := ⟨by decide +kernel, rfl⟩
theorem rX7_read_99 : tq_D cX7_read 99 (.iconst 1) 1 100 := ⟨by decide +kernel, rfl⟩
theorem rX7_read_100 : tq_D cX7_read 100 (.putfield 64) 3 103 := ⟨by decide +kernel, rfl⟩
theorem rX7_read_103 : tq_D cX7_read 103 (.aload_n 0) 1 104 := ⟨by decide +kernel, rfl⟩
theorem rX7_read_104 : tq_D cX7_read 104 (.aload_n 0) 1 105 := ⟨by decide +kernel, rfl⟩
theorem rX7_read_105 : tq_D cX7_read 105 (.getfield 58) 3 108 := ⟨by decide +kernel, rfl⟩
theorem rX7_read_108 : tq_D cX7_read 108 (.putfield 67) 3 111 := ⟨by decide +kernel, rfl⟩
theorem rX7_read_111 : decode cX7_read 111 = .ok (.return_, 1) := by decide +kernel
theorem rX7_read_112 : tq_D cX7_read 112 (.iinc 4 1) 3 115 := ⟨by decide +kernel, rfl⟩
theorem rX7_read_115 : tq_J cX7_read 115 .goto 43 118 := ⟨(-72), by decide +kernel, by decide, rfl⟩
theorem rX7_read_118 : tq_D cX7_read 118 (.iload_n 3) 1 119 := ⟨by decide +kernel, rfl⟩
theorem rX7_read_119 : tq_J cX7_read 119 (.ifCond .ne) 126 122 := ⟨7, by decide +kernel, by decide, rfl⟩
theorem rX7_read_122 : tq_D cX7_read 122 (.aload_n 0) 1 123 := ⟨by decide +kernel, rfl⟩
theorem rX7_read_123 : tq_D cX7_read 123 (.invokevirtual 100) 3 126 := ⟨by decide +kernel, rfl⟩
theorem rX7_read_126 : decode cX7_read 126 = .ok (.return_, 1) := by decide +kernel
noncomputable def FX7_read_j98L43 (I : tq_PI) (L : tq_PL) (a3 : Int32) (a0 : Nat) : Option ((Int32 × tq_PI × tq_PL) ⊕ ((tq_PI × tq_PL) ⊕ (tq_PI × tq_PL))) :=
  some (.inr (.inr ((tq_up2 (tq_up2 I a0 11 (1 : Int32)) a0 12 (((tq_up2 I a0 11 (1 : Int32))) a0 9)), L)))
noncomputable def FX7_read_j80L43 (I : tq_PI) (L : tq_PL) (a0 : Nat) (a3 : Int32) (a4 : Int32) (b0 : Int32) : Option ((Int32 × tq_PI × tq_PL) ⊕ ((tq_PI × tq_PL) ⊕ (tq_PI × tq_PL))) :=
  (if b0 = (-1 : Int32) then (FX7_read_j98L43 I L a3 a0) else ((FX7_readLine I L a0 a3 b0).bind fun p8 => (if (tq_b p8.1) = 0 then (FX7_read_j98L43 p8.2.1 p8.2.2 a3 a0) else some (.inl ((a4 + 1), p8.2.1, p8.2.2)))))
noncomputable def FX7_read_s43 (I : tq_PI) (L : tq_PL) (a0 : Nat) (a3 : Int32) (a4 : Int32) : Option ((Int32 × tq_PI × tq_PL) ⊕ ((tq_PI × tq_PL) ⊕ (tq_PI × tq_PL))) :=
  (if (600 : Int32) < a4 then some (.inr (.inl (I, L))) else ((FX7_next I L a0).bind fun p4 => (if p4.1 = 0 then some (.inr (.inl (p4.2, L))) else (if p4.1 = (1 : Int32) then ((FX7_keyword p4.2 L a0 a3).bind fun p10 => (FX7_read_j80L43 p4.2 L a0 a3 a4 p10)) else (FX7_read_j80L43 p4.2 L a0 a3 a4 ((-1 : Int32)))))))
noncomputable def FX7_read (I : tq_PI) (L : tq_PL) (a0 : Nat) (a1 : Nat) (a2 : Int32) (a3 : Int32) : Option (tq_PI × tq_PL) :=
  (if (0 ≤ (0 : Int32) ∧ 0 ≤ (0 : Int32) ∧ 0 ≤ (((tq_up2 I a0 7 (if (0 : Int32) < (if (if (600 : Int32) < (600 : Int32) then (600 : Int32) else (600 : Int32)) < a2 then (if (600 : Int32) < (600 : Int32) then (600 : Int32) else (600 : Int32)) else a2) then (if (if (600 : Int32) < (600 : Int32) then (600 : Int32) else (600 : Int32)) < a2 then (if (600 : Int32) < (600 : Int32) then (600 : Int32) else (600 : Int32)) else a2) else (0 : Int32)))) a0 7)) ∧ ((0 : Int32) : Int32).toNatClampNeg + ((((tq_up2 I a0 7 (if (0 : Int32) < (if (if (600 : Int32) < (600 : Int32) then (600 : Int32) else (600 : Int32)) < a2 then (if (600 : Int32) < (600 : Int32) then (600 : Int32) else (600 : Int32)) else a2) then (if (if (600 : Int32) < (600 : Int32) then (600 : Int32) else (600 : Int32)) < a2 then (if (600 : Int32) < (600 : Int32) then (600 : Int32) else (600 : Int32)) else a2) else (0 : Int32)))) a0 7) : Int32).toNatClampNeg ≤ 600 ∧ ((0 : Int32) : Int32).toNatClampNeg + ((((tq_up2 I a0 7 (if (0 : Int32) < (if (if (600 : Int32) < (600 : Int32) then (600 : Int32) else (600 : Int32)) < a2 then (if (600 : Int32) < (600 : Int32) then (600 : Int32) else (600 : Int32)) else a2) then (if (if (600 : Int32) < (600 : Int32) then (600 : Int32) else (600 : Int32)) < a2 then (if (600 : Int32) < (600 : Int32) then (600 : Int32) else (600 : Int32)) else a2) else (0 : Int32)))) a0 7) : Int32).toNatClampNeg ≤ 600 then ((FX7_begin ((tq_cpr (tq_up2 I a0 7 (if (0 : Int32) < (if (if (600 : Int32) < (600 : Int32) then (600 : Int32) else (600 : Int32)) < a2 then (if (600 : Int32) < (600 : Int32) then (600 : Int32) else (600 : Int32)) else a2) then (if (if (600 : Int32) < (600 : Int32) then (600 : Int32) else (600 : Int32)) < a2 then (if (600 : Int32) < (600 : Int32) then (600 : Int32) else (600 : Int32)) else a2) else (0 : Int32))) a1 (tq_rg a0 0) (0 : Int32) (0 : Int32) (((tq_up2 I a0 7 (if (0 : Int32) < (if (if (600 : Int32) < (600 : Int32) then (600 : Int32) else (600 : Int32)) < a2 then (if (600 : Int32) < (600 : Int32) then (600 : Int32) else (600 : Int32)) else a2) then (if (if (600 : Int32) < (600 : Int32) then (600 : Int32) else (600 : Int32)) < a2 then (if (600 : Int32) < (600 : Int32) then (600 : Int32) else (600 : Int32)) else a2) else (0 : Int32)))) a0 7))) L a0).bind fun p2 => ((tq_it (fun p : Int32 × tq_PI × tq_PL => FX7_read_s43 p.2.1 p.2.2 a0 a3 p.1) tq_N ((0 : Int32), p2.1, p2.2)).bind fun p11 => p11.elim (fun t12 => (if a3 = 0 then (tq_let (FX7_finishHill t12.1 t12.2 a0) fun p14 => some (p14.1, p14.2)) else some (t12.1, t12.2))) (fun t12 => some t12))) else none)
set_option maxRecDepth 100000 in
set_option maxHeartbeats 4000000 in
theorem FX7_read_j98L43_x {S : Nat × (Nat → Int32)} {d : Nat} {I : tq_PI} {L : tq_PL} {a3 : Int32} {a0 : Nat} (h0 : tq_sh0 a0 = 7) {q0 : Option Value → tq_PI → tq_PL → Prop} {out : (Int32 × tq_PI × tq_PL) ⊕ ((tq_PI × tq_PL) ⊕ (tq_PI × tq_PL))} (hf : FX7_read_j98L43 I L a3 a0 = some out) (hk : Sum.elim (fun p : Int32 × tq_PI × tq_PL => tq_X S mX7_read (d + 7) tq_k0 43 ([.ref a0, tq_u, tq_u, .int a3, .int p.1, tq_u, tq_u]) [] (tq_st p.2.1 p.2.2) (tq_Q q0)) (Sum.elim (fun p : tq_PI × tq_PL => tq_X S mX7_read (d + 7) tq_k0 118 ([.ref a0, tq_u, tq_u, .int a3, tq_u, tq_u, tq_u]) [] (tq_st p.1 p.2) (tq_Q q0)) (fun p : tq_PI × tq_PL => q0 none p.1 p.2)) out) : tq_X S mX7_read (d + 7) tq_k0 98 ([.ref a0, tq_u, tq_u, tq_u, tq_u, tq_u, tq_u]) ([]) (tq_st I L) (tq_Q q0) := by
  unfold FX7_read_j98L43 at hf
  refine tq_aload_n rX7_read_98 rfl ?_
  refine tq_iconst (1 : Int32) rX7_read_99 (by decide) ?_
  refine ty_putI rX7_read_100 f_X7_64 rfl h0 rfl ?_
  refine tq_aload_n rX7_read_103 rfl ?_
  refine tq_aload_n rX7_read_104 rfl ?_
  refine ty_getI rX7_read_105 f_X7_58 rfl h0 ?_
  refine ty_putI rX7_read_108 f_X7_67 rfl h0 rfl ?_
  refine ty_vret rX7_read_111 rfl rfl ?_
  have hf := Option.some.inj hf
  subst hf
  exact hk

set_option maxRecDepth 100000 in
set_option maxHeartbeats 4000000 in
theorem FX7_read_j80L43_x {S : Nat × (Nat → Int32)} {d : Nat} {I : tq_PI} {L : tq_PL} {a0 : Nat} {a3 : Int32} {a4 : Int32} {b0 : Int32} (h0 : tq_sh0 a0 = 7) {q0 : Option Value → tq_PI → tq_PL → Prop} {out : (Int32 × tq_PI × tq_PL) ⊕ ((tq_PI × tq_PL) ⊕ (tq_PI × tq_PL))} (hf : FX7_read_j80L43 I L a0 a3 a4 b0 = some out) (hk : Sum.elim (fun p : Int32 × tq_PI × tq_PL => tq_X S mX7_read (d + 7) tq_k0 43 ([.ref a0, tq_u, tq_u, .int a3, .int p.1, tq_u, tq_u]) [] (tq_st p.2.1 p.2.2) (tq_Q q0)) (Sum.elim (fun p : tq_PI × tq_PL => tq_X S mX7_read (d + 7) tq_k0 118 ([.ref a0, tq_u, tq_u, .int a3, tq_u, tq_u, tq_u]) [] (tq_st p.1 p.2) (tq_Q q0)) (fun p : tq_PI × tq_PL => q0 none p.1 p.2)) out) : tq_X S mX7_read (d + 7) tq_k0 80 ([.ref a0, tq_u, tq_u, .int a3, .int a4, tq_u, tq_u]) ([.int b0]) (tq_st I L) (tq_Q q0) := by
  unfold FX7_read_j80L43 at hf
  refine tq_istore ([.ref a0, tq_u, tq_u, .int a3, .int a4, tq_u, .int b0]) rX7_read_80 (Nat.le_of_ble_eq_true rfl) rfl ?_
  refine tq_iload rX7_read_82 rfl ?_
  refine tq_iconst (-1 : Int32) rX7_read_84 (by decide) ?_
  refine tq_icmp_eq rX7_read_85 (fun c7 => ?_) (fun c7 => ?_)
  · rw [if_pos c7] at hf
    exact tq_forget _ (tq_le_s (tq_le_u (tq_le_u (tq_le_u (tq_le_u (tq_le_u (tq_le_u tq_le_n))))))) (FX7_read_j98L43_x  h0 hf hk)
  · rw [if_neg c7] at hf
    refine tq_aload_n rX7_read_88 rfl ?_
    refine tq_iload_n rX7_read_89 rfl ?_
    refine tq_iload rX7_read_90 rfl ?_
    obtain ⟨p8, e8, hf⟩ := Option.bind_eq_some_iff.mp hf
    refine ty_callVI (tq_b p8.1) ([.int a3, .int b0]) ([]) rX7_read_92 l_X7_96 moX7_readLine mvX7_readLine h0 rfl rfl (Nat.le_of_ble_eq_true rfl) ⟨rfl, rfl⟩ (CX7_readLine h0 e8) ?_
    refine tq_if_ne rX7_read_95 (fun c9 => ?_) (fun c9 => ?_)
    · rw [if_neg c9] at hf
      refine tq_iinc (a4 + 1) ([.ref a0, tq_u, tq_u, .int a3, .int (a4 + 1), tq_u, .int b0]) rX7_read_112 rfl (tq_inc (by decide)) (Nat.le_of_ble_eq_true rfl) rfl ?_
      refine tq_goto rX7_read_115 ?_
      have hf := Option.some.inj hf
      subst hf
      exact tq_forget _ (tq_le_s (tq_le_u (tq_le_u (tq_le_s (tq_le_s (tq_le_u (tq_le_u tq_le_n))))))) hk
    · rw [if_pos c9] at hf
      exact tq_forget _ (tq_le_s (tq_le_u (tq_le_u (tq_le_u (tq_le_u (tq_le_u (tq_le_u tq_le_n))))))) (FX7_read_j98L43_x  h0 hf hk)

set_option maxRecDepth 100000 in
set_option maxHeartbeats 4000000 in
theorem FX7_read_s43_x {S : Nat × (Nat → Int32)} {d : Nat} {I : tq_PI} {L : tq_PL} {a0 : Nat} {a3 : Int32} {a4 : Int32} (h0 : tq_sh0 a0 = 7) {q0 : Option Value → tq_PI → tq_PL → Prop} {out : (Int32 × tq_PI × tq_PL) ⊕ ((tq_PI × tq_PL) ⊕ (tq_PI × tq_PL))} (hf : FX7_read_s43 I L a0 a3 a4 = some out) (hk : Sum.elim (fun p : Int32 × tq_PI × tq_PL => tq_X S mX7_read (d + 7) tq_k0 43 ([.ref a0, tq_u, tq_u, .int a3, .int p.1, tq_u, tq_u]) [] (tq_st p.2.1 p.2.2) (tq_Q q0)) (Sum.elim (fun p : tq_PI × tq_PL => tq_X S mX7_read (d + 7) tq_k0 118 ([.ref a0, tq_u, tq_u, .int a3, tq_u, tq_u, tq_u]) [] (tq_st p.1 p.2) (tq_Q q0)) (fun p : tq_PI × tq_PL => q0 none p.1 p.2)) out) : tq_X S mX7_read (d + 7) tq_k0 43 ([.ref a0, tq_u, tq_u, .int a3, .int a4, tq_u, tq_u]) [] (tq_st I L) (tq_Q q0) := by
  unfold FX7_read_s43 at hf
  refine tq_iload rX7_read_43 rfl ?_
  refine tq_sipush (600 : Int32) rX7_read_45 (by decide) ?_
  refine tq_icmp_gt rX7_read_48 (fun c3 => ?_) (fun c3 => ?_)
  · rw [if_pos c3] at hf
    have hf := Option.some.inj hf
    subst hf
    exact tq_forget _ (tq_le_s (tq_le_u (tq_le_u (tq_le_s (tq_le_u (tq_le_u (tq_le_u tq_le_n))))))) hk
  · rw [if_neg c3] at hf
    refine tq_aload_n rX7_read_51 rfl ?_
    obtain ⟨p4, e4, hf⟩ := Option.bind_eq_some_iff.mp hf
    refine ty_callVI p4.1 ([]) ([]) rX7_read_52 l_X7_88 moX7_next mvX7_next h0 rfl rfl (Nat.le_of_ble_eq_true rfl) ⟨rfl, rfl⟩ (CX7_next h0 e4) ?_
    refine tq_istore ([.ref a0, tq_u, tq_u, .int a3, .int a4, .int p4.1, tq_u]) rX7_read_55 (Nat.le_of_ble_eq_true rfl) rfl ?_
    refine tq_iload rX7_read_57 rfl ?_
    refine tq_if_ne rX7_read_59 (fun c5 => ?_) (fun c5 => ?_)
    · rw [if_neg c5] at hf
      refine tq_iload rX7_read_65 rfl ?_
      refine tq_iconst (1 : Int32) rX7_read_67 (by decide) ?_
      refine tq_icmp_ne rX7_read_68 (fun c6 => ?_) (fun c6 => ?_)
      · rw [if_neg c6] at hf
        refine tq_iconst (-1 : Int32) rX7_read_79 (by decide) ?_
        exact tq_forget _ (tq_le_s (tq_le_u (tq_le_u (tq_le_s (tq_le_s (tq_le_u (tq_le_u tq_le_n))))))) (FX7_read_j80L43_x  h0 hf hk)
      · rw [if_pos c6] at hf
        refine tq_aload_n rX7_read_71 rfl ?_
        refine tq_iload_n rX7_read_72 rfl ?_
        obtain ⟨p10, e10, hf⟩ := Option.bind_eq_some_iff.mp hf
        refine ty_callVI p10 ([.int a3]) ([]) rX7_read_73 l_X7_92 moX7_keyword mvX7_keyword h0 rfl rfl (Nat.le_of_ble_eq_true rfl) ⟨rfl, rfl⟩ (CX7_keyword h0 e10) ?_
        refine tq_goto rX7_read_76 ?_
        exact tq_forget _ (tq_le_s (tq_le_u (tq_le_u (tq_le_s (tq_le_s (tq_le_u (tq_le_u tq_le_n))))))) (FX7_read_j80L43_x  h0 hf hk)
    · rw [if_pos c5] at hf
      refine tq_goto rX7_read_62 ?_
      have hf := Option.some.inj hf
      subst hf
      exact tq_forget _ (tq_le_s (tq_le_u (tq_le_u (tq_le_s (tq_le_u (tq_le_u (tq_le_u tq_le_n))))))) hk

set_option maxRecDepth 100000 in
set_option maxHeartbeats 4000000 in
theorem CX7_read {S : Nat × (Nat → Int32)} {d : Nat} {I : tq_PI} {L : tq_PL} {a0 : Nat} {a1 : Nat} {a2 : Int32} {a3 : Int32} (h0 : tq_sh0 a0 = 7) (h1 : tq_sh0 a1 = 102) (h1n : tq_ln0 a1 = 600) {out : tq_PI × tq_PL} (hf : FX7_read I L a0 a1 a2 a3 = some out) : tq_K S mX7_read (d + 7) [.ref a0, .ref a1, .int a2, .int a3] I L (tq_one2 (none) out.1 out.2) := by
  unfold FX7_read at hf
  refine tq_K_of (by decide) (Nat.le_of_ble_eq_true rfl) (ls := [.ref a0, .ref a1, .int a2, .int a3, tq_u, tq_u, tq_u]) rfl ?_
  refine tq_aload_n rX7_read_0 rfl ?_
  refine tq_iconst (0 : Int32) rX7_read_1 (by decide) ?_
  refine tq_iload_n rX7_read_2 rfl ?_
  refine tq_aload_n rX7_read_3 rfl ?_
  refine ty_alen (v := 600) rX7_read_4 h1 (by decide) h1n rfl ?_
  refine tq_aload_n rX7_read_5 rfl ?_
  refine ty_getR rX7_read_6 f_X7_9 rfl h0 (hp_7_0 h0).1 ?_
  refine ty_alen (v := 600) rX7_read_9 (hp_7_0 h0).2.1 (by decide) (hp_7_0 h0).2.2 rfl ?_
  refine tq_mmin rX7_read_10 (Nat.le_of_ble_eq_true rfl) n_X7_70 ?_
  refine tq_mmin rX7_read_13 (Nat.le_of_ble_eq_true rfl) n_X7_70 ?_
  refine tq_mmax rX7_read_16 (Nat.le_of_ble_eq_true rfl) n_X7_76 ?_
  refine ty_putI rX7_read_19 f_X7_51 rfl h0 rfl ?_
  refine tq_aload_n rX7_read_22 rfl ?_
  refine tq_iconst (0 : Int32) rX7_read_23 (by decide) ?_
  refine tq_aload_n rX7_read_24 rfl ?_
  refine ty_getR rX7_read_25 f_X7_9 rfl h0 (hp_7_0 h0).1 ?_
  refine tq_iconst (0 : Int32) rX7_read_28 (by decide) ?_
  refine tq_aload_n rX7_read_29 rfl ?_
  refine ty_getI rX7_read_30 f_X7_51 rfl h0 ?_
  obtain ⟨g1, hf⟩ := tq_chk hf
  refine ty_copy rX7_read_33 (Nat.le_of_ble_eq_true rfl) n_X7_79 (by decide) h1 (hp_7_0 h0).2.1 h1n (hp_7_0 h0).2.2 g1 ?_
  refine tq_aload_n rX7_read_36 rfl ?_
  obtain ⟨p2, e2, hf⟩ := Option.bind_eq_some_iff.mp hf
  refine ty_callVV ([]) ([]) rX7_read_37 l_X7_85 moX7_begin mvX7_begin h0 rfl rfl (Nat.le_of_ble_eq_true rfl) ⟨rfl, rfl⟩ (CX7_begin h0 e2) ?_
  refine tq_iconst (0 : Int32) rX7_read_40 (by decide) ?_
  refine tq_istore ([.ref a0, .ref a1, .int a2, .int a3, .int (0 : Int32), tq_u, tq_u]) rX7_read_41 (Nat.le_of_ble_eq_true rfl) rfl ?_
  obtain ⟨p11, e11, hf⟩ := Option.bind_eq_some_iff.mp hf
  refine tq_forget _ (tq_le_s (tq_le_u (tq_le_u (tq_le_s (tq_le_s (tq_le_u (tq_le_u tq_le_n))))))) ?_
  refine tq_it_elim (P := fun p : Int32 × tq_PI × tq_PL => tq_X S mX7_read (d + 7) tq_k0 43 ([.ref a0, tq_u, tq_u, .int a3, .int p.1, tq_u, tq_u]) [] (tq_st p.2.1 p.2.2) (tq_Q (tq_one2 (none) out.1 out.2))) (R := Sum.elim (fun p : tq_PI × tq_PL => tq_X S mX7_read (d + 7) tq_k0 118 ([.ref a0, tq_u, tq_u, .int a3, tq_u, tq_u, tq_u]) [] (tq_st p.1 p.2) (tq_Q (tq_one2 (none) out.1 out.2))) (fun p : tq_PI × tq_PL => (tq_one2 (none) out.1 out.2) none p.1 p.2)) (fun p o hp hk => FX7_read_s43_x  h0 hp hk) _ (((0 : Int32), p2.1, p2.2)) _ e11 ?_
  rcases tq_selim hf with ⟨t12, t12q, hf⟩ | ⟨t12, t12q, hf⟩
  · rw [t12q]
    show tq_X _ _ _ _ _ _ _ _ _
    refine tq_iload_n rX7_read_118 rfl ?_
    refine tq_if_ne rX7_read_119 (fun c13 => ?_) (fun c13 => ?_)
    · rw [if_neg c13] at hf
      refine ty_vret rX7_read_126 rfl rfl ?_
      have hf := Option.some.inj hf
      subst hf
      exact ⟨rfl, rfl, rfl⟩
    · rw [if_pos c13] at hf
      refine tq_aload_n rX7_read_122 rfl ?_
      obtain ⟨p14, e14, hf⟩ := tq_let_elim hf
      refine ty_callVV ([]) ([]) rX7_read_123 l_X7_100 moX7_finishHill mvX7_finishHill h0 rfl rfl (Nat.le_of_ble_eq_true rfl) ⟨rfl, rfl⟩ (CX7_finishHill h0 e14) ?_
      refine ty_vret rX7_read_126 rfl rfl ?_
      have hf := Option.some.inj hf
      subst hf
      exact ⟨rfl, rfl, rfl⟩
  · rw [t12q]
    have hf := Option.some.inj hf
    subst hf
    exact ⟨rfl, rfl, rfl⟩

abbrev mX8_open : tq_M := (yX8_open, cX8_open, 2, (Option.none : Option Jvm.ClassFile.FieldType), 0, 0)
theorem f_X8_12 : tq_fok RX8 12 8 0 := ⟨by decide, by decide, Or.inl (tq_sg2 _ (List.mem_of_getElem? (i := 1) rfl))⟩
theorem f_X8_18 : tq_fok RX8 18 8 1 := ⟨by decide, by decide, Or.inl (tq_sg2 _ (List.mem_of_getElem? (i := 2) rfl))⟩
theorem f_X8_22 : tq_fok RX8 22 8 2 := ⟨by decide, by decide, Or.inl (tq_sg2 _ (List.mem_of_getElem? (i := 3) rfl))⟩
theorem f_X8_25 : tq_fok RX8 25 8 3 := ⟨by decide, by decide, Or.inl (tq_sg2 _ (List.mem_of_getElem? (i := 4) rfl))⟩
theorem f_X8_28 : tq_fok RX8 28 8 4 := ⟨by decide, by decide, Or.inl (tq_sg2 _ (List.mem_of_getElem? (i := 5) rfl))⟩
theorem f_X8_31 : tq_fok RX8 31 8 5 := ⟨by decide, by decide, Or.inl (tq_sg2 _ (List.mem_of_getElem? (i := 6) rfl))⟩
theorem f_X8_34 : tq_fok RX8 34 8 6 := ⟨by decide, by decide, Or.inl (tq_sg2 _ (List.mem_of_getElem? (i := 7) rfl))⟩
theorem l_X8_49 : tq_lok RX8 49 mX3_take.1 := Or.inl (tq_sg4 _ (List.mem_of_getElem? (i := 14) rfl))
theorem rX8_open_0 : tq_D cX8_open 0 (.aload_n 0) 1 1 := ⟨by decide +kernel, rfl⟩
theorem rX8_open_1 : tq_D cX8_open 1 (.getfield 12) 3 4 := ⟨by decide +kernel, rfl⟩
theorem rX8_open_4 : tq_D cX8_open 4 (.aload_n 1) 1 5 := ⟨by decide +kernel, rfl⟩
theorem rX8_open_5 : tq_D cX8_open 5 (.invokevirtual 49) 3 8 := ⟨by decide +kernel, rfl⟩
theorem rX8_open_8 : tq_D cX8_open 8 (.aload_n 0) 1 9 := ⟨by decide +kernel, rfl⟩
theorem rX8_open_9 : tq_D cX8_open 9 (.iconst 0) 1 10 := ⟨by decide +kernel, rfl⟩
theorem rX8_open_10 : tq_D cX8_open 10 (.putfield 18) 3 13 := ⟨by decide +kernel, rfl⟩
theorem rX8_open_13 : tq_D cX8_open 13 (.aload_n 0) 1 14 := ⟨by decide +kernel, rfl⟩
theorem rX8_open_14 : tq_D cX8_open 14 (.iconst 0) 1 15 := ⟨by decide +kernel, rfl⟩
theorem rX8_open_15 : tq_D cX8_open 15 (.putfield 22) 3 18 := ⟨by decide +kernel, rfl⟩
theorem rX8_open_18 : tq_D cX8_open 18 (.aload_n 0) 1 19 := ⟨by decide +kernel, rfl⟩
theorem rX8_open_19 : tq_D cX8_open 19 (.iconst 0) 1 20 := ⟨by decide +kernel, rfl⟩
theorem rX8_open_20 : tq_D cX8_open 20 (.putfield 25) 3 23 := ⟨by decide +kernel, rfl⟩
theorem rX8_open_23 : tq_D cX8_open 23 (.aload_n 0) 1 24 := ⟨by decide +kernel, rfl⟩
theorem rX8_open_24 : tq_D cX8_open 24 (.iconst 0) 1 25 := ⟨by decide +kernel, rfl⟩
theorem rX8_open_25 : tq_D cX8_open 25 (.putfield 28) 3 28 := ⟨by decide +kernel, rfl⟩
theorem rX8_open_28 : tq_D cX8_open 28 (.aload_n 0) 1 29 := ⟨by decide +kernel, rfl⟩
theorem rX8_open_29 : tq_D cX8_open 29 (.iconst 0) 1 30 := ⟨by decide +kernel, rfl⟩
theorem rX8_open_30 : tq_D cX8_open 30 (.putfield 31) 3 33 := ⟨by decide +kernel, rfl⟩
theorem rX8_open_33 : tq_D cX8_open 33 (.aload_n 0) 1 34 := ⟨by decide +kernel, rfl⟩
theorem rX8_open_34 : tq_D cX8_open 34 (.iconst 0) 1 35 := ⟨by decide +kernel, rfl⟩
theorem rX8_open_35 : tq_D cX8_open 35 (.putfield 34) 3 38 := ⟨by decide +kernel, rfl⟩
theorem rX8_open_38 : decode cX8_open 38 = .ok (.return_, 1) := by decide +kernel
noncomputable def FX8_open (I : tq_PI) (L : tq_PL) (a0 : Nat) (a1 : Nat) : tq_PI × tq_PL :=
  (tq_let (FX3_take I L ((tq_rg a0 0)) a1) fun p1 => ((tq_up2 (tq_up2 (tq_up2 (tq_up2 (tq_up2 (tq_up2 p1.1 a0 1 (0 : Int32)) a0 2 (0 : Int32)) a0 3 (0 : Int32)) a0 4 (0 : Int32)) a0 5 (0 : Int32)) a0 6 (0 : Int32)), p1.2))
set_option maxRecDepth 100000 in
set_option maxHeartbeats 4000000 in
theorem CX8_open {S : Nat × (Nat → Int32)} {d : Nat} {I : tq_PI} {L : tq_PL} {a0 : Nat} {a1 : Nat} (h0 : tq_sh0 a0 = 8) (h1 : tq_sh0 a1 = 3) {out : tq_PI × tq_PL} (hf : FX8_open I L a0 a1 = out) : tq_K S mX8_open (d + 1) [.ref a0, .ref a1] I L (tq_one2 (none) out.1 out.2) := by
  unfold FX8_open at hf
  refine tq_K_of (by decide) (Nat.le_of_ble_eq_true rfl) (ls := [.ref a0, .ref a1]) rfl ?_
  refine tq_aload_n rX8_open_0 rfl ?_
  refine ty_getR rX8_open_1 f_X8_12 rfl h0 (hp_8_0 h0).1 ?_
  refine tq_aload_n rX8_open_4 rfl ?_
  obtain ⟨p1, e1, hf⟩ := tq_let_elim hf
  refine ty_callVV ([.ref a1]) ([]) rX8_open_5 l_X8_49 moX3_take mvX3_take (hp_8_0 h0).2.1 rfl rfl (Nat.le_of_ble_eq_true rfl) ⟨rfl, rfl⟩ (CX3_take (hp_8_0 h0).2.1 h1 e1) ?_
  refine tq_aload_n rX8_open_8 rfl ?_
  refine tq_iconst (0 : Int32) rX8_open_9 (by decide) ?_
  refine ty_putI rX8_open_10 f_X8_18 rfl h0 rfl ?_
  refine tq_aload_n rX8_open_13 rfl ?_
  refine tq_iconst (0 : Int32) rX8_open_14 (by decide) ?_
  refine ty_putI rX8_open_15 f_X8_22 rfl h0 rfl ?_
  refine tq_aload_n rX8_open_18 rfl ?_
  refine tq_iconst (0 : Int32) rX8_open_19 (by decide) ?_
  refine ty_putI rX8_open_20 f_X8_25 rfl h0 rfl ?_
  refine tq_aload_n rX8_open_23 rfl ?_
  refine tq_iconst (0 : Int32) rX8_open_24 (by decide) ?_
  refine ty_putI rX8_open_25 f_X8_28 rfl h0 rfl ?_
  refine tq_aload_n rX8_open_28 rfl ?_
  refine tq_iconst (0 : Int32) rX8_open_29 (by decide) ?_
  refine ty_putI rX8_open_30 f_X8_31 rfl h0 rfl ?_
  refine tq_aload_n rX8_open_33 rfl ?_
  refine tq_iconst (0 : Int32) rX8_open_34 (by decide) ?_
  refine ty_putI rX8_open_35 f_X8_34 rfl h0 rfl ?_
  refine ty_vret rX8_open_38 rfl rfl ?_
  subst hf
  exact ⟨rfl, rfl, rfl⟩

abbrev mX10_kindAt : tq_M := (yX10_kindAt, cX10_kindAt, 2, (Option.some Jvm.ClassFile.FieldType.int), 0, 0)
theorem rX10_kindAt_0 : tq_D cX10_kindAt 0 (.iload_n 1) 1 1 := ⟨by decide +kernel, rfl⟩
theorem rX10_kindAt_1 : tq_J cX10_kindAt 1 (.ifCond .lt) 13 4 := ⟨12, by decide +kernel, by decide, rfl⟩
theorem rX10_kindAt_4 : tq_D cX10_kindAt 4 (.iload_n 1) 1 5 := ⟨by decide +kernel, rfl⟩
theorem rX10_kindAt_5 : tq_D cX10_kindAt 5 (.aload_n 0) 1 6 := ⟨by decide +kernel, rfl⟩
theorem rX10_kindAt_6 : tq_D cX10_kindAt 6 (.getfield 15) 3 9 := ⟨by decide +kernel, rfl⟩
theorem rX10_kindAt_9 : tq_D cX10_kindAt 9 (.arraylength) 1 10 := ⟨by decide +kernel, rfl⟩
theorem rX10_kindAt_10 : tq_J cX10_kindAt 10 (.if_icmp .lt) 17 13 := ⟨7, by decide +kernel, by decide, rfl⟩
theorem rX10_kindAt_13 : tq_D cX10_kindAt 13 (.iconst (-1)) 1 14 := ⟨by decide +kernel, rfl⟩
theorem rX10_kindAt_14 : tq_J cX10_kindAt 14 .goto 23 17 := ⟨9, by decide +kernel, by decide, rfl⟩
theorem rX10_kindAt_17 : tq_D cX10_kindAt 17 (.aload_n 0) 1 18 := ⟨by decide +kernel, rfl⟩
theorem rX10_kindAt_18 : tq_D cX10_kindAt 18 (.getfield 15) 3 21 := ⟨by decide +kernel, rfl⟩
theorem rX10_kindAt_21 : tq_D cX10_kindAt 21 (.iload_n 1) 1 22 := ⟨by decide +kernel, rfl⟩
theorem rX10_kindAt_22 : tq_D cX10_kindAt 22 (.iaload) 1 23 := ⟨by decide +kernel, rfl⟩
theorem rX10_kindAt_23 : decode cX10_kindAt 23 = .ok (.ireturn, 1) := by decide +kernel
noncomputable def FX10_kindAt_j13 (I : tq_PI) (L : tq_PL)  : Option (Int32) :=
  some (-1 : Int32)
noncomputable def FX10_kindAt (I : tq_PI) (L : tq_PL) (a0 : Nat) (a1 : Int32) : Option (Int32) :=
  (if a1 < 0 then (FX10_kindAt_j13 I L ) else (if a1 < (40 : Int32) then (if 0 ≤ a1 ∧ a1 < 40 then some (I (tq_rg a0 1) a1.toNatClampNeg) else none) else (FX10_kindAt_j13 I L )))
set_option maxRecDepth 100000 in
set_option maxHeartbeats 4000000 in
theorem FX10_kindAt_j13_x {S : Nat × (Nat → Int32)} {d : Nat} {I : tq_PI} {L : tq_PL}   {q0 : Option Value → tq_PI → tq_PL → Prop} {out : Int32} (hf : FX10_kindAt_j13 I L = some out) (hk : q0 (some (.int out)) I L) : tq_X S mX10_kindAt d tq_k0 13 ([tq_u, tq_u]) ([]) (tq_st I L) (tq_Q q0) := by
  unfold FX10_kindAt_j13 at hf
  refine tq_iconst (-1 : Int32) rX10_kindAt_13 (by decide) ?_
  refine tq_goto rX10_kindAt_14 ?_
  refine ty_iret rX10_kindAt_23 rfl rfl ?_
  have hf := Option.some.inj hf
  subst hf
  exact hk

set_option maxRecDepth 100000 in
set_option maxHeartbeats 4000000 in
theorem CX10_kindAt {S : Nat × (Nat → Int32)} {d : Nat} {I : tq_PI} {L : tq_PL} {a0 : Nat} {a1 : Int32} (h0 : tq_sh0 a0 = 10) {out : Int32} (hf : FX10_kindAt I L a0 a1 = some out) : tq_K S mX10_kindAt d [.ref a0, .int a1] I L (tq_one2 (some (.int out)) I L) := by
  unfold FX10_kindAt at hf
  refine tq_K_of (by decide) (Nat.le_of_ble_eq_true rfl) (ls := [.ref a0, .int a1]) rfl ?_
  refine tq_iload_n rX10_kindAt_0 rfl ?_
  refine tq_if_lt rX10_kindAt_1 (fun c1 => ?_) (fun c1 => ?_)
  · rw [if_pos c1] at hf
    exact tq_forget _ (tq_le_u (tq_le_u tq_le_n)) (FX10_kindAt_j13_x   hf ⟨rfl, rfl, rfl⟩)
  · rw [if_neg c1] at hf
    refine tq_iload_n rX10_kindAt_4 rfl ?_
    refine tq_aload_n rX10_kindAt_5 rfl ?_
    refine ty_getR rX10_kindAt_6 f_X10_15 rfl h0 (hp_10_1 h0).1 ?_
    refine ty_alen (v := 40) rX10_kindAt_9 (hp_10_1 h0).2.1 (by decide) (hp_10_1 h0).2.2 rfl ?_
    refine tq_icmp_lt rX10_kindAt_10 (fun c2 => ?_) (fun c2 => ?_)
    · rw [if_pos c2] at hf
      refine tq_aload_n rX10_kindAt_17 rfl ?_
      refine ty_getR rX10_kindAt_18 f_X10_15 rfl h0 (hp_10_1 h0).1 ?_
      refine tq_iload_n rX10_kindAt_21 rfl ?_
      obtain ⟨g3, hf⟩ := tq_chk hf
      refine ty_iald (v := 40) rX10_kindAt_22 (hp_10_1 h0).2.1 (hp_10_1 h0).2.2 rfl (by decide) g3 ?_
      refine ty_iret rX10_kindAt_23 rfl rfl ?_
      have hf := Option.some.inj hf
      subst hf
      exact ⟨rfl, rfl, rfl⟩
    · rw [if_neg c2] at hf
      exact tq_forget _ (tq_le_u (tq_le_u tq_le_n)) (FX10_kindAt_j13_x   hf ⟨rfl, rfl, rfl⟩)

abbrev mX10_firstAt : tq_M := (yX10_firstAt, cX10_firstAt, 2, (Option.some Jvm.ClassFile.FieldType.int), 0, 0)
theorem rX10_firstAt_0 : tq_D cX10_firstAt 0 (.iload_n 1) 1 1 := ⟨by decide +kernel, rfl⟩
theorem rX10_firstAt_1 : tq_J cX10_firstAt 1 (.ifCond .lt) 13 4 := ⟨12, by decide +kernel, by decide, rfl⟩
theorem rX10_firstAt_4 : tq_D cX10_firstAt 4 (.iload_n 1) 1 5 := ⟨by decide +kernel, rfl⟩
theorem rX10_firstAt_5 : tq_D cX10_firstAt 5 (.aload_n 0) 1 6 := ⟨by decide +kernel, rfl⟩
theorem rX10_firstAt_6 : tq_D cX10_firstAt 6 (.getfield 19) 3 9 := ⟨by decide +kernel, rfl⟩
theorem rX10_firstAt_9 : tq_D cX10_firstAt 9 (.arraylength) 1 10 := ⟨by decide +kernel, rfl⟩
theorem rX10_firstAt_10 : tq_J cX10_firstAt 10 (.if_icmp .lt) 17 13 := ⟨7, by decide +kernel, by decide, rfl⟩
theorem rX10_firstAt_13 : tq_D cX10_firstAt 13 (.iconst (-1)) 1 14 := ⟨by decide +kernel, rfl⟩
theorem rX10_firstAt_14 : tq_J cX10_firstAt 14 .goto 23 17 := ⟨9, by decide +kernel, by decide, rfl⟩
theorem rX10_firstAt_17 : tq_D cX10_firstAt 17 (.aload_n 0) 1 18 := ⟨by decide +kernel, rfl⟩
theorem rX10_firstAt_18 : tq_D cX10_firstAt 18 (.getfield 19) 3 21 := ⟨by decide +kernel, rfl⟩
theorem rX10_firstAt_21 : tq_D cX10_firstAt 21 (.iload_n 1) 1 22 := ⟨by decide +kernel, rfl⟩
theorem rX10_firstAt_22 : tq_D cX10_firstAt 22 (.iaload) 1 23 := ⟨by decide +kernel, rfl⟩
theorem rX10_firstAt_23 : decode cX10_firstAt 23 = .ok (.ireturn, 1) := by decide +kernel
noncomputable def FX10_firstAt_j13 (I : tq_PI) (L : tq_PL)  : Option (Int32) :=
  some (-1 : Int32)
noncomputable def FX10_firstAt (I : tq_PI) (L : tq_PL) (a0 : Nat) (a1 : Int32) : Option (Int32) :=
  (if a1 < 0 then (FX10_firstAt_j13 I L ) else (if a1 < (40 : Int32) then (if 0 ≤ a1 ∧ a1 < 40 then some (I (tq_rg a0 2) a1.toNatClampNeg) else none) else (FX10_firstAt_j13 I L )))
set_option maxRecDepth 100000 in
set_option maxHeartbeats 4000000 in
theorem FX10_firstAt_j13_x {S : Nat × (Nat → Int32)} {d : Nat} {I : tq_PI} {L : tq_PL}   {q0 : Option Value → tq_PI → tq_PL → Prop} {out : Int32} (hf : FX10_firstAt_j13 I L = some out) (hk : q0 (some (.int out)) I L) : tq_X S mX10_firstAt d tq_k0 13 ([tq_u, tq_u]) ([]) (tq_st I L) (tq_Q q0) := by
  unfold FX10_firstAt_j13 at hf
  refine tq_iconst (-1 : Int32) rX10_firstAt_13 (by decide) ?_
  refine tq_goto rX10_firstAt_14 ?_
  refine ty_iret rX10_firstAt_23 rfl rfl ?_
  have hf := Option.some.inj hf
  subst hf
  exact hk

set_option maxRecDepth 100000 in
set_option maxHeartbeats 4000000 in
theorem CX10_firstAt {S : Nat × (Nat → Int32)} {d : Nat} {I : tq_PI} {L : tq_PL} {a0 : Nat} {a1 : Int32} (h0 : tq_sh0 a0 = 10) {out : Int32} (hf : FX10_firstAt I L a0 a1 = some out) : tq_K S mX10_firstAt d [.ref a0, .int a1] I L (tq_one2 (some (.int out)) I L) := by
  unfold FX10_firstAt at hf
  refine tq_K_of (by decide) (Nat.le_of_ble_eq_true rfl) (ls := [.ref a0, .int a1]) rfl ?_
  refine tq_iload_n rX10_firstAt_0 rfl ?_
  refine tq_if_lt rX10_firstAt_1 (fun c1 => ?_) (fun c1 => ?_)
  · rw [if_pos c1] at hf
    exact tq_forget _ (tq_le_u (tq_le_u tq_le_n)) (FX10_firstAt_j13_x   hf ⟨rfl, rfl, rfl⟩)
  · rw [if_neg c1] at hf
    refine tq_iload_n rX10_firstAt_4 rfl ?_
    refine tq_aload_n rX10_firstAt_5 rfl ?_
    refine ty_getR rX10_firstAt_6 f_X10_19 rfl h0 (hp_10_2 h0).1 ?_
    refine ty_alen (v := 40) rX10_firstAt_9 (hp_10_2 h0).2.1 (by decide) (hp_10_2 h0).2.2 rfl ?_
    refine tq_icmp_lt rX10_firstAt_10 (fun c2 => ?_) (fun c2 => ?_)
    · rw [if_pos c2] at hf
      refine tq_aload_n rX10_firstAt_17 rfl ?_
      refine ty_getR rX10_firstAt_18 f_X10_19 rfl h0 (hp_10_2 h0).1 ?_
      refine tq_iload_n rX10_firstAt_21 rfl ?_
      obtain ⟨g3, hf⟩ := tq_chk hf
      refine ty_iald (v := 40) rX10_firstAt_22 (hp_10_2 h0).2.1 (hp_10_2 h0).2.2 rfl (by decide) g3 ?_
      refine ty_iret rX10_firstAt_23 rfl rfl ?_
      have hf := Option.some.inj hf
      subst hf
      exact ⟨rfl, rfl, rfl⟩
    · rw [if_neg c2] at hf
      exact tq_forget _ (tq_le_u (tq_le_u tq_le_n)) (FX10_firstAt_j13_x   hf ⟨rfl, rfl, rfl⟩)

abbrev mX10_secondAt : tq_M := (yX10_secondAt, cX10_secondAt, 2, (Option.some Jvm.ClassFile.FieldType.int), 0, 0)
theorem rX10_secondAt_0 : tq_D cX10_secondAt 0 (.iload_n 1) 1 1 := ⟨by decide +kernel, rfl⟩
theorem rX10_secondAt_1 : tq_J cX10_secondAt 1 (.ifCond .lt) 13 4 := ⟨12, by decide +kernel, by decide, rfl⟩
theorem rX10_secondAt_4 : tq_D cX10_secondAt 4 (.iload_n 1) 1 5 := ⟨by decide +kernel, rfl⟩
theorem rX10_secondAt_5 : tq_D cX10_secondAt 5 (.aload_n 0) 1 6 := ⟨by decide +kernel, rfl⟩
theorem rX10_secondAt_6 : tq_D cX10_secondAt 6 (.getfield 22) 3 9 := ⟨by decide +kernel, rfl⟩
theorem rX10_secondAt_9 : tq_D cX10_secondAt 9 (.arraylength) 1 10 := ⟨by decide +kernel, rfl⟩
theorem rX10_secondAt_10 : tq_J cX10_secondAt 10 (.if_icmp .lt) 17 13 := ⟨7, by decide +kernel, by decide, rfl⟩
theorem rX10_secondAt_13 : tq_D cX10_secondAt 13 (.iconst (-1)) 1 14 := ⟨by decide +kernel, rfl⟩
theorem rX10_secondAt_14 : tq_J cX10_secondAt 14 .goto 23 17 := ⟨9, by decide +kernel, by decide, rfl⟩
theorem rX10_secondAt_17 : tq_D cX10_secondAt 17 (.aload_n 0) 1 18 := ⟨by decide +kernel, rfl⟩
theorem rX10_secondAt_18 : tq_D cX10_secondAt 18 (.getfield 22) 3 21 := ⟨by decide +kernel, rfl⟩
theorem rX10_secondAt_21 : tq_D cX10_secondAt 21 (.iload_n 1) 1 22 := ⟨by decide +kernel, rfl⟩
theorem rX10_secondAt_22 : tq_D cX10_secondAt 22 (.iaload) 1 23 := ⟨by decide +kernel, rfl⟩
theorem rX10_secondAt_23 : decode cX10_secondAt 23 = .ok (.ireturn, 1) := by decide +kernel
noncomputable def FX10_secondAt_j13 (I : tq_PI) (L : tq_PL)  : Option (Int32) :=
  some (-1 : Int32)
noncomputable def FX10_secondAt (I : tq_PI) (L : tq_PL) (a0 : Nat) (a1 : Int32) : Option (Int32) :=
  (if a1 < 0 then (FX10_secondAt_j13 I L ) else (if a1 < (40 : Int32) then (if 0 ≤ a1 ∧ a1 < 40 then some (I (tq_rg a0 3) a1.toNatClampNeg) else none) else (FX10_secondAt_j13 I L )))
set_option maxRecDepth 100000 in
set_option maxHeartbeats 4000000 in
theorem FX10_secondAt_j13_x {S : Nat × (Nat → Int32)} {d : Nat} {I : tq_PI} {L : tq_PL}   {q0 : Option Value → tq_PI → tq_PL → Prop} {out : Int32} (hf : FX10_secondAt_j13 I L = some out) (hk : q0 (some (.int out)) I L) : tq_X S mX10_secondAt d tq_k0 13 ([tq_u, tq_u]) ([]) (tq_st I L) (tq_Q q0) := by
  unfold FX10_secondAt_j13 at hf
  refine tq_iconst (-1 : Int32) rX10_secondAt_13 (by decide) ?_
  refine tq_goto rX10_secondAt_14 ?_
  refine ty_iret rX10_secondAt_23 rfl rfl ?_
  have hf := Option.some.inj hf
  subst hf
  exact hk

set_option maxRecDepth 100000 in
set_option maxHeartbeats 4000000 in
theorem CX10_secondAt {S : Nat × (Nat → Int32)} {d : Nat} {I : tq_PI} {L : tq_PL} {a0 : Nat} {a1 : Int32} (h0 : tq_sh0 a0 = 10) {out : Int32} (hf : FX10_secondAt I L a0 a1 = some out) : tq_K S mX10_secondAt d [.ref a0, .int a1] I L (tq_one2 (some (.int out)) I L) := by
  unfold FX10_secondAt at hf
  refine tq_K_of (by decide) (Nat.le_of_ble_eq_true rfl) (ls := [.ref a0, .int a1]) rfl ?_
  refine tq_iload_n rX10_secondAt_0 rfl ?_
  refine tq_if_lt rX10_secondAt_1 (fun c1 => ?_) (fun c1 => ?_)
  · rw [if_pos c1] at hf
    exact tq_forget _ (tq_le_u (tq_le_u tq_le_n)) (FX10_secondAt_j13_x   hf ⟨rfl, rfl, rfl⟩)
  · rw [if_neg c1] at hf
    refine tq_iload_n rX10_secondAt_4 rfl ?_
    refine tq_aload_n rX10_secondAt_5 rfl ?_
    refine ty_getR rX10_secondAt_6 f_X10_22 rfl h0 (hp_10_3 h0).1 ?_
    refine ty_alen (v := 40) rX10_secondAt_9 (hp_10_3 h0).2.1 (by decide) (hp_10_3 h0).2.2 rfl ?_
    refine tq_icmp_lt rX10_secondAt_10 (fun c2 => ?_) (fun c2 => ?_)
    · rw [if_pos c2] at hf
      refine tq_aload_n rX10_secondAt_17 rfl ?_
      refine ty_getR rX10_secondAt_18 f_X10_22 rfl h0 (hp_10_3 h0).1 ?_
      refine tq_iload_n rX10_secondAt_21 rfl ?_
      obtain ⟨g3, hf⟩ := tq_chk hf
      refine ty_iald (v := 40) rX10_secondAt_22 (hp_10_3 h0).2.1 (hp_10_3 h0).2.2 rfl (by decide) g3 ?_
      refine ty_iret rX10_secondAt_23 rfl rfl ?_
      have hf := Option.some.inj hf
      subst hf
      exact ⟨rfl, rfl, rfl⟩
    · rw [if_neg c2] at hf
      exact tq_forget _ (tq_le_u (tq_le_u tq_le_n)) (FX10_secondAt_j13_x   hf ⟨rfl, rfl, rfl⟩)

abbrev mX8_shoreUp : tq_M := (yX8_shoreUp, cX8_shoreUp, 3, (Option.some Jvm.ClassFile.FieldType.boolean), 0, 0)
theorem l_X8_111 : tq_lok RX8 111 mX3_air.1 := Or.inl (tq_sg4 _ (List.mem_of_getElem? (i := 62) rfl))
theorem l_X8_115 : tq_lok RX8 115 mX3_put.1 := Or.inl (tq_sg4 _ (List.mem_of_getElem? (i := 66) rfl))
theorem rX8_shoreUp_0 : tq_D cX8_shoreUp 0 (.aload_n 0) 1 1 := ⟨by decide +kernel, rfl⟩
theorem rX8_shoreUp_1 : tq_D cX8_shoreUp 1 (.getfield 12) 3 4 := ⟨by decide +kernel, rfl⟩
theorem rX8_shoreUp_4 : tq_D cX8_shoreUp 4 (.invokevirtual 111) 3 7 := ⟨by decide +kernel, rfl⟩
theorem rX8_shoreUp_7 : tq_D cX8_shoreUp 7 (.lload_n 1) 1 8 := ⟨by decide +kernel, rfl⟩
theorem rX8_shoreUp_8 : tq_D cX8_shoreUp 8 (.land) 1 9 := ⟨by decide +kernel, rfl⟩
theorem rX8_shoreUp_9 : tq_D cX8_shoreUp 9 (.lconst 0) 1 10 := ⟨by decide +kernel, rfl⟩
theorem rX8_shoreUp_10 : tq_D cX8_shoreUp 10 (.lcmp) 1 11 := ⟨by decide +kernel, rfl⟩
theorem rX8_shoreUp_11 : tq_J cX8_shoreUp 11 (.ifCond .ne) 16 14 := ⟨5, by decide +kernel, by decide, rfl⟩
theorem rX8_shoreUp_14 : tq_D cX8_shoreUp 14 (.iconst 0) 1 15 := ⟨by decide +kernel, rfl⟩
theorem rX8_shoreUp_15 : decode cX8_shoreUp 15 = .ok (.ireturn, 1) := by decide +kernel
theorem rX8_shoreUp_16 : tq_D cX8_shoreUp 16 (.aload_n 0) 1 17 := ⟨by decide +kernel, rfl⟩
theorem rX8_shoreUp_17 : tq_D cX8_shoreUp 17 (.getfield 12) 3 20 := ⟨by decide +kernel, rfl⟩
theorem rX8_shoreUp_20 : tq_D cX8_shoreUp 20 (.iconst 4) 1 21 := ⟨by decide +kernel, rfl⟩
theorem rX8_shoreUp_21 : tq_D cX8_shoreUp 21 (.lload_n 1) 1 22 := ⟨by decide +kernel, rfl⟩
theorem rX8_shoreUp_22 : tq_D cX8_shoreUp 22 (.invokevirtual 115) 3 25 := ⟨by decide +kernel, rfl⟩
theorem rX8_shoreUp_25 : tq_D cX8_shoreUp 25 (.iconst 1) 1 26 := ⟨by decide +kernel, rfl⟩
theorem rX8_shoreUp_26 : decode cX8_shoreUp 26 = .ok (.ireturn, 1) := by decide +kernel
noncomputable def FX8_shoreUp (I : tq_PI) (L : tq_PL) (a0 : Nat) (a1 : Int64) : Bool × tq_PL :=
  (tq_let (FX3_air I L ((tq_rg a0 0))) fun p1 => (if (lg_cmp (p1 &&& a1) (0 : Int64)) = 0 then (false, L) else (tq_let (FX3_put I L ((tq_rg a0 0)) ((4 : Int32)) a1) fun p3 => (true, p3))))
set_option maxRecDepth 100000 in
set_option maxHeartbeats 4000000 in
theorem CX8_shoreUp {S : Nat × (Nat → Int32)} {d : Nat} {I : tq_PI} {L : tq_PL} {a0 : Nat} {a1 : Int64} (h0 : tq_sh0 a0 = 8) {out : Bool × tq_PL} (hf : FX8_shoreUp I L a0 a1 = out) : tq_K S mX8_shoreUp (d + 3) [.ref a0, .long a1] I L (tq_one2 (some (.int (tq_b out.1))) I out.2) := by
  unfold FX8_shoreUp at hf
  refine tq_K_of (by decide) (Nat.le_of_ble_eq_true rfl) (ls := [.ref a0, .long a1, tq_u]) rfl ?_
  refine tq_aload_n rX8_shoreUp_0 rfl ?_
  refine ty_getR rX8_shoreUp_1 f_X8_12 rfl h0 (hp_8_0 h0).1 ?_
  obtain ⟨p1, e1, hf⟩ := tq_let_elim hf
  refine ty_callVJ p1 ([]) ([]) rX8_shoreUp_4 l_X8_111 moX3_air mvX3_air (hp_8_0 h0).2.1 rfl rfl (Nat.le_of_ble_eq_true rfl) ⟨rfl, rfl⟩ (CX3_air (hp_8_0 h0).2.1 e1) ?_
  refine tq_lload_n rX8_shoreUp_7 rfl ?_
  refine tq_land rX8_shoreUp_8 ?_
  refine tq_lconst (0 : Int64) rX8_shoreUp_9 (by decide) ?_
  refine tq_lcmp rX8_shoreUp_10 ?_
  refine tq_if_ne rX8_shoreUp_11 (fun c2 => ?_) (fun c2 => ?_)
  · rw [if_neg c2] at hf
    refine tq_aload_n rX8_shoreUp_16 rfl ?_
    refine ty_getR rX8_shoreUp_17 f_X8_12 rfl h0 (hp_8_0 h0).1 ?_
    refine tq_iconst (4 : Int32) rX8_shoreUp_20 (by decide) ?_
    refine tq_lload_n rX8_shoreUp_21 rfl ?_
    obtain ⟨p3, e3, hf⟩ := tq_let_elim hf
    refine ty_callVV ([.int (4 : Int32), .long a1]) ([]) rX8_shoreUp_22 l_X8_115 moX3_put mvX3_put (hp_8_0 h0).2.1 rfl rfl (Nat.le_of_ble_eq_true rfl) ⟨rfl, rfl⟩ (CX3_put (hp_8_0 h0).2.1 e3) ?_
    refine tq_iconst (1 : Int32) rX8_shoreUp_25 (by decide) ?_
    refine ty_zret (ty := .boolean) rX8_shoreUp_26 rfl rfl rfl ?_
    subst hf
    exact ⟨rfl, rfl, rfl⟩
  · rw [if_pos c2] at hf
    refine tq_iconst (0 : Int32) rX8_shoreUp_14 (by decide) ?_
    refine ty_zret (ty := .boolean) rX8_shoreUp_15 rfl rfl rfl ?_
    subst hf
    exact ⟨rfl, rfl, rfl⟩

abbrev mX8_strike : tq_M := (yX8_strike, cX8_strike, 8, (Option.some Jvm.ClassFile.FieldType.boolean), 0, 0)
theorem moX3_blowsOf : tq_mok mX3_blowsOf 1 := ⟨tq_sg1 _ (List.mem_of_getElem? (i := 3) rfl), tq_sg4 _ (List.mem_of_getElem? (i := 80) rfl), ⟨by decide, by decide, by decide +kernel⟩, by decide⟩
theorem mvX3_blowsOf : 3 < 13 ∧ (tq_cl 3).1 = mX3_blowsOf.1.cls ∧ Cond.instanceMethod mX3_blowsOf.1 ∈ lw_tbl ∧ Cond.selects mX3_blowsOf.1.cls mX3_blowsOf.1 mX3_blowsOf.1 ∈ lw_tbl := ⟨by decide, rfl, tq_sg4 _ (List.mem_of_getElem? (i := 78) rfl), tq_sg4 _ (List.mem_of_getElem? (i := 79) rfl)⟩
theorem k_X8_133 : Cond.constantLong RX8 133 (-1) ∈ lw_tbl := tq_sg4 _ (List.mem_of_getElem? (i := 81) rfl)
theorem l_X8_119 : tq_lok RX8 119 mX3_solid.1 := Or.inl (tq_sg4 _ (List.mem_of_getElem? (i := 71) rfl))
theorem l_X8_122 : tq_lok RX8 122 mX3_cuttable.1 := Or.inl (tq_sg4 _ (List.mem_of_getElem? (i := 72) rfl))
theorem l_X8_126 : tq_lok RX8 126 mX3_worthOf.1 := Or.inl (tq_sg4 _ (List.mem_of_getElem? (i := 76) rfl))
theorem l_X8_130 : tq_lok RX8 130 mX3_blowsOf.1 := Or.inl (tq_sg4 _ (List.mem_of_getElem? (i := 77) rfl))
theorem l_X8_135 : tq_lok RX8 135 mX3_settled.1 := Or.inl (tq_sg4 _ (List.mem_of_getElem? (i := 82) rfl))
theorem l_X8_139 : tq_lok RX8 139 mJ13_bitCount_95d88.1 := Or.inl (tq_sg4 _ (List.mem_of_getElem? (i := 87) rfl))
theorem l_X8_144 : tq_lok RX8 144 mX3_keepOnly.1 := Or.inl (tq_sg4 _ (List.mem_of_getElem? (i := 88) rfl))
theorem rX8_strike_0 : tq_D cX8_strike 0 (.aload_n 0) 1 1 := ⟨by decide +kernel, rfl⟩
theorem rX8_strike_1 : tq_D cX8_strike 1 (.getfield 12) 3 4 := ⟨by decide +kernel, rfl⟩
theorem rX8_strike_4 : tq_D cX8_strike 4 (.iload_n 1) 1 5 := ⟨by decide +kernel, rfl⟩
theorem rX8_strike_5 : tq_D cX8_strike 5 (.aload_n 0) 1 6 := ⟨by decide +kernel, rfl⟩
theorem rX8_strike_6 : tq_D cX8_strike 6 (.getfield 12) 3 9 := ⟨by decide +kernel, rfl⟩
theorem rX8_strike_9 : tq_D cX8_strike 9 (.invokevirtual 119) 3 12 := ⟨by decide +kernel, rfl⟩
theorem rX8_strike_12 : tq_D cX8_strike 12 (.invokevirtual 122) 3 15 := ⟨by decide +kernel, rfl⟩
theorem rX8_strike_15 : tq_D cX8_strike 15 (.lload_n 2) 1 16 := ⟨by decide +kernel, rfl⟩
theorem rX8_strike_16 : tq_D cX8_strike 16 (.land) 1 17 := ⟨by decide +kernel, rfl⟩
theorem rX8_strike_17 : tq_D cX8_strike 17 (.lconst 0) 1 18 := ⟨by decide +kernel, rfl⟩
theorem rX8_strike_18 : tq_D cX8_strike 18 (.lcmp) 1 19 := ⟨by decide +kernel, rfl⟩
theorem rX8_strike_19 : tq_J cX8_strike 19 (.ifCond .ne) 24 22 := ⟨5, by decide +kernel, by decide, rfl⟩
theorem rX8_strike_22 : tq_D cX8_strike 22 (.iconst 0) 1 23 := ⟨by decide +kernel, rfl⟩
theorem rX8_strike_23 : decode cX8_strike 23 = .ok (.ireturn, 1) := by decide +kernel
theorem rX8_strike_24 : tq_D cX8_strike 24 (.iload_n 1) 1 25 := ⟨by decide +kernel, rfl⟩
theorem rX8_strike_25 : tq_J cX8_strike 25 (.ifCond .ne) 65 28 := ⟨40, by decide +kernel, by decide, rfl⟩
theorem rX8_strike_28 : tq_D cX8_strike 28 (.aload_n 0) 1 29 := ⟨by decide +kernel, rfl⟩
theorem rX8_strike_29 : tq_D cX8_strike 29 (.dup) 1 30 := ⟨by decide +kernel, rfl⟩
theorem rX8_strike_30 : tq_D cX8_strike 30 (.getfield 18) 3 33 := ⟨by decide +kernel, rfl⟩
theorem rX8_strike_33 : tq_D cX8_strike 33 (.aload_n 0) 1 34 := ⟨by decide +kernel, rfl⟩
theorem rX8_strike_34 : tq_D cX8_strike 34 (.getfield 12) 3 37 := ⟨by decide +kernel, rfl⟩
theorem rX8_strike_37 : tq_D cX8_strike 37 (.lload_n 2) 1 38 := ⟨by decide +kernel, rfl⟩
theorem rX8_strike_38 : tq_D cX8_strike 38 (.invokevirtual 126) 3 41 := ⟨by decide +kernel, rfl⟩
theorem rX8_strike_41 : tq_D cX8_strike 41 (.iadd) 1 42 := ⟨by decide +kernel, rfl⟩
theorem rX8_strike_42 : tq_D cX8_strike 42 (.putfield 18) 3 45 := ⟨by decide +kernel, rfl⟩
theorem rX8_strike_45 : tq_D cX8_strike 45 (.aload_n 0) 1 46 := ⟨by decide +kernel, rfl⟩
theorem rX8_strike_46 : tq_D cX8_strike 46 (.dup) 1 47 := ⟨by decide +kernel, rfl⟩
theorem rX8_strike_47 : tq_D cX8_strike 47 (.getfield 25) 3 50 := ⟨by decide +kernel, rfl⟩
theorem rX8_strike_50 : tq_D cX8_strike 50 (.aload_n 0) 1 51 := ⟨by decide +kernel, rfl⟩
theorem rX8_strike_51 : tq_D cX8_strike 51 (.getfield 12) 3 54 := ⟨by decide +kernel, rfl⟩
theorem rX8_strike_54 : tq_D cX8_strike 54 (.lload_n 2) 1 55 := ⟨by decide +kernel, rfl⟩
theorem rX8_strike_55 : tq_D cX8_strike 55 (.invokevirtual 130) 3 58 := ⟨by decide +kernel, rfl⟩
theorem rX8_strike_58 : tq_D cX8_strike 58 (.iadd) 1 59 := ⟨by decide +kernel, rfl⟩
theorem rX8_strike_59 : tq_D cX8_strike 59 (.putfield 25) 3 62 := ⟨by decide +kernel, rfl⟩
theorem rX8_strike_62 : tq_J cX8_strike 62 .goto 99 65 := ⟨37, by decide +kernel, by decide, rfl⟩
theorem rX8_strike_65 : tq_D cX8_strike 65 (.aload_n 0) 1 66 := ⟨by decide +kernel, rfl⟩
theorem rX8_strike_66 : tq_D cX8_strike 66 (.dup) 1 67 := ⟨by decide +kernel, rfl⟩
theorem rX8_strike_67 : tq_D cX8_strike 67 (.getfield 22) 3 70 := ⟨by decide +kernel, rfl⟩
theorem rX8_strike_70 : tq_D cX8_strike 70 (.aload_n 0) 1 71 := ⟨by decide +kernel, rfl⟩
theorem rX8_strike_71 : tq_D cX8_strike 71 (.getfield 12) 3 74 := ⟨by decide +kernel, rfl⟩
theorem rX8_strike_74 : tq_D cX8_strike 74 (.lload_n 2) 1 75 := ⟨by decide +kernel, rfl⟩
theorem rX8_strike_75 : tq_D cX8_strike 75 (.invokevirtual 126) 3 78 := ⟨by decide +kernel, rfl⟩
theorem rX8_strike_78 : tq_D cX8_strike 78 (.iadd) 1 79 := ⟨by decide +kernel, rfl⟩
theorem rX8_strike_79 : tq_D cX8_strike 79 (.putfield 22) 3 82 := ⟨by decide +kernel, rfl⟩
theorem rX8_strike_82 : tq_D cX8_strike 82 (.aload_n 0) 1 83 := ⟨by decide +kernel, rfl⟩
theorem rX8_strike_83 : tq_D cX8_strike 83 (.dup) 1 84 := ⟨by decide +kernel, rfl⟩
theorem rX8_strike_84 : tq_D cX8_strike 84 (.getfield 28) 3 87 := ⟨by decide +kernel, rfl⟩
theorem rX8_strike_87 : tq_D cX8_strike 87 (.aload_n 0) 1 88 := ⟨by decide +kernel, rfl⟩
theorem rX8_strike_88 : tq_D cX8_strike 88 (.getfield 12) 3 91 := ⟨by decide +kernel, rfl⟩
theorem rX8_strike_91 : tq_D cX8_strike 91 (.lload_n 2) 1 92 := ⟨by decide +kernel, rfl⟩
theorem rX8_strike_92 : tq_D cX8_strike 92 (.invokevirtual 130) 3 95 := ⟨by decide +kernel, rfl⟩
theorem rX8_strike_95 : tq_D cX8_strike 95 (.iadd) 1 96 := ⟨by decide +kernel, rfl⟩
theorem rX8_strike_96 : tq_D cX8_strike 96 (.putfield 28) 3 99 := ⟨by decide +kernel, rfl⟩
theorem rX8_strike_99 : tq_D cX8_strike 99 (.aload_n 0) 1 100 := ⟨by decide +kernel, rfl⟩
theorem rX8_strike_100 : tq_D cX8_strike 100 (.getfield 12) 3 103 := ⟨by decide +kernel, rfl⟩
theorem rX8_strike_103 : tq_D cX8_strike 103 (.invokevirtual 119) 3 106 := ⟨by decide +kernel, rfl⟩
theorem rX8_strike_106 : tq_D cX8_strike 106 (.lload_n 2) 1 107 := ⟨by decide +kernel, rfl⟩
theorem rX8_strike_107 : tq_D cX8_strike 107 (.ldc2_w 133) 3 110 := ⟨by decide +kernel, rfl⟩
theorem rX8_strike_110 : tq_D cX8_strike 110 (.lxor) 1 111 := ⟨by decide +kernel, rfl⟩
theorem rX8_strike_111 : tq_D cX8_strike 111 (.land) 1 112 := ⟨by decide +kernel, rfl⟩
theorem rX8_strike_112 : tq_D cX8_strike 112 (.lstore 4) 2 114 := ⟨by decide +kernel, rfl⟩
theorem rX8_strike_114 : tq_D cX8_strike 114 (.aload_n 0) 1 115 := ⟨by decide +kernel, rfl⟩
theorem rX8_strike_115 : tq_D cX8_strike 115 (.getfield 12) 3 118 := ⟨by decide +kernel, rfl⟩
theorem rX8_strike_118 : tq_D cX8_strike 118 (.lload 4) 2 120 := ⟨by decide +kernel, rfl⟩
theorem rX8_strike_120 : tq_D cX8_strike 120 (.invokevirtual 135) 3 123 := ⟨by decide +kernel, rfl⟩
theorem rX8_strike_123 : tq_D cX8_strike 123 (.lstore 6) 2 125 := ⟨by decide +kernel, rfl⟩
theorem rX8_strike_125 : tq_D cX8_strike 125 (.aload_n 0) 1 126 := ⟨by decide +kernel, rfl⟩
theorem rX8_strike_126 : tq_D cX8_strike 126 (.dup) 1 127 := ⟨by decide +kernel, rfl⟩
theorem rX8_strike_127 : tq_D cX8_strike 127 (.getfield 31) 3 130 := ⟨by decide +kernel, rfl⟩
theorem rX8_strike_130 : tq_D cX8_strike 130 (.lload 4) 2 132 := ⟨by decide +kernel, rfl⟩
theorem rX8_strike_132 : tq_D cX8_strike 132 (.lload 6) 2 134 := ⟨by decide +kernel, rfl⟩
theorem rX8_strike_134 : tq_D cX8_strike 134 (.ldc2_w 133) 3 137 := ⟨by decide +kernel, rfl⟩
theorem rX8_strike_137 : tq_D cX8_strike 137 (.lxor) 1 138 := ⟨by decide +kernel, rfl⟩
theorem rX8_strike_138 : tq_D cX8_strike 138 (.land) 1 139 := ⟨by decide +kernel, rfl⟩
theorem rX8_strike_139 : tq_D cX8_strike 139 (.invokestatic 139) 3 142 := ⟨by decide +kernel, rfl⟩
theorem rX8_strike_142 : tq_D cX8_strike 142 (.iadd) 1 143 := ⟨by decide +kernel, rfl⟩
theorem rX8_strike_143 : tq_D cX8_strike 143 (.putfield 31) 3 146 := ⟨by decide +kernel, rfl⟩
theorem rX8_strike_146 : tq_D cX8_strike 146 (.aload_n 0) 1 147 := ⟨by decide +kernel, rfl⟩
theorem rX8_strike_147 : tq_D cX8_strike 147 (.getfield 12) 3 150 := ⟨by decide +kernel, rfl⟩
theorem rX8_strike_150 : tq_D cX8_strike 150 (.lload 6) 2 152 := ⟨by decide +kernel, rfl⟩
theorem rX8_strike_152 : tq_D cX8_strike 152 (.invokevirtual 144) 3 155 := ⟨by decide +kernel, rfl⟩
theorem rX8_strike_155 : tq_D cX8_strike 155 (.iconst 1) 1 156 := ⟨by decide +kernel, rfl⟩
theorem rX8_strike_156 : decode cX8_strike 156 = .ok (.ireturn, 1) := by decide +kernel
noncomputable def FX8_strike_j99 (I : tq_PI) (L : tq_PL) (a0 : Nat) (a2 : Int64) : Option (Bool × tq_PI × tq_PL) :=
  (tq_let (FX3_solid I L ((tq_rg a0 0))) fun p7 => ((FX3_settled I L ((tq_rg a0 0)) ((p7 &&& (a2 ^^^ (-1 : Int64))))).bind fun p8 => (tq_let (FJ13_bitCount_95d88 I L (((p7 &&& (a2 ^^^ (-1 : Int64))) &&& (p8 ^^^ (-1 : Int64))))) fun p9 => (tq_let (FX3_keepOnly ((tq_up2 I a0 5 ((I a0 5) + p9))) L ((tq_rg a0 0)) p8) fun p10 => some (true, (tq_up2 I a0 5 ((I a0 5) + p9)), p10)))))
noncomputable def FX8_strike (I : tq_PI) (L : tq_PL) (a0 : Nat) (a1 : Int32) (a2 : Int64) : Option (Bool × tq_PI × tq_PL) :=
  (tq_let (FX3_solid I L ((tq_rg a0 0))) fun p1 => ((FX3_cuttable I L ((tq_rg a0 0)) a1 p1).bind fun p2 => (if (lg_cmp (p2 &&& a2) (0 : Int64)) = 0 then some (false, I, L) else (if a1 = 0 then (tq_let (FX3_worthOf I L ((tq_rg a0 0)) a2) fun p11 => (tq_let (FX3_blowsOf ((tq_up2 I a0 1 ((I a0 1) + p11))) L ((tq_rg a0 0)) a2) fun p12 => (FX8_strike_j99 ((tq_up2 (tq_up2 I a0 1 ((I a0 1) + p11)) a0 3 ((((tq_up2 I a0 1 ((I a0 1) + p11))) a0 3) + p12))) L a0 a2))) else (tq_let (FX3_worthOf I L ((tq_rg a0 0)) a2) fun p5 => (tq_let (FX3_blowsOf ((tq_up2 I a0 2 ((I a0 2) + p5))) L ((tq_rg a0 0)) a2) fun p6 => (FX8_strike_j99 ((tq_up2 (tq_up2 I a0 2 ((I a0 2) + p5)) a0 4 ((((tq_up2 I a0 2 ((I a0 2) + p5))) a0 4) + p6))) L a0 a2)))))))
set_option maxRecDepth 100000 in
set_option maxHeartbeats 4000000 in
theorem FX8_strike_j99_x {S : Nat × (Nat → Int32)} {d : Nat} {I : tq_PI} {L : tq_PL} {a0 : Nat} {a2 : Int64} (h0 : tq_sh0 a0 = 8) {q0 : Option Value → tq_PI → tq_PL → Prop} {out : Bool × tq_PI × tq_PL} (hf : FX8_strike_j99 I L a0 a2 = some out) (hk : q0 (some (.int (tq_b out.1))) out.2.1 out.2.2) : tq_X S mX8_strike (d + 3) tq_k0 99 ([.ref a0, tq_u, .long a2, tq_u, tq_u, tq_u, tq_u, tq_u]) ([]) (tq_st I L) (tq_Q q0) := by
  unfold FX8_strike_j99 at hf
  refine tq_aload_n rX8_strike_99 rfl ?_
  refine ty_getR rX8_strike_100 f_X8_12 rfl h0 (hp_8_0 h0).1 ?_
  obtain ⟨p7, e7, hf⟩ := tq_let_elim hf
  refine ty_callVJ p7 ([]) ([]) rX8_strike_103 l_X8_119 moX3_solid mvX3_solid (hp_8_0 h0).2.1 rfl rfl (Nat.le_of_ble_eq_true rfl) ⟨rfl, rfl⟩ (CX3_solid (hp_8_0 h0).2.1 e7) ?_
  refine tq_lload_n rX8_strike_106 rfl ?_
  refine tq_ldc2 rX8_strike_107 (k_X8_133) ?_
  refine tq_lxor rX8_strike_110 ?_
  refine tq_land rX8_strike_111 ?_
  refine tq_lstore ([.ref a0, tq_u, .long a2, tq_u, .long (p7 &&& (a2 ^^^ (-1 : Int64))), tq_u, tq_u, tq_u]) rX8_strike_112 (Nat.le_of_ble_eq_true rfl) rfl ?_
  refine tq_aload_n rX8_strike_114 rfl ?_
  refine ty_getR rX8_strike_115 f_X8_12 rfl h0 (hp_8_0 h0).1 ?_
  refine tq_lload rX8_strike_118 rfl ?_
  obtain ⟨p8, e8, hf⟩ := Option.bind_eq_some_iff.mp hf
  refine ty_callVJ p8 ([.long (p7 &&& (a2 ^^^ (-1 : Int64)))]) ([]) rX8_strike_120 l_X8_135 moX3_settled mvX3_settled (hp_8_0 h0).2.1 rfl rfl (Nat.le_of_ble_eq_true rfl) ⟨rfl, rfl⟩ (CX3_settled (hp_8_0 h0).2.1 e8) ?_
  refine tq_lstore ([.ref a0, tq_u, .long a2, tq_u, .long (p7 &&& (a2 ^^^ (-1 : Int64))), tq_u, .long p8, tq_u]) rX8_strike_123 (Nat.le_of_ble_eq_true rfl) rfl ?_
  refine tq_aload_n rX8_strike_125 rfl ?_
  refine tq_dup rX8_strike_126 rfl ?_
  refine ty_getI rX8_strike_127 f_X8_31 rfl h0 ?_
  refine tq_lload rX8_strike_130 rfl ?_
  refine tq_lload rX8_strike_132 rfl ?_
  refine tq_ldc2 rX8_strike_134 (k_X8_133) ?_
  refine tq_lxor rX8_strike_137 ?_
  refine tq_land rX8_strike_138 ?_
  obtain ⟨p9, e9, hf⟩ := tq_let_elim hf
  refine ty_callSI p9 ([.long ((p7 &&& (a2 ^^^ (-1 : Int64))) &&& (p8 ^^^ (-1 : Int64)))]) ([.int (I a0 5), .ref a0]) rX8_strike_139 l_X8_139 moJ13_bitCount_95d88 msJ13_bitCount_95d88 rfl rfl (Nat.le_of_ble_eq_true rfl) ⟨rfl, rfl⟩ (CJ13_bitCount_95d88  e9) ?_
  refine tq_iadd rX8_strike_142 ?_
  refine ty_putI rX8_strike_143 f_X8_31 rfl h0 rfl ?_
  refine tq_aload_n rX8_strike_146 rfl ?_
  refine ty_getR rX8_strike_147 f_X8_12 rfl h0 (hp_8_0 h0).1 ?_
  refine tq_lload rX8_strike_150 rfl ?_
  obtain ⟨p10, e10, hf⟩ := tq_let_elim hf
  refine ty_callVV ([.long p8]) ([]) rX8_strike_152 l_X8_144 moX3_keepOnly mvX3_keepOnly (hp_8_0 h0).2.1 rfl rfl (Nat.le_of_ble_eq_true rfl) ⟨rfl, rfl⟩ (CX3_keepOnly (hp_8_0 h0).2.1 e10) ?_
  refine tq_iconst (1 : Int32) rX8_strike_155 (by decide) ?_
  refine ty_zret (ty := .boolean) rX8_strike_156 rfl rfl rfl ?_
  have hf := Option.some.inj hf
  subst hf
  exact hk

set_option maxRecDepth 100000 in
set_option maxHeartbeats 4000000 in
theorem CX8_strike {S : Nat × (Nat → Int32)} {d : Nat} {I : tq_PI} {L : tq_PL} {a0 : Nat} {a1 : Int32} {a2 : Int64} (h0 : tq_sh0 a0 = 8) {out : Bool × tq_PI × tq_PL} (hf : FX8_strike I L a0 a1 a2 = some out) : tq_K S mX8_strike (d + 3) [.ref a0, .int a1, .long a2] I L (tq_one2 (some (.int (tq_b out.1))) out.2.1 out.2.2) := by
  unfold FX8_strike at hf
  refine tq_K_of (by decide) (Nat.le_of_ble_eq_true rfl) (ls := [.ref a0, .int a1, .long a2, tq_u, tq_u, tq_u, tq_u, tq_u]) rfl ?_
  refine tq_aload_n rX8_strike_0 rfl ?_
  refine ty_getR rX8_strike_1 f_X8_12 rfl h0 (hp_8_0 h0).1 ?_
  refine tq_iload_n rX8_strike_4 rfl ?_
  refine tq_aload_n rX8_strike_5 rfl ?_
  refine ty_getR rX8_strike_6 f_X8_12 rfl h0 (hp_8_0 h0).1 ?_
  obtain ⟨p1, e1, hf⟩ := tq_let_elim hf
  refine ty_callVJ p1 ([]) ([.int a1, .ref (tq_rg a0 0)]) rX8_strike_9 l_X8_119 moX3_solid mvX3_solid (hp_8_0 h0).2.1 rfl rfl (Nat.le_of_ble_eq_true rfl) ⟨rfl, rfl⟩ (CX3_solid (hp_8_0 h0).2.1 e1) ?_
  obtain ⟨p2, e2, hf⟩ := Option.bind_eq_some_iff.mp hf
  refine ty_callVJ p2 ([.int a1, .long p1]) ([]) rX8_strike_12 l_X8_122 moX3_cuttable mvX3_cuttable (hp_8_0 h0).2.1 rfl rfl (Nat.le_of_ble_eq_true rfl) ⟨rfl, rfl⟩ (CX3_cuttable (hp_8_0 h0).2.1 e2) ?_
  refine tq_lload_n rX8_strike_15 rfl ?_
  refine tq_land rX8_strike_16 ?_
  refine tq_lconst (0 : Int64) rX8_strike_17 (by decide) ?_
  refine tq_lcmp rX8_strike_18 ?_
  refine tq_if_ne rX8_strike_19 (fun c3 => ?_) (fun c3 => ?_)
  · rw [if_neg c3] at hf
    refine tq_iload_n rX8_strike_24 rfl ?_
    refine tq_if_ne rX8_strike_25 (fun c4 => ?_) (fun c4 => ?_)
    · rw [if_neg c4] at hf
      refine tq_aload_n rX8_strike_65 rfl ?_
      refine tq_dup rX8_strike_66 rfl ?_
      refine ty_getI rX8_strike_67 f_X8_22 rfl h0 ?_
      refine tq_aload_n rX8_strike_70 rfl ?_
      refine ty_getR rX8_strike_71 f_X8_12 rfl h0 (hp_8_0 h0).1 ?_
      refine tq_lload_n rX8_strike_74 rfl ?_
      obtain ⟨p5, e5, hf⟩ := tq_let_elim hf
      refine ty_callVI p5 ([.long a2]) ([.int (I a0 2), .ref a0]) rX8_strike_75 l_X8_126 moX3_worthOf mvX3_worthOf (hp_8_0 h0).2.1 rfl rfl (Nat.le_of_ble_eq_true rfl) ⟨rfl, rfl⟩ (CX3_worthOf (hp_8_0 h0).2.1 e5) ?_
      refine tq_iadd rX8_strike_78 ?_
      refine ty_putI rX8_strike_79 f_X8_22 rfl h0 rfl ?_
      refine tq_aload_n rX8_strike_82 rfl ?_
      refine tq_dup rX8_strike_83 rfl ?_
      refine ty_getI rX8_strike_84 f_X8_28 rfl h0 ?_
      refine tq_aload_n rX8_strike_87 rfl ?_
      refine ty_getR rX8_strike_88 f_X8_12 rfl h0 (hp_8_0 h0).1 ?_
      refine tq_lload_n rX8_strike_91 rfl ?_
      obtain ⟨p6, e6, hf⟩ := tq_let_elim hf
      refine ty_callVI p6 ([.long a2]) ([.int (((tq_up2 I a0 2 ((I a0 2) + p5))) a0 4), .ref a0]) rX8_strike_92 l_X8_130 moX3_blowsOf mvX3_blowsOf (hp_8_0 h0).2.1 rfl rfl (Nat.le_of_ble_eq_true rfl) ⟨rfl, rfl⟩ (CX3_blowsOf (hp_8_0 h0).2.1 e6) ?_
      refine tq_iadd rX8_strike_95 ?_
      refine ty_putI rX8_strike_96 f_X8_28 rfl h0 rfl ?_
      exact tq_forget _ (tq_le_s (tq_le_u (tq_le_s (tq_le_u (tq_le_u (tq_le_u (tq_le_u (tq_le_u tq_le_n)))))))) (FX8_strike_j99_x  h0 hf ⟨rfl, rfl, rfl⟩)
    · rw [if_pos c4] at hf
      refine tq_aload_n rX8_strike_28 rfl ?_
      refine tq_dup rX8_strike_29 rfl ?_
      refine ty_getI rX8_strike_30 f_X8_18 rfl h0 ?_
      refine tq_aload_n rX8_strike_33 rfl ?_
      refine ty_getR rX8_strike_34 f_X8_12 rfl h0 (hp_8_0 h0).1 ?_
      refine tq_lload_n rX8_strike_37 rfl ?_
      obtain ⟨p11, e11, hf⟩ := tq_let_elim hf
      refine ty_callVI p11 ([.long a2]) ([.int (I a0 1), .ref a0]) rX8_strike_38 l_X8_126 moX3_worthOf mvX3_worthOf (hp_8_0 h0).2.1 rfl rfl (Nat.le_of_ble_eq_true rfl) ⟨rfl, rfl⟩ (CX3_worthOf (hp_8_0 h0).2.1 e11) ?_
      refine tq_iadd rX8_strike_41 ?_
      refine ty_putI rX8_strike_42 f_X8_18 rfl h0 rfl ?_
      refine tq_aload_n rX8_strike_45 rfl ?_
      refine tq_dup rX8_strike_46 rfl ?_
      refine ty_getI rX8_strike_47 f_X8_25 rfl h0 ?_
      refine tq_aload_n rX8_strike_50 rfl ?_
      refine ty_getR rX8_strike_51 f_X8_12 rfl h0 (hp_8_0 h0).1 ?_
      refine tq_lload_n rX8_strike_54 rfl ?_
      obtain ⟨p12, e12, hf⟩ := tq_let_elim hf
      refine ty_callVI p12 ([.long a2]) ([.int (((tq_up2 I a0 1 ((I a0 1) + p11))) a0 3), .ref a0]) rX8_strike_55 l_X8_130 moX3_blowsOf mvX3_blowsOf (hp_8_0 h0).2.1 rfl rfl (Nat.le_of_ble_eq_true rfl) ⟨rfl, rfl⟩ (CX3_blowsOf (hp_8_0 h0).2.1 e12) ?_
      refine tq_iadd rX8_strike_58 ?_
      refine ty_putI rX8_strike_59 f_X8_25 rfl h0 rfl ?_
      refine tq_goto rX8_strike_62 ?_
      exact tq_forget _ (tq_le_s (tq_le_u (tq_le_s (tq_le_u (tq_le_u (tq_le_u (tq_le_u (tq_le_u tq_le_n)))))))) (FX8_strike_j99_x  h0 hf ⟨rfl, rfl, rfl⟩)
  · rw [if_pos c3] at hf
    refine tq_iconst (0 : Int32) rX8_strike_22 (by decide) ?_
    refine ty_zret (ty := .boolean) rX8_strike_23 rfl rfl rfl ?_
    have hf := Option.some.inj hf
    subst hf
    exact ⟨rfl, rfl, rfl⟩

abbrev mX8_act : tq_M := (yX8_act, cX8_act, 6, (Option.some Jvm.ClassFile.FieldType.boolean), 0, 0)
theorem moX3_isHeardThrough : tq_mok mX3_isHeardThrough 1 := ⟨tq_sg1 _ (List.mem_of_getElem? (i := 3) rfl), tq_sg4 _ (List.mem_of_getElem? (i := 24) rfl), ⟨by decide, by decide, by decide +kernel⟩, by decide⟩
theorem mvX3_isHeardThrough : 3 < 13 ∧ (tq_cl 3).1 = mX3_isHeardThrough.1.cls ∧ Cond.instanceMethod mX3_isHeardThrough.1 ∈ lw_tbl ∧ Cond.selects mX3_isHeardThrough.1.cls mX3_isHeardThrough.1 mX3_isHeardThrough.1 ∈ lw_tbl := ⟨by decide, rfl, tq_sg4 _ (List.mem_of_getElem? (i := 22) rfl), tq_sg4 _ (List.mem_of_getElem? (i := 23) rfl)⟩
theorem moX8_shoreUp : tq_mok mX8_shoreUp 1 := ⟨tq_sg1 _ (List.mem_of_getElem? (i := 8) rfl), tq_sg4 _ (List.mem_of_getElem? (i := 61) rfl), ⟨by decide, by decide, by decide +kernel⟩, by decide⟩
theorem mvX8_shoreUp : 8 < 13 ∧ (tq_cl 8).1 = mX8_shoreUp.1.cls ∧ Cond.instanceMethod mX8_shoreUp.1 ∈ lw_tbl ∧ Cond.selects mX8_shoreUp.1.cls mX8_shoreUp.1 mX8_shoreUp.1 ∈ lw_tbl := ⟨by decide, rfl, tq_sg4 _ (List.mem_of_getElem? (i := 60) rfl), List.mem_append_left _ (List.mem_map.mpr ⟨_, List.mem_of_getElem? (i := 24) rfl, rfl⟩)⟩
theorem moX8_strike : tq_mok mX8_strike 2 := ⟨tq_sg1 _ (List.mem_of_getElem? (i := 8) rfl), tq_sg4 _ (List.mem_of_getElem? (i := 70) rfl), ⟨by decide, by decide, by decide +kernel⟩, by decide⟩
theorem mvX8_strike : 8 < 13 ∧ (tq_cl 8).1 = mX8_strike.1.cls ∧ Cond.instanceMethod mX8_strike.1 ∈ lw_tbl ∧ Cond.selects mX8_strike.1.cls mX8_strike.1 mX8_strike.1 ∈ lw_tbl := ⟨by decide, rfl, tq_sg4 _ (List.mem_of_getElem? (i := 69) rfl), List.mem_append_left _ (List.mem_map.mpr ⟨_, List.mem_of_getElem? (i := 25) rfl, rfl⟩)⟩
theorem moX10_firstAt : tq_mok mX10_firstAt 1 := ⟨tq_sg1 _ (List.mem_of_getElem? (i := 4) rfl), tq_sg3 _ (List.mem_of_getElem? (i := 237) rfl), ⟨by decide, by decide, by decide +kernel⟩, by decide⟩
theorem mvX10_firstAt : 10 < 13 ∧ (tq_cl 10).1 = mX10_firstAt.1.cls ∧ Cond.instanceMethod mX10_firstAt.1 ∈ lw_tbl ∧ Cond.selects mX10_firstAt.1.cls mX10_firstAt.1 mX10_firstAt.1 ∈ lw_tbl := ⟨by decide, rfl, tq_sg3 _ (List.mem_of_getElem? (i := 235) rfl), tq_sg3 _ (List.mem_of_getElem? (i := 236) rfl)⟩
theorem moX10_kindAt : tq_mok mX10_kindAt 1 := ⟨tq_sg1 _ (List.mem_of_getElem? (i := 4) rfl), tq_sg3 _ (List.mem_of_getElem? (i := 233) rfl), ⟨by decide, by decide, by decide +kernel⟩, by decide⟩
theorem mvX10_kindAt : 10 < 13 ∧ (tq_cl 10).1 = mX10_kindAt.1.cls ∧ Cond.instanceMethod mX10_kindAt.1 ∈ lw_tbl ∧ Cond.selects mX10_kindAt.1.cls mX10_kindAt.1 mX10_kindAt.1 ∈ lw_tbl := ⟨by decide, rfl, tq_sg3 _ (List.mem_of_getElem? (i := 231) rfl), tq_sg3 _ (List.mem_of_getElem? (i := 232) rfl)⟩
theorem moX10_secondAt : tq_mok mX10_secondAt 1 := ⟨tq_sg1 _ (List.mem_of_getElem? (i := 4) rfl), tq_sg4 _ (List.mem_of_getElem? (i := 1) rfl), ⟨by decide, by decide, by decide +kernel⟩, by decide⟩
theorem mvX10_secondAt : 10 < 13 ∧ (tq_cl 10).1 = mX10_secondAt.1.cls ∧ Cond.instanceMethod mX10_secondAt.1 ∈ lw_tbl ∧ Cond.selects mX10_secondAt.1.cls mX10_secondAt.1 mX10_secondAt.1 ∈ lw_tbl := ⟨by decide, rfl, tq_sg3 _ (List.mem_of_getElem? (i := 239) rfl), tq_sg4 _ (List.mem_of_getElem? (i := 0) rfl)⟩
theorem l_X8_101 : tq_lok RX8 101 mX10_firstAt.1 := Or.inl (tq_sg4 _ (List.mem_of_getElem? (i := 20) rfl))
theorem l_X8_104 : tq_lok RX8 104 mX10_secondAt.1 := Or.inl (tq_sg4 _ (List.mem_of_getElem? (i := 56) rfl))
theorem l_X8_107 : tq_lok RX8 107 mX3_bitAt.1 := Or.inl (tq_sg4 _ (List.mem_of_getElem? (i := 57) rfl))
theorem l_X8_77 : tq_lok RX8 77 mX3_isHeardThrough.1 := Or.inl (tq_sg4 _ (List.mem_of_getElem? (i := 21) rfl))
theorem l_X8_89 : tq_lok RX8 89 mX8_shoreUp.1 := Or.inl (tq_sg4 _ (List.mem_of_getElem? (i := 58) rfl))
theorem l_X8_93 : tq_lok RX8 93 mX8_strike.1 := Or.inl (tq_sg4 _ (List.mem_of_getElem? (i := 67) rfl))
theorem l_X8_98 : tq_lok RX8 98 mX10_kindAt.1 := Or.inl (tq_sg4 _ (List.mem_of_getElem? (i := 19) rfl))
theorem rX8_act_0 : tq_D cX8_act 0 (.aload_n 1) 1 1 := ⟨by decide +kernel, rfl⟩
theorem rX8_act_1 : tq_D cX8_act 1 (.iload_n 2) 1 2 := ⟨by decide +kernel, rfl⟩
theorem rX8_act_2 : tq_D cX8_act 2 (.invokevirtual 98) 3 5 := ⟨by decide +kernel, rfl⟩
theorem rX8_act_5 : tq_D cX8_act 5 (.istore_n 3) 1 6 := ⟨by decide +kernel, rfl⟩
theorem rX8_act_6 : tq_D cX8_act 6 (.iload_n 3) 1 7 := ⟨by decide +kernel, rfl⟩
theorem rX8_act_7 : tq_D cX8_act 7 (.iconst 3) 1 8 := ⟨by decide +kernel, rfl⟩
theorem rX8_act_8 : tq_J cX8_act 8 (.if_icmp .ne) 42 11 := ⟨34, by decide +kernel, by decide, rfl⟩
theorem rX8_act_11 : tq_D cX8_act 11 (.aload_n 0) 1 12 := ⟨by decide +kernel, rfl⟩
theorem rX8_act_12 : tq_D cX8_act 12 (.dup) 1 13 := ⟨by decide +kernel, rfl⟩
theorem rX8_act_13 : tq_D cX8_act 13 (.getfield 34) 3 16 := ⟨by decide +kernel, rfl⟩
theorem rX8_act_16 : tq_D cX8_act 16 (.aload_n 0) 1 17 := ⟨by decide +kernel, rfl⟩
theorem rX8_act_17 : tq_D cX8_act 17 (.getfield 12) 3 20 := ⟨by decide +kernel, rfl⟩
theorem rX8_act_20 : tq_D cX8_act 20 (.aload_n 1) 1 21 := ⟨by decide +kernel, rfl⟩
theorem rX8_act_21 : tq_D cX8_act 21 (.iload_n 2) 1 22 := ⟨by decide +kernel, rfl⟩
theorem rX8_act_22 : tq_D cX8_act 22 (.invokevirtual 101) 3 25 := ⟨by decide +kernel, rfl⟩
theorem rX8_act_25 : tq_D cX8_act 25 (.invokevirtual 77) 3 28 := ⟨by decide +kernel, rfl⟩
theorem rX8_act_28 : tq_J cX8_act 28 (.ifCond .eq) 35 31 := ⟨7, by decide +kernel, by decide, rfl⟩
theorem rX8_act_31 : tq_D cX8_act 31 (.iconst 1) 1 32 := ⟨by decide +kernel, rfl⟩
theorem rX8_act_32 : tq_J cX8_act 32 .goto 36 35 := ⟨4, by decide +kernel, by decide, rfl⟩
theorem rX8_act_35 : tq_D cX8_act 35 (.iconst 0) 1 36 := ⟨by decide +kernel, rfl⟩
theorem rX8_act_36 : tq_D cX8_act 36 (.iadd) 1 37 := ⟨by decide +kernel, rfl⟩
theorem rX8_act_37 : tq_D cX8_act 37 (.putfield 34) 3 40 := ⟨by decide +kernel, rfl⟩
theorem rX8_act_40 : tq_D cX8_act 40 (.iconst 1) 1 41 := ⟨by decide +kernel, rfl⟩
theorem rX8_act_41 : decode cX8_act 41 = .ok (.ireturn, 1) := by decide +kernel
theorem rX8_act_42 : tq_D cX8_act 42 (.aload_n 0) 1 43 := ⟨by decide +kernel, rfl⟩
theorem rX8_act_43 : tq_D cX8_act 43 (.getfield 12) 3 46 := ⟨by decide +kernel, rfl⟩
theorem rX8_act_46 : tq_D cX8_act 46 (.aload_n 1) 1 47 := ⟨by decide +kernel, rfl⟩
theorem rX8_act_47 : tq_D cX8_act 47 (.iload_n 2) 1 48 := ⟨by decide +kernel, rfl⟩
theorem rX8_act_48 : tq_D cX8_act 48 (.invokevirtual 101) 3 51 := ⟨by decide +kernel, rfl⟩
theorem rX8_act_51 : tq_D cX8_act 51 (.aload_n 1) 1 52 := ⟨by decide +kernel, rfl⟩
theorem rX8_act_52 : tq_D cX8_act 52 (.iload_n 2) 1 53 := ⟨by decide +kernel, rfl⟩
theorem rX8_act_53 : tq_D cX8_act 53 (.invokevirtual 104) 3 56 := ⟨by decide +kernel, rfl⟩
theorem rX8_act_56 : tq_D cX8_act 56 (.invokevirtual 107) 3 59 := ⟨by decide +kernel, rfl⟩
theorem rX8_act_59 : tq_D cX8_act 59 (.lstore 4) 2 61 := ⟨by decide +kernel, rfl⟩
theorem rX8_act_61 : tq_D cX8_act 61 (.iload_n 3) 1 62 := ⟨by decide +kernel, rfl⟩
theorem rX8_act_62 : tq_D cX8_act 62 (.iconst 2) 1 63 := ⟨by decide +kernel, rfl⟩
theorem rX8_act_63 : tq_J cX8_act 63 (.if_icmp .ne) 75 66 := ⟨12, by decide +kernel, by decide, rfl⟩
theorem rX8_act_66 : tq_D cX8_act 66 (.aload_n 0) 1 67 := ⟨by decide +kernel, rfl⟩
theorem rX8_act_67 : tq_D cX8_act 67 (.lload 4) 2 69 := ⟨by decide +kernel, rfl⟩
theorem rX8_act_69 : tq_D cX8_act 69 (.invokevirtual 89) 3 72 := ⟨by decide +kernel, rfl⟩
theorem rX8_act_72 : tq_J cX8_act 72 .goto 82 75 := ⟨10, by decide +kernel, by decide, rfl⟩
theorem rX8_act_75 : tq_D cX8_act 75 (.aload_n 0) 1 76 := ⟨by decide +kernel, rfl⟩
theorem rX8_act_76 : tq_D cX8_act 76 (.iload_n 3) 1 77 := ⟨by decide +kernel, rfl⟩
theorem rX8_act_77 : tq_D cX8_act 77 (.lload 4) 2 79 := ⟨by decide +kernel, rfl⟩
theorem rX8_act_79 : tq_D cX8_act 79 (.invokevirtual 93) 3 82 := ⟨by decide +kernel, rfl⟩
theorem rX8_act_82 : decode cX8_act 82 = .ok (.ireturn, 1) := by decide +kernel
noncomputable def FX8_act_j36 (I : tq_PI) (L : tq_PL) (b0 : Int32) (b1 : Int32) (b2 : Nat) : Option (Bool × tq_PI × tq_PL) :=
  some (true, (tq_up2 I b2 6 (b1 + b0)), L)
noncomputable def FX8_act (I : tq_PI) (L : tq_PL) (a0 : Nat) (a1 : Nat) (a2 : Int32) : Option (Bool × tq_PI × tq_PL) :=
  ((FX10_kindAt I L a1 a2).bind fun p1 => (if p1 = (3 : Int32) then ((FX10_firstAt I L a1 a2).bind fun p9 => ((FX3_isHeardThrough I L ((tq_rg a0 0)) p9).bind fun p10 => (if (tq_b p10) = 0 then (FX8_act_j36 I L ((0 : Int32)) ((I a0 6)) a0) else (FX8_act_j36 I L ((1 : Int32)) ((I a0 6)) a0)))) else ((FX10_firstAt I L a1 a2).bind fun p3 => ((FX10_secondAt I L a1 a2).bind fun p4 => (tq_let (FX3_bitAt I L ((tq_rg a0 0)) p3 p4) fun p5 => (if p1 = (2 : Int32) then (tq_let (FX8_shoreUp I L a0 p5) fun p8 => some (p8.1, I, p8.2)) else ((FX8_strike I L a0 p1 p5).bind fun p7 => some (p7.1, p7.2.1, p7.2.2))))))))
set_option maxRecDepth 100000 in
set_option maxHeartbeats 4000000 in
theorem FX8_act_j36_x {S : Nat × (Nat → Int32)} {d : Nat} {I : tq_PI} {L : tq_PL} {b0 : Int32} {b1 : Int32} {b2 : Nat} (k2 : tq_sh0 b2 = 8) {q0 : Option Value → tq_PI → tq_PL → Prop} {out : Bool × tq_PI × tq_PL} (hf : FX8_act_j36 I L b0 b1 b2 = some out) (hk : q0 (some (.int (tq_b out.1))) out.2.1 out.2.2) : tq_X S mX8_act (d + 5) tq_k0 36 ([tq_u, tq_u, tq_u, tq_u, tq_u, tq_u]) ([.int b0, .int b1, .ref b2]) (tq_st I L) (tq_Q q0) := by
  unfold FX8_act_j36 at hf
  refine tq_iadd rX8_act_36 ?_
  refine ty_putI rX8_act_37 f_X8_34 rfl k2 rfl ?_
  refine tq_iconst (1 : Int32) rX8_act_40 (by decide) ?_
  refine ty_zret (ty := .boolean) rX8_act_41 rfl rfl rfl ?_
  have hf := Option.some.inj hf
  subst hf
  exact hk

set_option maxRecDepth 100000 in
set_option maxHeartbeats 4000000 in
theorem CX8_act {S : Nat × (Nat → Int32)} {d : Nat} {I : tq_PI} {L : tq_PL} {a0 : Nat} {a1 : Nat} {a2 : Int32} (h0 : tq_sh0 a0 = 8) (h1 : tq_sh0 a1 = 10) {out : Bool × tq_PI × tq_PL} (hf : FX8_act I L a0 a1 a2 = some out) : tq_K S mX8_act (d + 5) [.ref a0, .ref a1, .int a2] I L (tq_one2 (some (.int (tq_b out.1))) out.2.1 out.2.2) := by
  unfold FX8_act at hf
  refine tq_K_of (by decide) (Nat.le_of_ble_eq_true rfl) (ls := [.ref a0, .ref a1, .int a2, tq_u, tq_u, tq_u]) rfl ?_
  refine tq_aload_n rX8_act_0 rfl ?_
  refine tq_iload_n rX8_act_1 rfl ?_
  obtain ⟨p1, e1, hf⟩ := Option.bind_eq_some_iff.mp hf
  refine ty_callVI p1 ([.int a2]) ([]) rX8_act_2 l_X8_98 moX10_kindAt mvX10_kindAt h1 rfl rfl (Nat.le_of_ble_eq_true rfl) ⟨rfl, rfl⟩ (CX10_kindAt h1 e1) ?_
  refine tq_istore_n ([.ref a0, .ref a1, .int a2, .int p1, tq_u, tq_u]) rX8_act_5 (Nat.le_of_ble_eq_true rfl) rfl ?_
  refine tq_iload_n rX8_act_6 rfl ?_
  refine tq_iconst (3 : Int32) rX8_act_7 (by decide) ?_
  refine tq_icmp_ne rX8_act_8 (fun c2 => ?_) (fun c2 => ?_)
  · rw [if_neg c2] at hf
    refine tq_aload_n rX8_act_42 rfl ?_
    refine ty_getR rX8_act_43 f_X8_12 rfl h0 (hp_8_0 h0).1 ?_
    refine tq_aload_n rX8_act_46 rfl ?_
    refine tq_iload_n rX8_act_47 rfl ?_
    obtain ⟨p3, e3, hf⟩ := Option.bind_eq_some_iff.mp hf
    refine ty_callVI p3 ([.int a2]) ([.ref (tq_rg a0 0)]) rX8_act_48 l_X8_101 moX10_firstAt mvX10_firstAt h1 rfl rfl (Nat.le_of_ble_eq_true rfl) ⟨rfl, rfl⟩ (CX10_firstAt h1 e3) ?_
    refine tq_aload_n rX8_act_51 rfl ?_
    refine tq_iload_n rX8_act_52 rfl ?_
    obtain ⟨p4, e4, hf⟩ := Option.bind_eq_some_iff.mp hf
    refine ty_callVI p4 ([.int a2]) ([.int p3, .ref (tq_rg a0 0)]) rX8_act_53 l_X8_104 moX10_secondAt mvX10_secondAt h1 rfl rfl (Nat.le_of_ble_eq_true rfl) ⟨rfl, rfl⟩ (CX10_secondAt h1 e4) ?_
    obtain ⟨p5, e5, hf⟩ := tq_let_elim hf
    refine ty_callVJ p5 ([.int p3, .int p4]) ([]) rX8_act_56 l_X8_107 moX3_bitAt mvX3_bitAt (hp_8_0 h0).2.1 rfl rfl (Nat.le_of_ble_eq_true rfl) ⟨rfl, rfl⟩ (CX3_bitAt (hp_8_0 h0).2.1 e5) ?_
    refine tq_lstore ([.ref a0, .ref a1, .int a2, .int p1, .long p5, tq_u]) rX8_act_59 (Nat.le_of_ble_eq_true rfl) rfl ?_
    refine tq_iload_n rX8_act_61 rfl ?_
    refine tq_iconst (2 : Int32) rX8_act_62 (by decide) ?_
    refine tq_icmp_ne rX8_act_63 (fun c6 => ?_) (fun c6 => ?_)
    · rw [if_neg c6] at hf
      refine tq_aload_n rX8_act_75 rfl ?_
      refine tq_iload_n rX8_act_76 rfl ?_
      refine tq_lload rX8_act_77 rfl ?_
      obtain ⟨p7, e7, hf⟩ := Option.bind_eq_some_iff.mp hf
      refine ty_callVI (tq_b p7.1) ([.int p1, .long p5]) ([]) rX8_act_79 l_X8_93 moX8_strike mvX8_strike h0 rfl rfl (Nat.le_of_ble_eq_true rfl) ⟨rfl, rfl⟩ (CX8_strike h0 e7) ?_
      refine ty_zret (ty := .boolean) rX8_act_82 rfl (tq_fitZ (tq_b01 _)).1 rfl ?_
      have hf := Option.some.inj hf
      subst hf
      exact ⟨rfl, rfl, rfl⟩
    · rw [if_pos c6] at hf
      refine tq_aload_n rX8_act_66 rfl ?_
      refine tq_lload rX8_act_67 rfl ?_
      obtain ⟨p8, e8, hf⟩ := tq_let_elim hf
      refine ty_callVI (tq_b p8.1) ([.long p5]) ([]) rX8_act_69 l_X8_89 moX8_shoreUp mvX8_shoreUp h0 rfl rfl (Nat.le_of_ble_eq_true rfl) ⟨rfl, rfl⟩ (CX8_shoreUp h0 e8) ?_
      refine tq_goto rX8_act_72 ?_
      refine ty_zret (ty := .boolean) rX8_act_82 rfl (tq_fitZ (tq_b01 _)).1 rfl ?_
      have hf := Option.some.inj hf
      subst hf
      exact ⟨rfl, rfl, rfl⟩
  · rw [if_pos c2] at hf
    refine tq_aload_n rX8_act_11 rfl ?_
    refine tq_dup rX8_act_12 rfl ?_
    refine ty_getI rX8_act_13 f_X8_34 rfl h0 ?_
    refine tq_aload_n rX8_act_16 rfl ?_
    refine ty_getR rX8_act_17 f_X8_12 rfl h0 (hp_8_0 h0).1 ?_
    refine tq_aload_n rX8_act_20 rfl ?_
    refine tq_iload_n rX8_act_21 rfl ?_
    obtain ⟨p9, e9, hf⟩ := Option.bind_eq_some_iff.mp hf
    refine ty_callVI p9 ([.int a2]) ([.ref (tq_rg a0 0), .int (I a0 6), .ref a0]) rX8_act_22 l_X8_101 moX10_firstAt mvX10_firstAt h1 rfl rfl (Nat.le_of_ble_eq_true rfl) ⟨rfl, rfl⟩ (CX10_firstAt h1 e9) ?_
    obtain ⟨p10, e10, hf⟩ := Option.bind_eq_some_iff.mp hf
    refine ty_callVI (tq_b p10) ([.int p9]) ([.int (I a0 6), .ref a0]) rX8_act_25 l_X8_77 moX3_isHeardThrough mvX3_isHeardThrough (hp_8_0 h0).2.1 rfl rfl (Nat.le_of_ble_eq_true rfl) ⟨rfl, rfl⟩ (CX3_isHeardThrough (hp_8_0 h0).2.1 e10) ?_
    refine tq_if_eq rX8_act_28 (fun c11 => ?_) (fun c11 => ?_)
    · rw [if_pos c11] at hf
      refine tq_iconst (0 : Int32) rX8_act_35 (by decide) ?_
      exact tq_forget _ (tq_le_u (tq_le_u (tq_le_u (tq_le_u (tq_le_u (tq_le_u tq_le_n)))))) (FX8_act_j36_x  h0 hf ⟨rfl, rfl, rfl⟩)
    · rw [if_neg c11] at hf
      refine tq_iconst (1 : Int32) rX8_act_31 (by decide) ?_
      refine tq_goto rX8_act_32 ?_
      exact tq_forget _ (tq_le_u (tq_le_u (tq_le_u (tq_le_u (tq_le_u (tq_le_u tq_le_n)))))) (FX8_act_j36_x  h0 hf ⟨rfl, rfl, rfl⟩)

abbrev mX8_replay : tq_M := (yX8_replay, cX8_replay, 5, (Option.some Jvm.ClassFile.FieldType.int), 0, 0)
theorem moX8_act : tq_mok mX8_act 2 := ⟨tq_sg1 _ (List.mem_of_getElem? (i := 8) rfl), tq_sg4 _ (List.mem_of_getElem? (i := 18) rfl), ⟨by decide, by decide, by decide +kernel⟩, by decide⟩
theorem mvX8_act : 8 < 13 ∧ (tq_cl 8).1 = mX8_act.1.cls ∧ Cond.instanceMethod mX8_act.1 ∈ lw_tbl ∧ Cond.selects mX8_act.1.cls mX8_act.1 mX8_act.1 ∈ lw_tbl := ⟨by decide, rfl, tq_sg4 _ (List.mem_of_getElem? (i := 17) rfl), List.mem_append_left _ (List.mem_map.mpr ⟨_, List.mem_of_getElem? (i := 21) rfl, rfl⟩)⟩
theorem moX8_open : tq_mok mX8_open 1 := ⟨tq_sg1 _ (List.mem_of_getElem? (i := 8) rfl), tq_sg4 _ (List.mem_of_getElem? (i := 13) rfl), ⟨by decide, by decide, by decide +kernel⟩, by decide⟩
theorem mvX8_open : 8 < 13 ∧ (tq_cl 8).1 = mX8_open.1.cls ∧ Cond.instanceMethod mX8_open.1 ∈ lw_tbl ∧ Cond.selects mX8_open.1.cls mX8_open.1 mX8_open.1 ∈ lw_tbl := ⟨by decide, rfl, tq_sg4 _ (List.mem_of_getElem? (i := 12) rfl), List.mem_append_left _ (List.mem_map.mpr ⟨_, List.mem_of_getElem? (i := 20) rfl, rfl⟩)⟩
theorem l_X8_53 : tq_lok RX8 53 mX8_open.1 := Or.inl (tq_sg4 _ (List.mem_of_getElem? (i := 10) rfl))
theorem l_X8_56 : tq_lok RX8 56 mX8_act.1 := Or.inl (tq_sg4 _ (List.mem_of_getElem? (i := 15) rfl))
theorem rX8_replay_0 : tq_D cX8_replay 0 (.aload_n 0) 1 1 := ⟨by decide +kernel, rfl⟩
theorem rX8_replay_1 : tq_D cX8_replay 1 (.aload_n 1) 1 2 := ⟨by decide +kernel, rfl⟩
theorem rX8_replay_2 : tq_D cX8_replay 2 (.invokevirtual 53) 3 5 := ⟨by decide +kernel, rfl⟩
theorem rX8_replay_5 : tq_D cX8_replay 5 (.iconst 0) 1 6 := ⟨by decide +kernel, rfl⟩
theorem rX8_replay_6 : tq_D cX8_replay 6 (.istore 4) 2 8 := ⟨by decide +kernel, rfl⟩
theorem rX8_replay_8 : tq_D cX8_replay 8 (.iload 4) 2 10 := ⟨by decide +kernel, rfl⟩
theorem rX8_replay_10 : tq_D cX8_replay 10 (.iload_n 3) 1 11 := ⟨by decide +kernel, rfl⟩
theorem rX8_replay_11 : tq_J cX8_replay 11 (.if_icmp .ge) 33 14 := ⟨22, by decide +kernel, by decide, rfl⟩
theorem rX8_replay_14 : tq_D cX8_replay 14 (.aload_n 0) 1 15 := ⟨by decide +kernel, rfl⟩
theorem rX8_replay_15 : tq_D cX8_replay 15 (.aload_n 2) 1 16 := ⟨by decide +kernel, rfl⟩
theorem rX8_replay_16 : tq_D cX8_replay 16 (.iload 4) 2 18 := ⟨by decide +kernel, rfl⟩
theorem rX8_replay_18 : tq_D cX8_replay 18 (.invokevirtual 56) 3 21 := ⟨by decide +kernel, rfl⟩
theorem rX8_replay_21 : tq_J cX8_replay 21 (.ifCond .ne) 27 24 := ⟨6, by decide +kernel, by decide, rfl⟩
theorem rX8_replay_24 : tq_D cX8_replay 24 (.iload 4) 2 26 := ⟨by decide +kernel, rfl⟩
theorem rX8_replay_26 : decode cX8_replay 26 = .ok (.ireturn, 1) := by decide +kernel
theorem rX8_replay_27 : tq_D cX8_replay 27 (.iinc 4 1) 3 30 := ⟨by decide +kernel, rfl⟩
theorem rX8_replay_30 : tq_J cX8_replay 30 .goto 8 33 := ⟨(-22), by decide +kernel, by decide, rfl⟩
theorem rX8_replay_33 : tq_D cX8_replay 33 (.iload_n 3) 1 34 := ⟨by decide +kernel, rfl⟩
theorem rX8_replay_34 : decode cX8_replay 34 = .ok (.ireturn, 1) := by decide +kernel
noncomputable def FX8_replay_s8 (I : tq_PI) (L : tq_PL) (a0 : Nat) (a2 : Nat) (a3 : Int32) (a4 : Int32) : Option ((Int32 × tq_PI × tq_PL) ⊕ ((tq_PI × tq_PL) ⊕ (Int32 × tq_PI × tq_PL))) :=
  (if a3 ≤ a4 then some (.inr (.inl (I, L))) else ((FX8_act I L a0 a2 a4).bind fun p3 => (if (tq_b p3.1) = 0 then some (.inr (.inr (a4, p3.2.1, p3.2.2))) else some (.inl ((a4 + 1), p3.2.1, p3.2.2)))))
noncomputable def FX8_replay (I : tq_PI) (L : tq_PL) (a0 : Nat) (a1 : Nat) (a2 : Nat) (a3 : Int32) : Option (Int32 × tq_PI × tq_PL) :=
  (tq_let (FX8_open I L a0 a1) fun p1 => ((tq_it (fun p : Int32 × tq_PI × tq_PL => FX8_replay_s8 p.2.1 p.2.2 a0 a2 a3 p.1) tq_N ((0 : Int32), p1.1, p1.2)).bind fun p5 => p5.elim (fun t6 => some (a3, t6.1, t6.2)) (fun t6 => some t6)))
set_option maxRecDepth 100000 in
set_option maxHeartbeats 4000000 in
theorem FX8_replay_s8_x {S : Nat × (Nat → Int32)} {d : Nat} {I : tq_PI} {L : tq_PL} {a0 : Nat} {a2 : Nat} {a3 : Int32} {a4 : Int32} (h0 : tq_sh0 a0 = 8) (h2 : tq_sh0 a2 = 10) {q0 : Option Value → tq_PI → tq_PL → Prop} {out : (Int32 × tq_PI × tq_PL) ⊕ ((tq_PI × tq_PL) ⊕ (Int32 × tq_PI × tq_PL))} (hf : FX8_replay_s8 I L a0 a2 a3 a4 = some out) (hk : Sum.elim (fun p : Int32 × tq_PI × tq_PL => tq_X S mX8_replay (d + 6) tq_k0 8 ([.ref a0, tq_u, .ref a2, .int a3, .int p.1]) [] (tq_st p.2.1 p.2.2) (tq_Q q0)) (Sum.elim (fun p : tq_PI × tq_PL => tq_X S mX8_replay (d + 6) tq_k0 33 ([tq_u, tq_u, tq_u, .int a3, tq_u]) [] (tq_st p.1 p.2) (tq_Q q0)) (fun p : Int32 × tq_PI × tq_PL => q0 (some (.int p.1)) p.2.1 p.2.2)) out) : tq_X S mX8_replay (d + 6) tq_k0 8 ([.ref a0, tq_u, .ref a2, .int a3, .int a4]) [] (tq_st I L) (tq_Q q0) := by
  unfold FX8_replay_s8 at hf
  refine tq_iload rX8_replay_8 rfl ?_
  refine tq_iload_n rX8_replay_10 rfl ?_
  refine tq_icmp_ge rX8_replay_11 (fun c2 => ?_) (fun c2 => ?_)
  · rw [if_pos c2] at hf
    have hf := Option.some.inj hf
    subst hf
    exact tq_forget _ (tq_le_u (tq_le_u (tq_le_u (tq_le_s (tq_le_u tq_le_n))))) hk
  · rw [if_neg c2] at hf
    refine tq_aload_n rX8_replay_14 rfl ?_
    refine tq_aload_n rX8_replay_15 rfl ?_
    refine tq_iload rX8_replay_16 rfl ?_
    obtain ⟨p3, e3, hf⟩ := Option.bind_eq_some_iff.mp hf
    refine ty_callVI (tq_b p3.1) ([.ref a2, .int a4]) ([]) rX8_replay_18 l_X8_56 moX8_act mvX8_act h0 rfl rfl (Nat.le_of_ble_eq_true rfl) ⟨rfl, rfl⟩ (CX8_act h0 h2 e3) ?_
    refine tq_if_ne rX8_replay_21 (fun c4 => ?_) (fun c4 => ?_)
    · rw [if_neg c4] at hf
      refine tq_iinc (a4 + 1) ([.ref a0, tq_u, .ref a2, .int a3, .int (a4 + 1)]) rX8_replay_27 rfl (tq_inc (by decide)) (Nat.le_of_ble_eq_true rfl) rfl ?_
      refine tq_goto rX8_replay_30 ?_
      have hf := Option.some.inj hf
      subst hf
      exact tq_forget _ (tq_le_s (tq_le_u (tq_le_s (tq_le_s (tq_le_s tq_le_n))))) hk
    · rw [if_pos c4] at hf
      refine tq_iload rX8_replay_24 rfl ?_
      refine ty_iret rX8_replay_26 rfl rfl ?_
      have hf := Option.some.inj hf
      subst hf
      exact hk

set_option maxRecDepth 100000 in
set_option maxHeartbeats 4000000 in
theorem CX8_replay {S : Nat × (Nat → Int32)} {d : Nat} {I : tq_PI} {L : tq_PL} {a0 : Nat} {a1 : Nat} {a2 : Nat} {a3 : Int32} (h0 : tq_sh0 a0 = 8) (h1 : tq_sh0 a1 = 3) (h2 : tq_sh0 a2 = 10) {out : Int32 × tq_PI × tq_PL} (hf : FX8_replay I L a0 a1 a2 a3 = some out) : tq_K S mX8_replay (d + 6) [.ref a0, .ref a1, .ref a2, .int a3] I L (tq_one2 (some (.int out.1)) out.2.1 out.2.2) := by
  unfold FX8_replay at hf
  refine tq_K_of (by decide) (Nat.le_of_ble_eq_true rfl) (ls := [.ref a0, .ref a1, .ref a2, .int a3, tq_u]) rfl ?_
  refine tq_aload_n rX8_replay_0 rfl ?_
  refine tq_aload_n rX8_replay_1 rfl ?_
  obtain ⟨p1, e1, hf⟩ := tq_let_elim hf
  refine ty_callVV ([.ref a1]) ([]) rX8_replay_2 l_X8_53 moX8_open mvX8_open h0 rfl rfl (Nat.le_of_ble_eq_true rfl) ⟨rfl, rfl⟩ (CX8_open h0 h1 e1) ?_
  refine tq_iconst (0 : Int32) rX8_replay_5 (by decide) ?_
  refine tq_istore ([.ref a0, .ref a1, .ref a2, .int a3, .int (0 : Int32)]) rX8_replay_6 (Nat.le_of_ble_eq_true rfl) rfl ?_
  obtain ⟨p5, e5, hf⟩ := Option.bind_eq_some_iff.mp hf
  refine tq_forget _ (tq_le_s (tq_le_u (tq_le_s (tq_le_s (tq_le_s tq_le_n))))) ?_
  refine tq_it_elim (P := fun p : Int32 × tq_PI × tq_PL => tq_X S mX8_replay (d + 6) tq_k0 8 ([.ref a0, tq_u, .ref a2, .int a3, .int p.1]) [] (tq_st p.2.1 p.2.2) (tq_Q (tq_one2 (some (.int out.1)) out.2.1 out.2.2))) (R := Sum.elim (fun p : tq_PI × tq_PL => tq_X S mX8_replay (d + 6) tq_k0 33 ([tq_u, tq_u, tq_u, .int a3, tq_u]) [] (tq_st p.1 p.2) (tq_Q (tq_one2 (some (.int out.1)) out.2.1 out.2.2))) (fun p : Int32 × tq_PI × tq_PL => (tq_one2 (some (.int out.1)) out.2.1 out.2.2) (some (.int p.1)) p.2.1 p.2.2)) (fun p o hp hk => FX8_replay_s8_x  h0 h2 hp hk) _ (((0 : Int32), p1.1, p1.2)) _ e5 ?_
  rcases tq_selim hf with ⟨t6, t6q, hf⟩ | ⟨t6, t6q, hf⟩
  · rw [t6q]
    show tq_X _ _ _ _ _ _ _ _ _
    refine tq_iload_n rX8_replay_33 rfl ?_
    refine ty_iret rX8_replay_34 rfl rfl ?_
    have hf := Option.some.inj hf
    subst hf
    exact ⟨rfl, rfl, rfl⟩
  · rw [t6q]
    have hf := Option.some.inj hf
    subst hf
    exact ⟨rfl, rfl, rfl⟩

abbrev mX8_review : tq_M := (yX8_review, cX8_review, 5, (Option.none : Option Jvm.ClassFile.FieldType), 0, 0)
theorem moX3_isThrough : tq_mok mX3_isThrough 0 := ⟨tq_sg1 _ (List.mem_of_getElem? (i := 3) rfl), tq_sg5 _ (List.mem_of_getElem? (i := 220) rfl), ⟨by decide, by decide, by decide +kernel⟩, by decide⟩
theorem mvX3_isThrough : 3 < 13 ∧ (tq_cl 3).1 = mX3_isThrough.1.cls ∧ Cond.instanceMethod mX3_isThrough.1 ∈ lw_tbl ∧ Cond.selects mX3_isThrough.1.cls mX3_isThrough.1 mX3_isThrough.1 ∈ lw_tbl := ⟨by decide, rfl, tq_sg5 _ (List.mem_of_getElem? (i := 218) rfl), tq_sg5 _ (List.mem_of_getElem? (i := 219) rfl)⟩
theorem f_X8_37 : tq_fok RX8 37 8 7 := ⟨by decide, by decide, Or.inl (tq_sg2 _ (List.mem_of_getElem? (i := 8) rfl))⟩
theorem f_X8_40 : tq_fok RX8 40 8 8 := ⟨by decide, by decide, Or.inl (tq_sg2 _ (List.mem_of_getElem? (i := 10) rfl))⟩
theorem f_X8_43 : tq_fok RX8 43 8 9 := ⟨by decide, by decide, Or.inl (tq_sg2 _ (List.mem_of_getElem? (i := 12) rfl))⟩
theorem f_X8_64 : tq_fok RX8 64 10 0 := ⟨by decide, by decide, Or.inr ⟨_, tq_sg1 _ (List.mem_of_getElem? (i := 92) rfl)⟩⟩
theorem l_X8_60 : tq_lok RX8 60 mX3_isThrough.1 := Or.inl (tq_sg5 _ (List.mem_of_getElem? (i := 217) rfl))
theorem rX8_review_0 : tq_D cX8_review 0 (.aload_n 0) 1 1 := ⟨by decide +kernel, rfl⟩
theorem rX8_review_1 : tq_D cX8_review 1 (.aload_n 1) 1 2 := ⟨by decide +kernel, rfl⟩
theorem rX8_review_2 : tq_D cX8_review 2 (.invokevirtual 53) 3 5 := ⟨by decide +kernel, rfl⟩
theorem rX8_review_5 : tq_D cX8_review 5 (.aload_n 0) 1 6 := ⟨by decide +kernel, rfl⟩
theorem rX8_review_6 : tq_D cX8_review 6 (.aload_n 0) 1 7 := ⟨by decide +kernel, rfl⟩
theorem rX8_review_7 : tq_D cX8_review 7 (.getfield 12) 3 10 := ⟨by decide +kernel, rfl⟩
theorem rX8_review_10 : tq_D cX8_review 10 (.invokevirtual 60) 3 13 := ⟨by decide +kernel, rfl⟩
theorem rX8_review_13 : tq_J cX8_review 13 (.ifCond .eq) 20 16 := ⟨7, by decide +kernel, by decide, rfl⟩
theorem rX8_review_16 : tq_D cX8_review 16 (.iconst 0) 1 17 := ⟨by decide +kernel, rfl⟩
theorem rX8_review_17 : tq_J cX8_review 17 .goto 21 20 := ⟨4, by decide +kernel, by decide, rfl⟩
theorem rX8_review_20 : tq_D cX8_review 20 (.iconst (-1)) 1 21 := ⟨by decide +kernel, rfl⟩
theorem rX8_review_21 : tq_D cX8_review 21 (.putfield 37) 3 24 := ⟨by decide +kernel, rfl⟩
theorem rX8_review_24 : tq_D cX8_review 24 (.aload_n 0) 1 25 := ⟨by decide +kernel, rfl⟩
theorem rX8_review_25 : tq_D cX8_review 25 (.iconst (-1)) 1 26 := ⟨by decide +kernel, rfl⟩
theorem rX8_review_26 : tq_D cX8_review 26 (.putfield 40) 3 29 := ⟨by decide +kernel, rfl⟩
theorem rX8_review_29 : tq_D cX8_review 29 (.aload_n 0) 1 30 := ⟨by decide +kernel, rfl⟩
theorem rX8_review_30 : tq_D cX8_review 30 (.iconst 0) 1 31 := ⟨by decide +kernel, rfl⟩
theorem rX8_review_31 : tq_D cX8_review 31 (.putfield 43) 3 34 := ⟨by decide +kernel, rfl⟩
theorem rX8_review_34 : tq_D cX8_review 34 (.iconst 0) 1 35 := ⟨by decide +kernel, rfl⟩
theorem rX8_review_35 : tq_D cX8_review 35 (.istore_n 3) 1 36 := ⟨by decide +kernel, rfl⟩
theorem rX8_review_36 : tq_D cX8_review 36 (.iload_n 3) 1 37 := ⟨by decide +kernel, rfl⟩
theorem rX8_review_37 : tq_D cX8_review 37 (.aload_n 2) 1 38 := ⟨by decide +kernel, rfl⟩
theorem rX8_review_38 : tq_D cX8_review 38 (.getfield 64) 3 41 := ⟨by decide +kernel, rfl⟩
theorem rX8_review_41 : tq_J cX8_review 41 (.if_icmp .ge) 121 44 := ⟨80, by decide +kernel, by decide, rfl⟩
theorem rX8_review_44 : tq_D cX8_review 44 (.aload_n 0) 1 45 := ⟨by decide +kernel, rfl⟩
theorem rX8_review_45 : tq_D cX8_review 45 (.getfield 31) 3 48 := ⟨by decide +kernel, rfl⟩
theorem rX8_review_48 : tq_D cX8_review 48 (.istore 4) 2 50 := ⟨by decide +kernel, rfl⟩
theorem rX8_review_50 : tq_D cX8_review 50 (.aload_n 0) 1 51 := ⟨by decide +kernel, rfl⟩
theorem rX8_review_51 : tq_D cX8_review 51 (.aload_n 2) 1 52 := ⟨by decide +kernel, rfl⟩
theorem rX8_review_52 : tq_D cX8_review 52 (.iload_n 3) 1 53 := ⟨by decide +kernel, rfl⟩
theorem rX8_review_53 : tq_D cX8_review 53 (.invokevirtual 56) 3 56 := ⟨by decide +kernel, rfl⟩
theorem rX8_review_56 : tq_J cX8_review 56 (.ifCond .ne) 60 59 := ⟨4, by decide +kernel, by decide, rfl⟩
theorem rX8_review_59 : decode cX8_review 59 = .ok (.return_, 1) := by decide +kernel
theorem rX8_review_60 : tq_D cX8_review 60 (.aload_n 0) 1 61 := ⟨by decide +kernel, rfl⟩
theorem rX8_review_61 : tq_D cX8_review 61 (.getfield 37) 3 64 := ⟨by decide +kernel, rfl⟩
theorem rX8_review_64 : tq_D cX8_review 64 (.iconst (-1)) 1 65 := ⟨by decide +kernel, rfl⟩
theorem rX8_review_65 : tq_J cX8_review 65 (.if_icmp .ne) 85 68 := ⟨20, by decide +kernel, by decide, rfl⟩
theorem rX8_review_68 : tq_D cX8_review 68 (.aload_n 0) 1 69 := ⟨by decide +kernel, rfl⟩
theorem rX8_review_69 : tq_D cX8_review 69 (.getfield 12) 3 72 := ⟨by decide +kernel, rfl⟩
theorem rX8_review_72 : tq_D cX8_review 72 (.invokevirtual 60) 3 75 := ⟨by decide +kernel, rfl⟩
theorem rX8_review_75 : tq_J cX8_review 75 (.ifCond .eq) 85 78 := ⟨10, by decide +kernel, by decide, rfl⟩
theorem rX8_review_78 : tq_D cX8_review 78 (.aload_n 0) 1 79 := ⟨by decide +kernel, rfl⟩
theorem rX8_review_79 : tq_D cX8_review 79 (.iload_n 3) 1 80 := ⟨by decide +kernel, rfl⟩
theorem rX8_review_80 : tq_D cX8_review 80 (.iconst 1) 1 81 := ⟨by decide +kernel, rfl⟩
theorem rX8_review_81 : tq_D cX8_review 81 (.iadd) 1 82 := ⟨by decide +kernel, rfl⟩
theorem rX8_review_82 : tq_D cX8_review 82 (.putfield 37) 3 85 := ⟨by decide +kernel, rfl⟩
theorem rX8_review_85 : tq_D cX8_review 85 (.aload_n 0) 1 86 := ⟨by decide +kernel, rfl⟩
theorem rX8_review_86 : tq_D cX8_review 86 (.getfield 31) 3 89 := ⟨by decide +kernel, rfl⟩
theorem rX8_review_89 : tq_D cX8_review 89 (.iload 4) 2 91 := ⟨by decide +kernel, rfl⟩
theorem rX8_review_91 : tq_D cX8_review 91 (.isub) 1 92 := ⟨by decide +kernel, rfl⟩
theorem rX8_review_92 : tq_D cX8_review 92 (.aload_n 0) 1 93 := ⟨by decide +kernel, rfl⟩
theorem rX8_review_93 : tq_D cX8_review 93 (.getfield 43) 3 96 := ⟨by decide +kernel, rfl⟩
theorem rX8_review_96 : tq_J cX8_review 96 (.if_icmp .le) 115 99 := ⟨19, by decide +kernel, by decide, rfl⟩
theorem rX8_review_99 : tq_D cX8_review 99 (.aload_n 0) 1 100 := ⟨by decide +kernel, rfl⟩
theorem rX8_review_100 : tq_D cX8_review 100 (.aload_n 0) 1 101 := ⟨by decide +kernel, rfl⟩
theorem rX8_review_101 : tq_D cX8_review 101 (.getfield 31) 3 104 := ⟨by decide +kernel, rfl⟩
theorem rX8_review_104 : tq_D cX8_review 104 (.iload 4) 2 106 := ⟨by decide +kernel, rfl⟩
theorem rX8_review_106 : tq_D cX8_review 106 (.isub) 1 107 := ⟨by decide +kernel, rfl⟩
theorem rX8_review_107 : tq_D cX8_review 107 (.putfield 43) 3 110 := ⟨by decide +kernel, rfl⟩
theorem rX8_review_110 : tq_D cX8_review 110 (.aload_n 0) 1 111 := ⟨by decide +kernel, rfl⟩
theorem rX8_review_111 : tq_D cX8_review 111 (.iload_n 3) 1 112 := ⟨by decide +kernel, rfl⟩
theorem rX8_review_112 : tq_D cX8_review 112 (.putfield 40) 3 115 := ⟨by decide +kernel, rfl⟩
theorem rX8_review_115 : tq_D cX8_review 115 (.iinc 3 1) 3 118 := ⟨by decide +kernel, rfl⟩
theorem rX8_review_118 : tq_J cX8_review 118 .goto 36 121 := ⟨(-82), by decide +kernel, by decide, rfl⟩
theorem rX8_review_121 : decode cX8_review 121 = .ok (.return_, 1) := by decide +kernel
noncomputable def FX8_review_j115L36 (I : tq_PI) (L : tq_PL) (a0 : Nat) (a2 : Nat) (a3 : Int32) : Option ((Int32 × tq_PI × tq_PL) ⊕ ((tq_PI × tq_PL) ⊕ (tq_PI × tq_PL))) :=
  some (.inl ((a3 + 1), I, L))
noncomputable def FX8_review_j85L36 (I : tq_PI) (L : tq_PL) (a0 : Nat) (a2 : Nat) (a3 : Int32) (a4 : Int32) : Option ((Int32 × tq_PI × tq_PL) ⊕ ((tq_PI × tq_PL) ⊕ (tq_PI × tq_PL))) :=
  (if ((I a0 5) - a4) ≤ (I a0 9) then (FX8_review_j115L36 I L a0 a2 a3) else (FX8_review_j115L36 ((tq_up2 (tq_up2 I a0 9 ((I a0 5) - a4)) a0 8 a3)) L a0 a2 a3))
noncomputable def FX8_review_s36 (I : tq_PI) (L : tq_PL) (a0 : Nat) (a2 : Nat) (a3 : Int32) : Option ((Int32 × tq_PI × tq_PL) ⊕ ((tq_PI × tq_PL) ⊕ (tq_PI × tq_PL))) :=
  (if (I a2 0) ≤ a3 then some (.inr (.inl (I, L))) else ((FX8_act I L a0 a2 a3).bind fun p5 => (if (tq_b p5.1) = 0 then some (.inr (.inr (p5.2.1, p5.2.2))) else (if (p5.2.1 a0 7) = (-1 : Int32) then ((FX3_isThrough p5.2.1 p5.2.2 ((tq_rg a0 0))).bind fun p9 => (if (tq_b p9) = 0 then (FX8_review_j85L36 p5.2.1 p5.2.2 a0 a2 a3 ((I a0 5))) else (FX8_review_j85L36 ((tq_up2 p5.2.1 a0 7 (a3 + (1 : Int32)))) p5.2.2 a0 a2 a3 ((I a0 5))))) else (FX8_review_j85L36 p5.2.1 p5.2.2 a0 a2 a3 ((I a0 5)))))))
noncomputable def FX8_review_j21 (I : tq_PI) (L : tq_PL) (a0 : Nat) (a2 : Nat) (b0 : Int32) (b1 : Nat) : Option (tq_PI × tq_PL) :=
  ((tq_it (fun p : Int32 × tq_PI × tq_PL => FX8_review_s36 p.2.1 p.2.2 a0 a2 p.1) tq_N ((0 : Int32), (tq_up2 (tq_up2 (tq_up2 I b1 7 b0) a0 8 (-1 : Int32)) a0 9 (0 : Int32)), L)).bind fun p11 => p11.elim (fun t12 => some (t12.1, t12.2)) (fun t12 => some t12))
noncomputable def FX8_review (I : tq_PI) (L : tq_PL) (a0 : Nat) (a1 : Nat) (a2 : Nat) : Option (tq_PI × tq_PL) :=
  (tq_let (FX8_open I L a0 a1) fun p1 => ((FX3_isThrough p1.1 p1.2 ((tq_rg a0 0))).bind fun p2 => (if (tq_b p2) = 0 then (FX8_review_j21 p1.1 p1.2 a0 a2 ((-1 : Int32)) a0) else (FX8_review_j21 p1.1 p1.2 a0 a2 ((0 : Int32)) a0))))
set_option maxRecDepth 100000 in
set_option maxHeartbeats 4000000 in
theorem FX8_review_j115L36_x {S : Nat × (Nat → Int32)} {d : Nat} {I : tq_PI} {L : tq_PL} {a0 : Nat} {a2 : Nat} {a3 : Int32} (h0 : tq_sh0 a0 = 8) (h2 : tq_sh0 a2 = 10) {q0 : Option Value → tq_PI → tq_PL → Prop} {out : (Int32 × tq_PI × tq_PL) ⊕ ((tq_PI × tq_PL) ⊕ (tq_PI × tq_PL))} (hf : FX8_review_j115L36 I L a0 a2 a3 = some out) (hk : Sum.elim (fun p : Int32 × tq_PI × tq_PL => tq_X S mX8_review (d + 6) tq_k0 36 ([.ref a0, tq_u, .ref a2, .int p.1, tq_u]) [] (tq_st p.2.1 p.2.2) (tq_Q q0)) (Sum.elim (fun p : tq_PI × tq_PL => tq_X S mX8_review (d + 6) tq_k0 121 ([tq_u, tq_u, tq_u, tq_u, tq_u]) [] (tq_st p.1 p.2) (tq_Q q0)) (fun p : tq_PI × tq_PL => q0 none p.1 p.2)) out) : tq_X S mX8_review (d + 6) tq_k0 115 ([.ref a0, tq_u, .ref a2, .int a3, tq_u]) ([]) (tq_st I L) (tq_Q q0) := by
  unfold FX8_review_j115L36 at hf
  refine tq_iinc (a3 + 1) ([.ref a0, tq_u, .ref a2, .int (a3 + 1), tq_u]) rX8_review_115 rfl (tq_inc (by decide)) (Nat.le_of_ble_eq_true rfl) rfl ?_
  refine tq_goto rX8_review_118 ?_
  have hf := Option.some.inj hf
  subst hf
  exact tq_forget _ (tq_le_s (tq_le_u (tq_le_s (tq_le_s (tq_le_u tq_le_n))))) hk

set_option maxRecDepth 100000 in
set_option maxHeartbeats 4000000 in
theorem FX8_review_j85L36_x {S : Nat × (Nat → Int32)} {d : Nat} {I : tq_PI} {L : tq_PL} {a0 : Nat} {a2 : Nat} {a3 : Int32} {a4 : Int32} (h0 : tq_sh0 a0 = 8) (h2 : tq_sh0 a2 = 10) {q0 : Option Value → tq_PI → tq_PL → Prop} {out : (Int32 × tq_PI × tq_PL) ⊕ ((tq_PI × tq_PL) ⊕ (tq_PI × tq_PL))} (hf : FX8_review_j85L36 I L a0 a2 a3 a4 = some out) (hk : Sum.elim (fun p : Int32 × tq_PI × tq_PL => tq_X S mX8_review (d + 6) tq_k0 36 ([.ref a0, tq_u, .ref a2, .int p.1, tq_u]) [] (tq_st p.2.1 p.2.2) (tq_Q q0)) (Sum.elim (fun p : tq_PI × tq_PL => tq_X S mX8_review (d + 6) tq_k0 121 ([tq_u, tq_u, tq_u, tq_u, tq_u]) [] (tq_st p.1 p.2) (tq_Q q0)) (fun p : tq_PI × tq_PL => q0 none p.1 p.2)) out) : tq_X S mX8_review (d + 6) tq_k0 85 ([.ref a0, tq_u, .ref a2, .int a3, .int a4]) ([]) (tq_st I L) (tq_Q q0) := by
  unfold FX8_review_j85L36 at hf
  refine tq_aload_n rX8_review_85 rfl ?_
  refine ty_getI rX8_review_86 f_X8_31 rfl h0 ?_
  refine tq_iload rX8_review_89 rfl ?_
  refine tq_isub rX8_review_91 ?_
  refine tq_aload_n rX8_review_92 rfl ?_
  refine ty_getI rX8_review_93 f_X8_43 rfl h0 ?_
  refine tq_icmp_le rX8_review_96 (fun c8 => ?_) (fun c8 => ?_)
  · rw [if_pos c8] at hf
    exact tq_forget _ (tq_le_s (tq_le_u (tq_le_s (tq_le_s (tq_le_u tq_le_n))))) (FX8_review_j115L36_x  h0 h2 hf hk)
  · rw [if_neg c8] at hf
    refine tq_aload_n rX8_review_99 rfl ?_
    refine tq_aload_n rX8_review_100 rfl ?_
    refine ty_getI rX8_review_101 f_X8_31 rfl h0 ?_
    refine tq_iload rX8_review_104 rfl ?_
    refine tq_isub rX8_review_106 ?_
    refine ty_putI rX8_review_107 f_X8_43 rfl h0 rfl ?_
    refine tq_aload_n rX8_review_110 rfl ?_
    refine tq_iload_n rX8_review_111 rfl ?_
    refine ty_putI rX8_review_112 f_X8_40 rfl h0 rfl ?_
    exact tq_forget _ (tq_le_s (tq_le_u (tq_le_s (tq_le_s (tq_le_u tq_le_n))))) (FX8_review_j115L36_x  h0 h2 hf hk)

set_option maxRecDepth 100000 in
set_option maxHeartbeats 4000000 in
theorem FX8_review_s36_x {S : Nat × (Nat → Int32)} {d : Nat} {I : tq_PI} {L : tq_PL} {a0 : Nat} {a2 : Nat} {a3 : Int32} (h0 : tq_sh0 a0 = 8) (h2 : tq_sh0 a2 = 10) {q0 : Option Value → tq_PI → tq_PL → Prop} {out : (Int32 × tq_PI × tq_PL) ⊕ ((tq_PI × tq_PL) ⊕ (tq_PI × tq_PL))} (hf : FX8_review_s36 I L a0 a2 a3 = some out) (hk : Sum.elim (fun p : Int32 × tq_PI × tq_PL => tq_X S mX8_review (d + 6) tq_k0 36 ([.ref a0, tq_u, .ref a2, .int p.1, tq_u]) [] (tq_st p.2.1 p.2.2) (tq_Q q0)) (Sum.elim (fun p : tq_PI × tq_PL => tq_X S mX8_review (d + 6) tq_k0 121 ([tq_u, tq_u, tq_u, tq_u, tq_u]) [] (tq_st p.1 p.2) (tq_Q q0)) (fun p : tq_PI × tq_PL => q0 none p.1 p.2)) out) : tq_X S mX8_review (d + 6) tq_k0 36 ([.ref a0, tq_u, .ref a2, .int a3, tq_u]) [] (tq_st I L) (tq_Q q0) := by
  unfold FX8_review_s36 at hf
  refine tq_iload_n rX8_review_36 rfl ?_
  refine tq_aload_n rX8_review_37 rfl ?_
  refine ty_getI rX8_review_38 f_X8_64 rfl h2 ?_
  refine tq_icmp_ge rX8_review_41 (fun c4 => ?_) (fun c4 => ?_)
  · rw [if_pos c4] at hf
    have hf := Option.some.inj hf
    subst hf
    exact tq_forget _ (tq_le_u (tq_le_u (tq_le_u (tq_le_u (tq_le_u tq_le_n))))) hk
  · rw [if_neg c4] at hf
    refine tq_aload_n rX8_review_44 rfl ?_
    refine ty_getI rX8_review_45 f_X8_31 rfl h0 ?_
    refine tq_istore ([.ref a0, tq_u, .ref a2, .int a3, .int (I a0 5)]) rX8_review_48 (Nat.le_of_ble_eq_true rfl) rfl ?_
    refine tq_aload_n rX8_review_50 rfl ?_
    refine tq_aload_n rX8_review_51 rfl ?_
    refine tq_iload_n rX8_review_52 rfl ?_
    obtain ⟨p5, e5, hf⟩ := Option.bind_eq_some_iff.mp hf
    refine ty_callVI (tq_b p5.1) ([.ref a2, .int a3]) ([]) rX8_review_53 l_X8_56 moX8_act mvX8_act h0 rfl rfl (Nat.le_of_ble_eq_true rfl) ⟨rfl, rfl⟩ (CX8_act h0 h2 e5) ?_
    refine tq_if_ne rX8_review_56 (fun c6 => ?_) (fun c6 => ?_)
    · rw [if_neg c6] at hf
      refine tq_aload_n rX8_review_60 rfl ?_
      refine ty_getI rX8_review_61 f_X8_37 rfl h0 ?_
      refine tq_iconst (-1 : Int32) rX8_review_64 (by decide) ?_
      refine tq_icmp_ne rX8_review_65 (fun c7 => ?_) (fun c7 => ?_)
      · rw [if_neg c7] at hf
        exact tq_forget _ (tq_le_s (tq_le_u (tq_le_s (tq_le_s (tq_le_s tq_le_n))))) (FX8_review_j85L36_x  h0 h2 hf hk)
      · rw [if_pos c7] at hf
        refine tq_aload_n rX8_review_68 rfl ?_
        refine ty_getR rX8_review_69 f_X8_12 rfl h0 (hp_8_0 h0).1 ?_
        obtain ⟨p9, e9, hf⟩ := Option.bind_eq_some_iff.mp hf
        refine ty_callVI (tq_b p9) ([]) ([]) rX8_review_72 l_X8_60 moX3_isThrough mvX3_isThrough (hp_8_0 h0).2.1 rfl rfl (Nat.le_of_ble_eq_true rfl) ⟨rfl, rfl⟩ (CX3_isThrough (hp_8_0 h0).2.1 e9) ?_
        refine tq_if_eq rX8_review_75 (fun c10 => ?_) (fun c10 => ?_)
        · rw [if_pos c10] at hf
          exact tq_forget _ (tq_le_s (tq_le_u (tq_le_s (tq_le_s (tq_le_s tq_le_n))))) (FX8_review_j85L36_x  h0 h2 hf hk)
        · rw [if_neg c10] at hf
          refine tq_aload_n rX8_review_78 rfl ?_
          refine tq_iload_n rX8_review_79 rfl ?_
          refine tq_iconst (1 : Int32) rX8_review_80 (by decide) ?_
          refine tq_iadd rX8_review_81 ?_
          refine ty_putI rX8_review_82 f_X8_37 rfl h0 rfl ?_
          exact tq_forget _ (tq_le_s (tq_le_u (tq_le_s (tq_le_s (tq_le_s tq_le_n))))) (FX8_review_j85L36_x  h0 h2 hf hk)
    · rw [if_pos c6] at hf
      refine ty_vret rX8_review_59 rfl rfl ?_
      have hf := Option.some.inj hf
      subst hf
      exact hk

set_option maxRecDepth 100000 in
set_option maxHeartbeats 4000000 in
theorem FX8_review_j21_x {S : Nat × (Nat → Int32)} {d : Nat} {I : tq_PI} {L : tq_PL} {a0 : Nat} {a2 : Nat} {b0 : Int32} {b1 : Nat} (h0 : tq_sh0 a0 = 8) (h2 : tq_sh0 a2 = 10) (k1 : tq_sh0 b1 = 8) {q0 : Option Value → tq_PI → tq_PL → Prop} {out : tq_PI × tq_PL} (hf : FX8_review_j21 I L a0 a2 b0 b1 = some out) (hk : q0 none out.1 out.2) : tq_X S mX8_review (d + 6) tq_k0 21 ([.ref a0, tq_u, .ref a2, tq_u, tq_u]) ([.int b0, .ref b1]) (tq_st I L) (tq_Q q0) := by
  unfold FX8_review_j21 at hf
  refine ty_putI rX8_review_21 f_X8_37 rfl k1 rfl ?_
  refine tq_aload_n rX8_review_24 rfl ?_
  refine tq_iconst (-1 : Int32) rX8_review_25 (by decide) ?_
  refine ty_putI rX8_review_26 f_X8_40 rfl h0 rfl ?_
  refine tq_aload_n rX8_review_29 rfl ?_
  refine tq_iconst (0 : Int32) rX8_review_30 (by decide) ?_
  refine ty_putI rX8_review_31 f_X8_43 rfl h0 rfl ?_
  refine tq_iconst (0 : Int32) rX8_review_34 (by decide) ?_
  refine tq_istore_n ([.ref a0, tq_u, .ref a2, .int (0 : Int32), tq_u]) rX8_review_35 (Nat.le_of_ble_eq_true rfl) rfl ?_
  obtain ⟨p11, e11, hf⟩ := Option.bind_eq_some_iff.mp hf
  refine tq_forget _ (tq_le_s (tq_le_u (tq_le_s (tq_le_s (tq_le_u tq_le_n))))) ?_
  refine tq_it_elim (P := fun p : Int32 × tq_PI × tq_PL => tq_X S mX8_review (d + 6) tq_k0 36 ([.ref a0, tq_u, .ref a2, .int p.1, tq_u]) [] (tq_st p.2.1 p.2.2) (tq_Q q0)) (R := Sum.elim (fun p : tq_PI × tq_PL => tq_X S mX8_review (d + 6) tq_k0 121 ([tq_u, tq_u, tq_u, tq_u, tq_u]) [] (tq_st p.1 p.2) (tq_Q q0)) (fun p : tq_PI × tq_PL => q0 none p.1 p.2)) (fun p o hp hk => FX8_review_s36_x  h0 h2 hp hk) _ (((0 : Int32), (tq_up2 (tq_up2 (tq_up2 I b1 7 b0) a0 8 (-1 : Int32)) a0 9 (0 : Int32)), L)) _ e11 ?_
  rcases tq_selim hf with ⟨t12, t12q, hf⟩ | ⟨t12, t12q, hf⟩
  · rw [t12q]
    show tq_X _ _ _ _ _ _ _ _ _
    refine ty_vret rX8_review_121 rfl rfl ?_
    have hf := Option.some.inj hf
    subst hf
    exact hk
  · rw [t12q]
    have hf := Option.some.inj hf
    subst hf
    exact hk

set_option maxRecDepth 100000 in
set_option maxHeartbeats 4000000 in
theorem CX8_review {S : Nat × (Nat → Int32)} {d : Nat} {I : tq_PI} {L : tq_PL} {a0 : Nat} {a1 : Nat} {a2 : Nat} (h0 : tq_sh0 a0 = 8) (h1 : tq_sh0 a1 = 3) (h2 : tq_sh0 a2 = 10) {out : tq_PI × tq_PL} (hf : FX8_review I L a0 a1 a2 = some out) : tq_K S mX8_review (d + 6) [.ref a0, .ref a1, .ref a2] I L (tq_one2 (none) out.1 out.2) := by
  unfold FX8_review at hf
  refine tq_K_of (by decide) (Nat.le_of_ble_eq_true rfl) (ls := [.ref a0, .ref a1, .ref a2, tq_u, tq_u]) rfl ?_
  refine tq_aload_n rX8_review_0 rfl ?_
  refine tq_aload_n rX8_review_1 rfl ?_
  obtain ⟨p1, e1, hf⟩ := tq_let_elim hf
  refine ty_callVV ([.ref a1]) ([]) rX8_review_2 l_X8_53 moX8_open mvX8_open h0 rfl rfl (Nat.le_of_ble_eq_true rfl) ⟨rfl, rfl⟩ (CX8_open h0 h1 e1) ?_
  refine tq_aload_n rX8_review_5 rfl ?_
  refine tq_aload_n rX8_review_6 rfl ?_
  refine ty_getR rX8_review_7 f_X8_12 rfl h0 (hp_8_0 h0).1 ?_
  obtain ⟨p2, e2, hf⟩ := Option.bind_eq_some_iff.mp hf
  refine ty_callVI (tq_b p2) ([]) ([.ref a0]) rX8_review_10 l_X8_60 moX3_isThrough mvX3_isThrough (hp_8_0 h0).2.1 rfl rfl (Nat.le_of_ble_eq_true rfl) ⟨rfl, rfl⟩ (CX3_isThrough (hp_8_0 h0).2.1 e2) ?_
  refine tq_if_eq rX8_review_13 (fun c3 => ?_) (fun c3 => ?_)
  · rw [if_pos c3] at hf
    refine tq_iconst (-1 : Int32) rX8_review_20 (by decide) ?_
    exact tq_forget _ (tq_le_s (tq_le_u (tq_le_s (tq_le_u (tq_le_u tq_le_n))))) (FX8_review_j21_x  h0 h2 h0 hf ⟨rfl, rfl, rfl⟩)
  · rw [if_neg c3] at hf
    refine tq_iconst (0 : Int32) rX8_review_16 (by decide) ?_
    refine tq_goto rX8_review_17 ?_
    exact tq_forget _ (tq_le_s (tq_le_u (tq_le_s (tq_le_u (tq_le_u tq_le_n))))) (FX8_review_j21_x  h0 h2 h0 hf ⟨rfl, rfl, rfl⟩)

abbrev mX8_below : tq_M := (yX8_below, cX8_below, 2, (Option.some Jvm.ClassFile.FieldType.int), 0, 0)
theorem f_X8_46 : tq_fok RX8 46 8 10 := ⟨by decide, by decide, Or.inl (tq_sg2 _ (List.mem_of_getElem? (i := 14) rfl))⟩
theorem k_X8_97 : Cond.constant RX8 97 (1103515245) ∈ lw_tbl := tq_sg5 _ (List.mem_of_getElem? (i := 139) rfl)
theorem rX8_below_0 : tq_D cX8_below 0 (.aload_n 0) 1 1 := ⟨by decide +kernel, rfl⟩
theorem rX8_below_1 : tq_D cX8_below 1 (.aload_n 0) 1 2 := ⟨by decide +kernel, rfl⟩
theorem rX8_below_2 : tq_D cX8_below 2 (.getfield 46) 3 5 := ⟨by decide +kernel, rfl⟩
theorem rX8_below_5 : tq_D cX8_below 5 (.ldc 97) 2 7 := ⟨by decide +kernel, rfl⟩
theorem rX8_below_7 : tq_D cX8_below 7 (.imul) 1 8 := ⟨by decide +kernel, rfl⟩
theorem rX8_below_8 : tq_D cX8_below 8 (.sipush 12345) 3 11 := ⟨by decide +kernel, rfl⟩
theorem rX8_below_11 : tq_D cX8_below 11 (.iadd) 1 12 := ⟨by decide +kernel, rfl⟩
theorem rX8_below_12 : tq_D cX8_below 12 (.putfield 46) 3 15 := ⟨by decide +kernel, rfl⟩
theorem rX8_below_15 : tq_D cX8_below 15 (.iload_n 1) 1 16 := ⟨by decide +kernel, rfl⟩
theorem rX8_below_16 : tq_D cX8_below 16 (.iconst 1) 1 17 := ⟨by decide +kernel, rfl⟩
theorem rX8_below_17 : tq_J cX8_below 17 (.if_icmp .ge) 24 20 := ⟨7, by decide +kernel, by decide, rfl⟩
theorem rX8_below_20 : tq_D cX8_below 20 (.iconst 0) 1 21 := ⟨by decide +kernel, rfl⟩
theorem rX8_below_21 : tq_J cX8_below 21 .goto 33 24 := ⟨12, by decide +kernel, by decide, rfl⟩
theorem rX8_below_24 : tq_D cX8_below 24 (.aload_n 0) 1 25 := ⟨by decide +kernel, rfl⟩
theorem rX8_below_25 : tq_D cX8_below 25 (.getfield 46) 3 28 := ⟨by decide +kernel, rfl⟩
theorem rX8_below_28 : tq_D cX8_below 28 (.bipush 16) 2 30 := ⟨by decide +kernel, rfl⟩
theorem rX8_below_30 : tq_D cX8_below 30 (.iushr) 1 31 := ⟨by decide +kernel, rfl⟩
theorem rX8_below_31 : tq_D cX8_below 31 (.iload_n 1) 1 32 := ⟨by decide +kernel, rfl⟩
theorem rX8_below_32 : tq_D cX8_below 32 (.irem) 1 33 := ⟨by decide +kernel, rfl⟩
theorem rX8_below_33 : decode cX8_below 33 = .ok (.ireturn, 1) := by decide +kernel
noncomputable def FX8_below (I : tq_PI) (L : tq_PL) (a0 : Nat) (a1 : Int32) : Option (Int32 × tq_PI) :=
  (if (1 : Int32) ≤ a1 then (if ¬ a1 = 0 then some ((((Int32.toUInt32 (((tq_up2 I a0 10 (((I a0 10) * (1103515245 : Int32)) + (12345 : Int32)))) a0 10) >>> (Int32.toUInt32 (16 : Int32) &&& Int32.toUInt32 31)).toInt32) - ((Int32.toUInt32 (((tq_up2 I a0 10 (((I a0 10) * (1103515245 : Int32)) + (12345 : Int32)))) a0 10) >>> (Int32.toUInt32 (16 : Int32) &&& Int32.toUInt32 31)).toInt32) / a1 * a1), (tq_up2 I a0 10 (((I a0 10) * (1103515245 : Int32)) + (12345 : Int32)))) else none) else some ((0 : Int32), (tq_up2 I a0 10 (((I a0 10) * (1103515245 : Int32)) + (12345 : Int32)))))
set_option maxRecDepth 100000 in
set_option maxHeartbeats 4000000 in
theorem CX8_below {S : Nat × (Nat → Int32)} {d : Nat} {I : tq_PI} {L : tq_PL} {a0 : Nat} {a1 : Int32} (h0 : tq_sh0 a0 = 8) {out : Int32 × tq_PI} (hf : FX8_below I L a0 a1 = some out) : tq_K S mX8_below d [.ref a0, .int a1] I L (tq_one2 (some (.int out.1)) out.2 L) := by
  unfold FX8_below at hf
  refine tq_K_of (by decide) (Nat.le_of_ble_eq_true rfl) (ls := [.ref a0, .int a1]) rfl ?_
  refine tq_aload_n rX8_below_0 rfl ?_
  refine tq_aload_n rX8_below_1 rfl ?_
  refine ty_getI rX8_below_2 f_X8_46 rfl h0 ?_
  refine tq_ldc rX8_below_5 (k_X8_97) ?_
  refine tq_imul rX8_below_7 ?_
  refine tq_sipush (12345 : Int32) rX8_below_8 (by decide) ?_
  refine tq_iadd rX8_below_11 ?_
  refine ty_putI rX8_below_12 f_X8_46 rfl h0 rfl ?_
  refine tq_iload_n rX8_below_15 rfl ?_
  refine tq_iconst (1 : Int32) rX8_below_16 (by decide) ?_
  refine tq_icmp_ge rX8_below_17 (fun c1 => ?_) (fun c1 => ?_)
  · rw [if_pos c1] at hf
    refine tq_aload_n rX8_below_24 rfl ?_
    refine ty_getI rX8_below_25 f_X8_46 rfl h0 ?_
    refine tq_bipush (16 : Int32) rX8_below_28 (by decide) ?_
    refine tq_iushr rX8_below_30 ?_
    refine tq_iload_n rX8_below_31 rfl ?_
    obtain ⟨g2, hf⟩ := tq_chk hf
    refine tq_irem rX8_below_32 g2 ?_
    refine ty_iret rX8_below_33 rfl rfl ?_
    have hf := Option.some.inj hf
    subst hf
    exact ⟨rfl, rfl, rfl⟩
  · rw [if_neg c1] at hf
    refine tq_iconst (0 : Int32) rX8_below_20 (by decide) ?_
    refine tq_goto rX8_below_21 ?_
    refine ty_iret rX8_below_33 rfl rfl ?_
    have hf := Option.some.inj hf
    subst hf
    exact ⟨rfl, rfl, rfl⟩

abbrev mX8_actByLot : tq_M := (yX8_actByLot, cX8_actByLot, 4, (Option.none : Option Jvm.ClassFile.FieldType), 0, 0)
theorem moX8_below : tq_mok mX8_below 1 := ⟨tq_sg1 _ (List.mem_of_getElem? (i := 8) rfl), tq_sg5 _ (List.mem_of_getElem? (i := 138) rfl), ⟨by decide, by decide, by decide +kernel⟩, by decide⟩
theorem mvX8_below : 8 < 13 ∧ (tq_cl 8).1 = mX8_below.1.cls ∧ Cond.instanceMethod mX8_below.1 ∈ lw_tbl ∧ Cond.selects mX8_below.1.cls mX8_below.1 mX8_below.1 ∈ lw_tbl := ⟨by decide, rfl, tq_sg5 _ (List.mem_of_getElem? (i := 137) rfl), List.mem_append_left _ (List.mem_map.mpr ⟨_, List.mem_of_getElem? (i := 38) rfl, rfl⟩)⟩
theorem l_X8_69 : tq_lok RX8 69 mX8_below.1 := Or.inl (tq_sg5 _ (List.mem_of_getElem? (i := 135) rfl))
theorem l_X8_81 : tq_lok RX8 81 mX3_cellCount.1 := Or.inl (tq_sg5 _ (List.mem_of_getElem? (i := 144) rfl))
theorem l_X8_85 : tq_lok RX8 85 mX3_bitOf.1 := Or.inl (tq_sg5 _ (List.mem_of_getElem? (i := 145) rfl))
theorem rX8_actByLot_0 : tq_D cX8_actByLot 0 (.iload_n 1) 1 1 := ⟨by decide +kernel, rfl⟩
theorem rX8_actByLot_1 : tq_D cX8_actByLot 1 (.bipush 7) 2 3 := ⟨by decide +kernel, rfl⟩
theorem rX8_actByLot_3 : tq_J cX8_actByLot 3 (.if_icmp .ne) 37 6 := ⟨34, by decide +kernel, by decide, rfl⟩
theorem rX8_actByLot_6 : tq_D cX8_actByLot 6 (.aload_n 0) 1 7 := ⟨by decide +kernel, rfl⟩
theorem rX8_actByLot_7 : tq_D cX8_actByLot 7 (.dup) 1 8 := ⟨by decide +kernel, rfl⟩
theorem rX8_actByLot_8 : tq_D cX8_actByLot 8 (.getfield 34) 3 11 := ⟨by decide +kernel, rfl⟩
theorem rX8_actByLot_11 : tq_D cX8_actByLot 11 (.aload_n 0) 1 12 := ⟨by decide +kernel, rfl⟩
theorem rX8_actByLot_12 : tq_D cX8_actByLot 12 (.getfield 12) 3 15 := ⟨by decide +kernel, rfl⟩
theorem rX8_actByLot_15 : tq_D cX8_actByLot 15 (.aload_n 0) 1 16 := ⟨by decide +kernel, rfl⟩
theorem rX8_actByLot_16 : tq_D cX8_actByLot 16 (.bipush 10) 2 18 := ⟨by decide +kernel, rfl⟩
theorem rX8_actByLot_18 : tq_D cX8_actByLot 18 (.invokevirtual 69) 3 21 := ⟨by decide +kernel, rfl⟩
theorem rX8_actByLot_21 : tq_D cX8_actByLot 21 (.invokevirtual 77) 3 24 := ⟨by decide +kernel, rfl⟩
theorem rX8_actByLot_24 : tq_J cX8_actByLot 24 (.ifCond .eq) 31 27 := ⟨7, by decide +kernel, by decide, rfl⟩
theorem rX8_actByLot_27 : tq_D cX8_actByLot 27 (.iconst 1) 1 28 := ⟨by decide +kernel, rfl⟩
theorem rX8_actByLot_28 : tq_J cX8_actByLot 28 .goto 32 31 := ⟨4, by decide +kernel, by decide, rfl⟩
theorem rX8_actByLot_31 : tq_D cX8_actByLot 31 (.iconst 0) 1 32 := ⟨by decide +kernel, rfl⟩
theorem rX8_actByLot_32 : tq_D cX8_actByLot 32 (.iadd) 1 33 := ⟨by decide +kernel, rfl⟩
theorem rX8_actByLot_33 : tq_D cX8_actByLot 33 (.putfield 34) 3 36 := ⟨by decide +kernel, rfl⟩
theorem rX8_actByLot_36 : decode cX8_actByLot 36 = .ok (.return_, 1) := by decide +kernel
theorem rX8_actByLot_37 : tq_D cX8_actByLot 37 (.aload_n 0) 1 38 := ⟨by decide +kernel, rfl⟩
theorem rX8_actByLot_38 : tq_D cX8_actByLot 38 (.getfield 12) 3 41 := ⟨by decide +kernel, rfl⟩
theorem rX8_actByLot_41 : tq_D cX8_actByLot 41 (.aload_n 0) 1 42 := ⟨by decide +kernel, rfl⟩
theorem rX8_actByLot_42 : tq_D cX8_actByLot 42 (.aload_n 0) 1 43 := ⟨by decide +kernel, rfl⟩
theorem rX8_actByLot_43 : tq_D cX8_actByLot 43 (.getfield 12) 3 46 := ⟨by decide +kernel, rfl⟩
theorem rX8_actByLot_46 : tq_D cX8_actByLot 46 (.invokevirtual 81) 3 49 := ⟨by decide +kernel, rfl⟩
theorem rX8_actByLot_49 : tq_D cX8_actByLot 49 (.invokevirtual 69) 3 52 := ⟨by decide +kernel, rfl⟩
theorem rX8_actByLot_52 : tq_D cX8_actByLot 52 (.invokevirtual 85) 3 55 := ⟨by decide +kernel, rfl⟩
theorem rX8_actByLot_55 : tq_D cX8_actByLot 55 (.lstore_n 2) 1 56 := ⟨by decide +kernel, rfl⟩
theorem rX8_actByLot_56 : tq_D cX8_actByLot 56 (.iload_n 1) 1 57 := ⟨by decide +kernel, rfl⟩
theorem rX8_actByLot_57 : tq_D cX8_actByLot 57 (.bipush 6) 2 59 := ⟨by decide +kernel, rfl⟩
theorem rX8_actByLot_59 : tq_J cX8_actByLot 59 (.if_icmp .ne) 71 62 := ⟨12, by decide +kernel, by decide, rfl⟩
theorem rX8_actByLot_62 : tq_D cX8_actByLot 62 (.aload_n 0) 1 63 := ⟨by decide +kernel, rfl⟩
theorem rX8_actByLot_63 : tq_D cX8_actByLot 63 (.lload_n 2) 1 64 := ⟨by decide +kernel, rfl⟩
theorem rX8_actByLot_64 : tq_D cX8_actByLot 64 (.invokevirtual 89) 3 67 := ⟨by decide +kernel, rfl⟩
theorem rX8_actByLot_67 : tq_D cX8_actByLot 67 (.pop) 1 68 := ⟨by decide +kernel, rfl⟩
theorem rX8_actByLot_68 : tq_J cX8_actByLot 68 .goto 87 71 := ⟨19, by decide +kernel, by decide, rfl⟩
theorem rX8_actByLot_71 : tq_D cX8_actByLot 71 (.aload_n 0) 1 72 := ⟨by decide +kernel, rfl⟩
theorem rX8_actByLot_72 : tq_D cX8_actByLot 72 (.iload_n 1) 1 73 := ⟨by decide +kernel, rfl⟩
theorem rX8_actByLot_73 : tq_D cX8_actByLot 73 (.iconst 3) 1 74 := ⟨by decide +kernel, rfl⟩
theorem rX8_actByLot_74 : tq_J cX8_actByLot 74 (.if_icmp .ge) 81 77 := ⟨7, by decide +kernel, by decide, rfl⟩
theorem rX8_actByLot_77 : tq_D cX8_actByLot 77 (.iconst 0) 1 78 := ⟨by decide +kernel, rfl⟩
theorem rX8_actByLot_78 : tq_J cX8_actByLot 78 .goto 82 81 := ⟨4, by decide +kernel, by decide, rfl⟩
theorem rX8_actByLot_81 : tq_D cX8_actByLot 81 (.iconst 1) 1 82 := ⟨by decide +kernel, rfl⟩
theorem rX8_actByLot_82 : tq_D cX8_actByLot 82 (.lload_n 2) 1 83 := ⟨by decide +kernel, rfl⟩
theorem rX8_actByLot_83 : tq_D cX8_actByLot 83 (.invokevirtual 93) 3 86 := ⟨by decide +kernel, rfl⟩
theorem rX8_actByLot_86 : tq_D cX8_actByLot 86 (.pop) 1 87 := ⟨by decide +kernel, rfl⟩
theorem rX8_actByLot_87 : decode cX8_actByLot 87 = .ok (.return_, 1) := by decide +kernel
noncomputable def FX8_actByLot_j82 (I : tq_PI) (L : tq_PL) (a2 : Int64) (b0 : Int32) (b1 : Nat) : Option (tq_PI × tq_PL) :=
  ((FX8_strike I L b1 b0 a2).bind fun p7 => some (p7.2.1, p7.2.2))
noncomputable def FX8_actByLot_j32 (I : tq_PI) (L : tq_PL) (b0 : Int32) (b1 : Int32) (b2 : Nat) : Option (tq_PI × tq_PL) :=
  some ((tq_up2 I b2 6 (b1 + b0)), L)
noncomputable def FX8_actByLot (I : tq_PI) (L : tq_PL) (a0 : Nat) (a1 : Int32) : Option (tq_PI × tq_PL) :=
  (if a1 = (7 : Int32) then ((FX8_below I L a0 ((10 : Int32))).bind fun p9 => ((FX3_isHeardThrough p9.2 L ((tq_rg a0 0)) p9.1).bind fun p10 => (if (tq_b p10) = 0 then (FX8_actByLot_j32 p9.2 L ((0 : Int32)) ((I a0 6)) a0) else (FX8_actByLot_j32 p9.2 L ((1 : Int32)) ((I a0 6)) a0)))) else (tq_let (FX3_cellCount I L ((tq_rg a0 0))) fun p2 => ((FX8_below I L a0 p2).bind fun p3 => ((FX3_bitOf p3.2 L ((tq_rg a0 0)) p3.1).bind fun p4 => (if a1 = (6 : Int32) then (tq_let (FX8_shoreUp p3.2 L a0 p4) fun p8 => some (p3.2, p8.2)) else (if (3 : Int32) ≤ a1 then (FX8_actByLot_j82 p3.2 L p4 ((1 : Int32)) a0) else (FX8_actByLot_j82 p3.2 L p4 ((0 : Int32)) a0)))))))
set_option maxRecDepth 100000 in
set_option maxHeartbeats 4000000 in
theorem FX8_actByLot_j82_x {S : Nat × (Nat → Int32)} {d : Nat} {I : tq_PI} {L : tq_PL} {a2 : Int64} {b0 : Int32} {b1 : Nat} (k1 : tq_sh0 b1 = 8) {q0 : Option Value → tq_PI → tq_PL → Prop} {out : tq_PI × tq_PL} (hf : FX8_actByLot_j82 I L a2 b0 b1 = some out) (hk : q0 none out.1 out.2) : tq_X S mX8_actByLot (d + 5) tq_k0 82 ([tq_u, tq_u, .long a2, tq_u]) ([.int b0, .ref b1]) (tq_st I L) (tq_Q q0) := by
  unfold FX8_actByLot_j82 at hf
  refine tq_lload_n rX8_actByLot_82 rfl ?_
  obtain ⟨p7, e7, hf⟩ := Option.bind_eq_some_iff.mp hf
  refine ty_callVI (tq_b p7.1) ([.int b0, .long a2]) ([]) rX8_actByLot_83 l_X8_93 moX8_strike mvX8_strike k1 rfl rfl (Nat.le_of_ble_eq_true rfl) ⟨rfl, rfl⟩ (CX8_strike k1 e7) ?_
  refine tq_pop rX8_actByLot_86 rfl ?_
  refine ty_vret rX8_actByLot_87 rfl rfl ?_
  have hf := Option.some.inj hf
  subst hf
  exact hk

set_option maxRecDepth 100000 in
set_option maxHeartbeats 4000000 in
theorem FX8_actByLot_j32_x {S : Nat × (Nat → Int32)} {d : Nat} {I : tq_PI} {L : tq_PL} {b0 : Int32} {b1 : Int32} {b2 : Nat} (k2 : tq_sh0 b2 = 8) {q0 : Option Value → tq_PI → tq_PL → Prop} {out : tq_PI × tq_PL} (hf : FX8_actByLot_j32 I L b0 b1 b2 = some out) (hk : q0 none out.1 out.2) : tq_X S mX8_actByLot (d + 5) tq_k0 32 ([tq_u, tq_u, tq_u, tq_u]) ([.int b0, .int b1, .ref b2]) (tq_st I L) (tq_Q q0) := by
  unfold FX8_actByLot_j32 at hf
  refine tq_iadd rX8_actByLot_32 ?_
  refine ty_putI rX8_actByLot_33 f_X8_34 rfl k2 rfl ?_
  refine ty_vret rX8_actByLot_36 rfl rfl ?_
  have hf := Option.some.inj hf
  subst hf
  exact hk

set_option maxRecDepth 100000 in
set_option maxHeartbeats 4000000 in
theorem CX8_actByLot {S : Nat × (Nat → Int32)} {d : Nat} {I : tq_PI} {L : tq_PL} {a0 : Nat} {a1 : Int32} (h0 : tq_sh0 a0 = 8) {out : tq_PI × tq_PL} (hf : FX8_actByLot I L a0 a1 = some out) : tq_K S mX8_actByLot (d + 5) [.ref a0, .int a1] I L (tq_one2 (none) out.1 out.2) := by
  unfold FX8_actByLot at hf
  refine tq_K_of (by decide) (Nat.le_of_ble_eq_true rfl) (ls := [.ref a0, .int a1, tq_u, tq_u]) rfl ?_
  refine tq_iload_n rX8_actByLot_0 rfl ?_
  refine tq_bipush (7 : Int32) rX8_actByLot_1 (by decide) ?_
  refine tq_icmp_ne rX8_actByLot_3 (fun c1 => ?_) (fun c1 => ?_)
  · rw [if_neg c1] at hf
    refine tq_aload_n rX8_actByLot_37 rfl ?_
    refine ty_getR rX8_actByLot_38 f_X8_12 rfl h0 (hp_8_0 h0).1 ?_
    refine tq_aload_n rX8_actByLot_41 rfl ?_
    refine tq_aload_n rX8_actByLot_42 rfl ?_
    refine ty_getR rX8_actByLot_43 f_X8_12 rfl h0 (hp_8_0 h0).1 ?_
    obtain ⟨p2, e2, hf⟩ := tq_let_elim hf
    refine ty_callVI p2 ([]) ([.ref a0, .ref (tq_rg a0 0)]) rX8_actByLot_46 l_X8_81 moX3_cellCount mvX3_cellCount (hp_8_0 h0).2.1 rfl rfl (Nat.le_of_ble_eq_true rfl) ⟨rfl, rfl⟩ (CX3_cellCount (hp_8_0 h0).2.1 e2) ?_
    obtain ⟨p3, e3, hf⟩ := Option.bind_eq_some_iff.mp hf
    refine ty_callVI p3.1 ([.int p2]) ([.ref (tq_rg a0 0)]) rX8_actByLot_49 l_X8_69 moX8_below mvX8_below h0 rfl rfl (Nat.le_of_ble_eq_true rfl) ⟨rfl, rfl⟩ (CX8_below h0 e3) ?_
    obtain ⟨p4, e4, hf⟩ := Option.bind_eq_some_iff.mp hf
    refine ty_callVJ p4 ([.int p3.1]) ([]) rX8_actByLot_52 l_X8_85 moX3_bitOf mvX3_bitOf (hp_8_0 h0).2.1 rfl rfl (Nat.le_of_ble_eq_true rfl) ⟨rfl, rfl⟩ (CX3_bitOf (hp_8_0 h0).2.1 e4) ?_
    refine tq_lstore_n ([.ref a0, .int a1, .long p4, tq_u]) rX8_actByLot_55 (Nat.le_of_ble_eq_true rfl) rfl ?_
    refine tq_iload_n rX8_actByLot_56 rfl ?_
    refine tq_bipush (6 : Int32) rX8_actByLot_57 (by decide) ?_
    refine tq_icmp_ne rX8_actByLot_59 (fun c5 => ?_) (fun c5 => ?_)
    · rw [if_neg c5] at hf
      refine tq_aload_n rX8_actByLot_71 rfl ?_
      refine tq_iload_n rX8_actByLot_72 rfl ?_
      refine tq_iconst (3 : Int32) rX8_actByLot_73 (by decide) ?_
      refine tq_icmp_ge rX8_actByLot_74 (fun c6 => ?_) (fun c6 => ?_)
      · rw [if_pos c6] at hf
        refine tq_iconst (1 : Int32) rX8_actByLot_81 (by decide) ?_
        exact tq_forget _ (tq_le_u (tq_le_u (tq_le_s (tq_le_u tq_le_n)))) (FX8_actByLot_j82_x  h0 hf ⟨rfl, rfl, rfl⟩)
      · rw [if_neg c6] at hf
        refine tq_iconst (0 : Int32) rX8_actByLot_77 (by decide) ?_
        refine tq_goto rX8_actByLot_78 ?_
        exact tq_forget _ (tq_le_u (tq_le_u (tq_le_s (tq_le_u tq_le_n)))) (FX8_actByLot_j82_x  h0 hf ⟨rfl, rfl, rfl⟩)
    · rw [if_pos c5] at hf
      refine tq_aload_n rX8_actByLot_62 rfl ?_
      refine tq_lload_n rX8_actByLot_63 rfl ?_
      obtain ⟨p8, e8, hf⟩ := tq_let_elim hf
      refine ty_callVI (tq_b p8.1) ([.long p4]) ([]) rX8_actByLot_64 l_X8_89 moX8_shoreUp mvX8_shoreUp h0 rfl rfl (Nat.le_of_ble_eq_true rfl) ⟨rfl, rfl⟩ (CX8_shoreUp h0 e8) ?_
      refine tq_pop rX8_actByLot_67 rfl ?_
      refine tq_goto rX8_actByLot_68 ?_
      refine ty_vret rX8_actByLot_87 rfl rfl ?_
      have hf := Option.some.inj hf
      subst hf
      exact ⟨rfl, rfl, rfl⟩
  · rw [if_pos c1] at hf
    refine tq_aload_n rX8_actByLot_6 rfl ?_
    refine tq_dup rX8_actByLot_7 rfl ?_
    refine ty_getI rX8_actByLot_8 f_X8_34 rfl h0 ?_
    refine tq_aload_n rX8_actByLot_11 rfl ?_
    refine ty_getR rX8_actByLot_12 f_X8_12 rfl h0 (hp_8_0 h0).1 ?_
    refine tq_aload_n rX8_actByLot_15 rfl ?_
    refine tq_bipush (10 : Int32) rX8_actByLot_16 (by decide) ?_
    obtain ⟨p9, e9, hf⟩ := Option.bind_eq_some_iff.mp hf
    refine ty_callVI p9.1 ([.int (10 : Int32)]) ([.ref (tq_rg a0 0), .int (I a0 6), .ref a0]) rX8_actByLot_18 l_X8_69 moX8_below mvX8_below h0 rfl rfl (Nat.le_of_ble_eq_true rfl) ⟨rfl, rfl⟩ (CX8_below h0 e9) ?_
    obtain ⟨p10, e10, hf⟩ := Option.bind_eq_some_iff.mp hf
    refine ty_callVI (tq_b p10) ([.int p9.1]) ([.int (I a0 6), .ref a0]) rX8_actByLot_21 l_X8_77 moX3_isHeardThrough mvX3_isHeardThrough (hp_8_0 h0).2.1 rfl rfl (Nat.le_of_ble_eq_true rfl) ⟨rfl, rfl⟩ (CX3_isHeardThrough (hp_8_0 h0).2.1 e10) ?_
    refine tq_if_eq rX8_actByLot_24 (fun c11 => ?_) (fun c11 => ?_)
    · rw [if_pos c11] at hf
      refine tq_iconst (0 : Int32) rX8_actByLot_31 (by decide) ?_
      exact tq_forget _ (tq_le_u (tq_le_u (tq_le_u (tq_le_u tq_le_n)))) (FX8_actByLot_j32_x  h0 hf ⟨rfl, rfl, rfl⟩)
    · rw [if_neg c11] at hf
      refine tq_iconst (1 : Int32) rX8_actByLot_27 (by decide) ?_
      refine tq_goto rX8_actByLot_28 ?_
      exact tq_forget _ (tq_le_u (tq_le_u (tq_le_u (tq_le_u tq_le_n)))) (FX8_actByLot_j32_x  h0 hf ⟨rfl, rfl, rfl⟩)

abbrev mX8_draw : tq_M := (yX8_draw, cX8_draw, 5, (Option.none : Option Jvm.ClassFile.FieldType), 0, 0)
theorem moX8_actByLot : tq_mok mX8_actByLot 1 := ⟨tq_sg1 _ (List.mem_of_getElem? (i := 8) rfl), tq_sg5 _ (List.mem_of_getElem? (i := 143) rfl), ⟨by decide, by decide, by decide +kernel⟩, by decide⟩
theorem mvX8_actByLot : 8 < 13 ∧ (tq_cl 8).1 = mX8_actByLot.1.cls ∧ Cond.instanceMethod mX8_actByLot.1 ∈ lw_tbl ∧ Cond.selects mX8_actByLot.1.cls mX8_actByLot.1 mX8_actByLot.1 ∈ lw_tbl := ⟨by decide, rfl, tq_sg5 _ (List.mem_of_getElem? (i := 142) rfl), List.mem_append_left _ (List.mem_map.mpr ⟨_, List.mem_of_getElem? (i := 39) rfl, rfl⟩)⟩
theorem l_X8_73 : tq_lok RX8 73 mX8_actByLot.1 := Or.inl (tq_sg5 _ (List.mem_of_getElem? (i := 140) rfl))
theorem rX8_draw_0 : tq_D cX8_draw 0 (.aload_n 0) 1 1 := ⟨by decide +kernel, rfl⟩
theorem rX8_draw_1 : tq_D cX8_draw 1 (.aload_n 1) 1 2 := ⟨by decide +kernel, rfl⟩
theorem rX8_draw_2 : tq_D cX8_draw 2 (.invokevirtual 53) 3 5 := ⟨by decide +kernel, rfl⟩
theorem rX8_draw_5 : tq_D cX8_draw 5 (.aload_n 0) 1 6 := ⟨by decide +kernel, rfl⟩
theorem rX8_draw_6 : tq_D cX8_draw 6 (.iload_n 2) 1 7 := ⟨by decide +kernel, rfl⟩
theorem rX8_draw_7 : tq_D cX8_draw 7 (.putfield 46) 3 10 := ⟨by decide +kernel, rfl⟩
theorem rX8_draw_10 : tq_D cX8_draw 10 (.iconst 0) 1 11 := ⟨by decide +kernel, rfl⟩
theorem rX8_draw_11 : tq_D cX8_draw 11 (.istore 4) 2 13 := ⟨by decide +kernel, rfl⟩
theorem rX8_draw_13 : tq_D cX8_draw 13 (.iload 4) 2 15 := ⟨by decide +kernel, rfl⟩
theorem rX8_draw_15 : tq_D cX8_draw 15 (.iload_n 3) 1 16 := ⟨by decide +kernel, rfl⟩
theorem rX8_draw_16 : tq_J cX8_draw 16 (.if_icmp .ge) 35 19 := ⟨19, by decide +kernel, by decide, rfl⟩
theorem rX8_draw_19 : tq_D cX8_draw 19 (.aload_n 0) 1 20 := ⟨by decide +kernel, rfl⟩
theorem rX8_draw_20 : tq_D cX8_draw 20 (.aload_n 0) 1 21 := ⟨by decide +kernel, rfl⟩
theorem rX8_draw_21 : tq_D cX8_draw 21 (.bipush 8) 2 23 := ⟨by decide +kernel, rfl⟩
theorem rX8_draw_23 : tq_D cX8_draw 23 (.invokevirtual 69) 3 26 := ⟨by decide +kernel, rfl⟩
theorem rX8_draw_26 : tq_D cX8_draw 26 (.invokevirtual 73) 3 29 := ⟨by decide +kernel, rfl⟩
theorem rX8_draw_29 : tq_D cX8_draw 29 (.iinc 4 1) 3 32 := ⟨by decide +kernel, rfl⟩
theorem rX8_draw_32 : tq_J cX8_draw 32 .goto 13 35 := ⟨(-19), by decide +kernel, by decide, rfl⟩
theorem rX8_draw_35 : decode cX8_draw 35 = .ok (.return_, 1) := by decide +kernel
noncomputable def FX8_draw_s13 (I : tq_PI) (L : tq_PL) (a0 : Nat) (a3 : Int32) (a4 : Int32) : Option ((Int32 × tq_PI × tq_PL) ⊕ (tq_PI × tq_PL)) :=
  (if a3 ≤ a4 then some (.inr (I, L)) else ((FX8_below I L a0 ((8 : Int32))).bind fun p3 => ((FX8_actByLot p3.2 L a0 p3.1).bind fun p4 => some (.inl ((a4 + 1), p4.1, p4.2)))))
noncomputable def FX8_draw (I : tq_PI) (L : tq_PL) (a0 : Nat) (a1 : Nat) (a2 : Int32) (a3 : Int32) : Option (tq_PI × tq_PL) :=
  (tq_let (FX8_open I L a0 a1) fun p1 => ((tq_it (fun p : Int32 × tq_PI × tq_PL => FX8_draw_s13 p.2.1 p.2.2 a0 a3 p.1) tq_N ((0 : Int32), (tq_up2 p1.1 a0 10 a2), p1.2)).bind fun p5 => some (p5.1, p5.2)))
set_option maxRecDepth 100000 in
set_option maxHeartbeats 4000000 in
theorem FX8_draw_s13_x {S : Nat × (Nat → Int32)} {d : Nat} {I : tq_PI} {L : tq_PL} {a0 : Nat} {a3 : Int32} {a4 : Int32} (h0 : tq_sh0 a0 = 8) {q0 : Option Value → tq_PI → tq_PL → Prop} {out : (Int32 × tq_PI × tq_PL) ⊕ (tq_PI × tq_PL)} (hf : FX8_draw_s13 I L a0 a3 a4 = some out) (hk : Sum.elim (fun p : Int32 × tq_PI × tq_PL => tq_X S mX8_draw (d + 6) tq_k0 13 ([.ref a0, tq_u, tq_u, .int a3, .int p.1]) [] (tq_st p.2.1 p.2.2) (tq_Q q0)) (fun p : tq_PI × tq_PL => tq_X S mX8_draw (d + 6) tq_k0 35 ([tq_u, tq_u, tq_u, tq_u, tq_u]) [] (tq_st p.1 p.2) (tq_Q q0)) out) : tq_X S mX8_draw (d + 6) tq_k0 13 ([.ref a0, tq_u, tq_u, .int a3, .int a4]) [] (tq_st I L) (tq_Q q0) := by
  unfold FX8_draw_s13 at hf
  refine tq_iload rX8_draw_13 rfl ?_
  refine tq_iload_n rX8_draw_15 rfl ?_
  refine tq_icmp_ge rX8_draw_16 (fun c2 => ?_) (fun c2 => ?_)
  · rw [if_pos c2] at hf
    have hf := Option.some.inj hf
    subst hf
    exact tq_forget _ (tq_le_u (tq_le_u (tq_le_u (tq_le_u (tq_le_u tq_le_n))))) hk
  · rw [if_neg c2] at hf
    refine tq_aload_n rX8_draw_19 rfl ?_
    refine tq_aload_n rX8_draw_20 rfl ?_
    refine tq_bipush (8 : Int32) rX8_draw_21 (by decide) ?_
    obtain ⟨p3, e3, hf⟩ := Option.bind_eq_some_iff.mp hf
    refine ty_callVI p3.1 ([.int (8 : Int32)]) ([.ref a0]) rX8_draw_23 l_X8_69 moX8_below mvX8_below h0 rfl rfl (Nat.le_of_ble_eq_true rfl) ⟨rfl, rfl⟩ (CX8_below h0 e3) ?_
    obtain ⟨p4, e4, hf⟩ := Option.bind_eq_some_iff.mp hf
    refine ty_callVV ([.int p3.1]) ([]) rX8_draw_26 l_X8_73 moX8_actByLot mvX8_actByLot h0 rfl rfl (Nat.le_of_ble_eq_true rfl) ⟨rfl, rfl⟩ (CX8_actByLot h0 e4) ?_
    refine tq_iinc (a4 + 1) ([.ref a0, tq_u, tq_u, .int a3, .int (a4 + 1)]) rX8_draw_29 rfl (tq_inc (by decide)) (Nat.le_of_ble_eq_true rfl) rfl ?_
    refine tq_goto rX8_draw_32 ?_
    have hf := Option.some.inj hf
    subst hf
    exact tq_forget _ (tq_le_s (tq_le_u (tq_le_u (tq_le_s (tq_le_s tq_le_n))))) hk

set_option maxRecDepth 100000 in
set_option maxHeartbeats 4000000 in
theorem CX8_draw {S : Nat × (Nat → Int32)} {d : Nat} {I : tq_PI} {L : tq_PL} {a0 : Nat} {a1 : Nat} {a2 : Int32} {a3 : Int32} (h0 : tq_sh0 a0 = 8) (h1 : tq_sh0 a1 = 3) {out : tq_PI × tq_PL} (hf : FX8_draw I L a0 a1 a2 a3 = some out) : tq_K S mX8_draw (d + 6) [.ref a0, .ref a1, .int a2, .int a3] I L (tq_one2 (none) out.1 out.2) := by
  unfold FX8_draw at hf
  refine tq_K_of (by decide) (Nat.le_of_ble_eq_true rfl) (ls := [.ref a0, .ref a1, .int a2, .int a3, tq_u]) rfl ?_
  refine tq_aload_n rX8_draw_0 rfl ?_
  refine tq_aload_n rX8_draw_1 rfl ?_
  obtain ⟨p1, e1, hf⟩ := tq_let_elim hf
  refine ty_callVV ([.ref a1]) ([]) rX8_draw_2 l_X8_53 moX8_open mvX8_open h0 rfl rfl (Nat.le_of_ble_eq_true rfl) ⟨rfl, rfl⟩ (CX8_open h0 h1 e1) ?_
  refine tq_aload_n rX8_draw_5 rfl ?_
  refine tq_iload_n rX8_draw_6 rfl ?_
  refine ty_putI rX8_draw_7 f_X8_46 rfl h0 rfl ?_
  refine tq_iconst (0 : Int32) rX8_draw_10 (by decide) ?_
  refine tq_istore ([.ref a0, .ref a1, .int a2, .int a3, .int (0 : Int32)]) rX8_draw_11 (Nat.le_of_ble_eq_true rfl) rfl ?_
  obtain ⟨p5, e5, hf⟩ := Option.bind_eq_some_iff.mp hf
  refine tq_forget _ (tq_le_s (tq_le_u (tq_le_u (tq_le_s (tq_le_s tq_le_n))))) ?_
  refine tq_it_elim (P := fun p : Int32 × tq_PI × tq_PL => tq_X S mX8_draw (d + 6) tq_k0 13 ([.ref a0, tq_u, tq_u, .int a3, .int p.1]) [] (tq_st p.2.1 p.2.2) (tq_Q (tq_one2 (none) out.1 out.2))) (R := fun p : tq_PI × tq_PL => tq_X S mX8_draw (d + 6) tq_k0 35 ([tq_u, tq_u, tq_u, tq_u, tq_u]) [] (tq_st p.1 p.2) (tq_Q (tq_one2 (none) out.1 out.2))) (fun p o hp hk => FX8_draw_s13_x  h0 hp hk) _ (((0 : Int32), (tq_up2 p1.1 a0 10 a2), p1.2)) _ e5 ?_
  show tq_X _ _ _ _ _ _ _ _ _
  refine ty_vret rX8_draw_35 rfl rfl ?_
  have hf := Option.some.inj hf
  subst hf
  exact ⟨rfl, rfl, rfl⟩

abbrev mX8_kindAnswer : tq_M := (yX8_kindAnswer, cX8_kindAnswer, 3, (Option.some Jvm.ClassFile.FieldType.int), 0, 0)
theorem moX3_kindOf : tq_mok mX3_kindOf 1 := ⟨tq_sg1 _ (List.mem_of_getElem? (i := 3) rfl), tq_sg3 _ (List.mem_of_getElem? (i := 205) rfl), ⟨by decide, by decide, by decide +kernel⟩, by decide⟩
theorem mvX3_kindOf : 3 < 13 ∧ (tq_cl 3).1 = mX3_kindOf.1.cls ∧ Cond.instanceMethod mX3_kindOf.1 ∈ lw_tbl ∧ Cond.selects mX3_kindOf.1.cls mX3_kindOf.1 mX3_kindOf.1 ∈ lw_tbl := ⟨by decide, rfl, tq_sg3 _ (List.mem_of_getElem? (i := 203) rfl), tq_sg3 _ (List.mem_of_getElem? (i := 204) rfl)⟩
theorem l_X8_157 : tq_lok RX8 157 mX3_kindOf.1 := Or.inl (tq_sg4 _ (List.mem_of_getElem? (i := 106) rfl))
theorem rX8_kindAnswer_0 : tq_D cX8_kindAnswer 0 (.iload_n 1) 1 1 := ⟨by decide +kernel, rfl⟩
theorem rX8_kindAnswer_1 : tq_D cX8_kindAnswer 1 (.bipush 100) 2 3 := ⟨by decide +kernel, rfl⟩
theorem rX8_kindAnswer_3 : tq_J cX8_kindAnswer 3 (.if_icmp .ge) 10 6 := ⟨7, by decide +kernel, by decide, rfl⟩
theorem rX8_kindAnswer_6 : tq_D cX8_kindAnswer 6 (.iconst (-1)) 1 7 := ⟨by decide +kernel, rfl⟩
theorem rX8_kindAnswer_7 : tq_J cX8_kindAnswer 7 .goto 21 10 := ⟨14, by decide +kernel, by decide, rfl⟩
theorem rX8_kindAnswer_10 : tq_D cX8_kindAnswer 10 (.aload_n 0) 1 11 := ⟨by decide +kernel, rfl⟩
theorem rX8_kindAnswer_11 : tq_D cX8_kindAnswer 11 (.getfield 12) 3 14 := ⟨by decide +kernel, rfl⟩
theorem rX8_kindAnswer_14 : tq_D cX8_kindAnswer 14 (.iload_n 1) 1 15 := ⟨by decide +kernel, rfl⟩
theorem rX8_kindAnswer_15 : tq_D cX8_kindAnswer 15 (.bipush 100) 2 17 := ⟨by decide +kernel, rfl⟩
theorem rX8_kindAnswer_17 : tq_D cX8_kindAnswer 17 (.isub) 1 18 := ⟨by decide +kernel, rfl⟩
theorem rX8_kindAnswer_18 : tq_D cX8_kindAnswer 18 (.invokevirtual 157) 3 21 := ⟨by decide +kernel, rfl⟩
theorem rX8_kindAnswer_21 : tq_D cX8_kindAnswer 21 (.istore_n 2) 1 22 := ⟨by decide +kernel, rfl⟩
theorem rX8_kindAnswer_22 : tq_D cX8_kindAnswer 22 (.iload_n 2) 1 23 := ⟨by decide +kernel, rfl⟩
theorem rX8_kindAnswer_23 : tq_D cX8_kindAnswer 23 (.iconst (-1)) 1 24 := ⟨by decide +kernel, rfl⟩
theorem rX8_kindAnswer_24 : tq_J cX8_kindAnswer 24 (.if_icmp .ne) 32 27 := ⟨8, by decide +kernel, by decide, rfl⟩
theorem rX8_kindAnswer_27 : tq_D cX8_kindAnswer 27 (.bipush (-2)) 2 29 := ⟨by decide +kernel, rfl⟩
theorem rX8_kindAnswer_29 : tq_J cX8_kindAnswer 29 .goto 33 32 := ⟨4, by decide +kernel, by decide, rfl⟩
theorem rX8_kindAnswer_32 : tq_D cX8_kindAnswer 32 (.iload_n 2) 1 33 := ⟨by decide +kernel, rfl⟩
theorem rX8_kindAnswer_33 : decode cX8_kindAnswer 33 = .ok (.ireturn, 1) := by decide +kernel
noncomputable def FX8_kindAnswer_j21 (I : tq_PI) (L : tq_PL) (b0 : Int32) : Option (Int32) :=
  (if b0 = (-1 : Int32) then some (-2 : Int32) else some b0)
noncomputable def FX8_kindAnswer (I : tq_PI) (L : tq_PL) (a0 : Nat) (a1 : Int32) : Option (Int32) :=
  (if (100 : Int32) ≤ a1 then ((FX3_kindOf I L ((tq_rg a0 0)) ((a1 - (100 : Int32)))).bind fun p2 => (FX8_kindAnswer_j21 I L p2)) else (FX8_kindAnswer_j21 I L ((-1 : Int32))))
set_option maxRecDepth 100000 in
set_option maxHeartbeats 4000000 in
theorem FX8_kindAnswer_j21_x {S : Nat × (Nat → Int32)} {d : Nat} {I : tq_PI} {L : tq_PL} {b0 : Int32}  {q0 : Option Value → tq_PI → tq_PL → Prop} {out : Int32} (hf : FX8_kindAnswer_j21 I L b0 = some out) (hk : q0 (some (.int out)) I L) : tq_X S mX8_kindAnswer (d + 3) tq_k0 21 ([tq_u, tq_u, tq_u]) ([.int b0]) (tq_st I L) (tq_Q q0) := by
  unfold FX8_kindAnswer_j21 at hf
  refine tq_istore_n ([tq_u, tq_u, .int b0]) rX8_kindAnswer_21 (Nat.le_of_ble_eq_true rfl) rfl ?_
  refine tq_iload_n rX8_kindAnswer_22 rfl ?_
  refine tq_iconst (-1 : Int32) rX8_kindAnswer_23 (by decide) ?_
  refine tq_icmp_ne rX8_kindAnswer_24 (fun c3 => ?_) (fun c3 => ?_)
  · rw [if_neg c3] at hf
    refine tq_iload_n rX8_kindAnswer_32 rfl ?_
    refine ty_iret rX8_kindAnswer_33 rfl rfl ?_
    have hf := Option.some.inj hf
    subst hf
    exact hk
  · rw [if_pos c3] at hf
    refine tq_bipush (-2 : Int32) rX8_kindAnswer_27 (by decide) ?_
    refine tq_goto rX8_kindAnswer_29 ?_
    refine ty_iret rX8_kindAnswer_33 rfl rfl ?_
    have hf := Option.some.inj hf
    subst hf
    exact hk

set_option maxRecDepth 100000 in
set_option maxHeartbeats 4000000 in
theorem CX8_kindAnswer {S : Nat × (Nat → Int32)} {d : Nat} {I : tq_PI} {L : tq_PL} {a0 : Nat} {a1 : Int32} (h0 : tq_sh0 a0 = 8) {out : Int32} (hf : FX8_kindAnswer I L a0 a1 = some out) : tq_K S mX8_kindAnswer (d + 3) [.ref a0, .int a1] I L (tq_one2 (some (.int out)) I L) := by
  unfold FX8_kindAnswer at hf
  refine tq_K_of (by decide) (Nat.le_of_ble_eq_true rfl) (ls := [.ref a0, .int a1, tq_u]) rfl ?_
  refine tq_iload_n rX8_kindAnswer_0 rfl ?_
  refine tq_bipush (100 : Int32) rX8_kindAnswer_1 (by decide) ?_
  refine tq_icmp_ge rX8_kindAnswer_3 (fun c1 => ?_) (fun c1 => ?_)
  · rw [if_pos c1] at hf
    refine tq_aload_n rX8_kindAnswer_10 rfl ?_
    refine ty_getR rX8_kindAnswer_11 f_X8_12 rfl h0 (hp_8_0 h0).1 ?_
    refine tq_iload_n rX8_kindAnswer_14 rfl ?_
    refine tq_bipush (100 : Int32) rX8_kindAnswer_15 (by decide) ?_
    refine tq_isub rX8_kindAnswer_17 ?_
    obtain ⟨p2, e2, hf⟩ := Option.bind_eq_some_iff.mp hf
    refine ty_callVI p2 ([.int (a1 - (100 : Int32))]) ([]) rX8_kindAnswer_18 l_X8_157 moX3_kindOf mvX3_kindOf (hp_8_0 h0).2.1 rfl rfl (Nat.le_of_ble_eq_true rfl) ⟨rfl, rfl⟩ (CX3_kindOf (hp_8_0 h0).2.1 e2) ?_
    exact tq_forget _ (tq_le_u (tq_le_u (tq_le_u tq_le_n))) (FX8_kindAnswer_j21_x   hf ⟨rfl, rfl, rfl⟩)
  · rw [if_neg c1] at hf
    refine tq_iconst (-1 : Int32) rX8_kindAnswer_6 (by decide) ?_
    refine tq_goto rX8_kindAnswer_7 ?_
    exact tq_forget _ (tq_le_u (tq_le_u (tq_le_u tq_le_n))) (FX8_kindAnswer_j21_x   hf ⟨rfl, rfl, rfl⟩)

abbrev mX8_answer : tq_M := (yX8_answer, cX8_answer, 2, (Option.some Jvm.ClassFile.FieldType.int), 0, 0)
theorem moX3_thickness : tq_mok mX3_thickness 1 := ⟨tq_sg1 _ (List.mem_of_getElem? (i := 3) rfl), tq_sg4 _ (List.mem_of_getElem? (i := 100) rfl), ⟨by decide, by decide, by decide +kernel⟩, by decide⟩
theorem mvX3_thickness : 3 < 13 ∧ (tq_cl 3).1 = mX3_thickness.1.cls ∧ Cond.instanceMethod mX3_thickness.1 ∈ lw_tbl ∧ Cond.selects mX3_thickness.1.cls mX3_thickness.1 mX3_thickness.1 ∈ lw_tbl := ⟨by decide, rfl, tq_sg4 _ (List.mem_of_getElem? (i := 98) rfl), tq_sg4 _ (List.mem_of_getElem? (i := 99) rfl)⟩
theorem moX8_kindAnswer : tq_mok mX8_kindAnswer 1 := ⟨tq_sg1 _ (List.mem_of_getElem? (i := 8) rfl), tq_sg4 _ (List.mem_of_getElem? (i := 105) rfl), ⟨by decide, by decide, by decide +kernel⟩, by decide⟩
theorem mvX8_kindAnswer : 8 < 13 ∧ (tq_cl 8).1 = mX8_kindAnswer.1.cls ∧ Cond.instanceMethod mX8_kindAnswer.1 ∈ lw_tbl ∧ Cond.selects mX8_kindAnswer.1.cls mX8_kindAnswer.1 mX8_kindAnswer.1 ∈ lw_tbl := ⟨by decide, rfl, tq_sg4 _ (List.mem_of_getElem? (i := 104) rfl), List.mem_append_left _ (List.mem_map.mpr ⟨_, List.mem_of_getElem? (i := 26) rfl, rfl⟩)⟩
theorem l_X8_148 : tq_lok RX8 148 mX3_thickness.1 := Or.inl (tq_sg4 _ (List.mem_of_getElem? (i := 97) rfl))
theorem l_X8_151 : tq_lok RX8 151 mX3_stones.1 := Or.inl (tq_sg4 _ (List.mem_of_getElem? (i := 101) rfl))
theorem l_X8_154 : tq_lok RX8 154 mX8_kindAnswer.1 := Or.inl (tq_sg4 _ (List.mem_of_getElem? (i := 102) rfl))
theorem rX8_answer_0 : tq_D cX8_answer 0 (.iload_n 1) 1 1 := ⟨by decide +kernel, rfl⟩
theorem rX8_answer_1 : decode cX8_answer 1 = .ok (.tableswitch 103 0 7 #[47, 52, 57, 62, 67, 72, 87, 92], 47) := by decide +kernel
theorem rX8_answer_48 : tq_D cX8_answer 48 (.aload_n 0) 1 49 := ⟨by decide +kernel, rfl⟩
theorem rX8_answer_49 : tq_D cX8_answer 49 (.getfield 18) 3 52 := ⟨by decide +kernel, rfl⟩
theorem rX8_answer_52 : decode cX8_answer 52 = .ok (.ireturn, 1) := by decide +kernel
theorem rX8_answer_53 : tq_D cX8_answer 53 (.aload_n 0) 1 54 := ⟨by decide +kernel, rfl⟩
theorem rX8_answer_54 : tq_D cX8_answer 54 (.getfield 22) 3 57 := ⟨by decide +kernel, rfl⟩
theorem rX8_answer_57 : decode cX8_answer 57 = .ok (.ireturn, 1) := by decide +kernel
theorem rX8_answer_58 : tq_D cX8_answer 58 (.aload_n 0) 1 59 := ⟨by decide +kernel, rfl⟩
theorem rX8_answer_59 : tq_D cX8_answer 59 (.getfield 25) 3 62 := ⟨by decide +kernel, rfl⟩
theorem rX8_answer_62 : decode cX8_answer 62 = .ok (.ireturn, 1) := by decide +kernel
theorem rX8_answer_63 : tq_D cX8_answer 63 (.aload_n 0) 1 64 := ⟨by decide +kernel, rfl⟩
theorem rX8_answer_64 : tq_D cX8_answer 64 (.getfield 28) 3 67 := ⟨by decide +kernel, rfl⟩
theorem rX8_answer_67 : decode cX8_answer 67 = .ok (.ireturn, 1) := by decide +kernel
theorem rX8_answer_68 : tq_D cX8_answer 68 (.aload_n 0) 1 69 := ⟨by decide +kernel, rfl⟩
theorem rX8_answer_69 : tq_D cX8_answer 69 (.getfield 31) 3 72 := ⟨by decide +kernel, rfl⟩
theorem rX8_answer_72 : decode cX8_answer 72 = .ok (.ireturn, 1) := by decide +kernel
theorem rX8_answer_73 : tq_D cX8_answer 73 (.aload_n 0) 1 74 := ⟨by decide +kernel, rfl⟩
theorem rX8_answer_74 : tq_D cX8_answer 74 (.getfield 12) 3 77 := ⟨by decide +kernel, rfl⟩
theorem rX8_answer_77 : tq_D cX8_answer 77 (.aload_n 0) 1 78 := ⟨by decide +kernel, rfl⟩
theorem rX8_answer_78 : tq_D cX8_answer 78 (.getfield 12) 3 81 := ⟨by decide +kernel, rfl⟩
theorem rX8_answer_81 : tq_D cX8_answer 81 (.invokevirtual 119) 3 84 := ⟨by decide +kernel, rfl⟩
theorem rX8_answer_84 : tq_D cX8_answer 84 (.invokevirtual 148) 3 87 := ⟨by decide +kernel, rfl⟩
theorem rX8_answer_87 : decode cX8_answer 87 = .ok (.ireturn, 1) := by decide +kernel
theorem rX8_answer_88 : tq_D cX8_answer 88 (.aload_n 0) 1 89 := ⟨by decide +kernel, rfl⟩
theorem rX8_answer_89 : tq_D cX8_answer 89 (.getfield 34) 3 92 := ⟨by decide +kernel, rfl⟩
theorem rX8_answer_92 : decode cX8_answer 92 = .ok (.ireturn, 1) := by decide +kernel
theorem rX8_answer_93 : tq_D cX8_answer 93 (.aload_n 0) 1 94 := ⟨by decide +kernel, rfl⟩
theorem rX8_answer_94 : tq_D cX8_answer 94 (.getfield 12) 3 97 := ⟨by decide +kernel, rfl⟩
theorem rX8_answer_97 : tq_D cX8_answer 97 (.invokevirtual 151) 3 100 := ⟨by decide +kernel, rfl⟩
theorem rX8_answer_100 : tq_D cX8_answer 100 (.invokestatic 139) 3 103 := ⟨by decide +kernel, rfl⟩
theorem rX8_answer_103 : decode cX8_answer 103 = .ok (.ireturn, 1) := by decide +kernel
theorem rX8_answer_104 : tq_D cX8_answer 104 (.aload_n 0) 1 105 := ⟨by decide +kernel, rfl⟩
theorem rX8_answer_105 : tq_D cX8_answer 105 (.iload_n 1) 1 106 := ⟨by decide +kernel, rfl⟩
theorem rX8_answer_106 : tq_D cX8_answer 106 (.invokevirtual 154) 3 109 := ⟨by decide +kernel, rfl⟩
theorem rX8_answer_109 : decode cX8_answer 109 = .ok (.ireturn, 1) := by decide +kernel
noncomputable def FX8_answer (I : tq_PI) (L : tq_PL) (a0 : Nat) (a1 : Int32) : Option (Int32) :=
  (if a1 = 0 then some (I a0 1) else (if a1 = 1 then some (I a0 2) else (if a1 = 2 then some (I a0 3) else (if a1 = 3 then some (I a0 4) else (if a1 = 4 then some (I a0 5) else (if a1 = 5 then (tq_let (FX3_solid I L ((tq_rg a0 0))) fun p7 => ((FX3_thickness I L ((tq_rg a0 0)) p7).bind fun p8 => some p8)) else (if a1 = 6 then some (I a0 6) else (if a1 = 7 then (tq_let (FX3_stones I L ((tq_rg a0 0))) fun p11 => (tq_let (FJ13_bitCount_95d88 I L p11) fun p12 => some p12)) else ((FX8_kindAnswer I L a0 a1).bind fun p13 => some p13)))))))))
set_option maxRecDepth 100000 in
set_option maxHeartbeats 4000000 in
theorem CX8_answer {S : Nat × (Nat → Int32)} {d : Nat} {I : tq_PI} {L : tq_PL} {a0 : Nat} {a1 : Int32} (h0 : tq_sh0 a0 = 8) {out : Int32} (hf : FX8_answer I L a0 a1 = some out) : tq_K S mX8_answer (d + 5) [.ref a0, .int a1] I L (tq_one2 (some (.int out)) I L) := by
  unfold FX8_answer at hf
  refine tq_K_of (by decide) (Nat.le_of_ble_eq_true rfl) (ls := [.ref a0, .int a1]) rfl ?_
  refine tq_iload_n rX8_answer_0 rfl ?_
  by_cases c1 : a1 = 0
  · rw [if_pos c1] at hf
    refine tq_swIn (tgt := 48) 47 rX8_answer_1 (by rw [c1]; decide) (by rw [c1]; decide) (by rw [c1]; rfl) (by decide) ?_
    refine tq_aload_n rX8_answer_48 rfl ?_
    refine ty_getI rX8_answer_49 f_X8_18 rfl h0 ?_
    refine ty_iret rX8_answer_52 rfl rfl ?_
    have hf := Option.some.inj hf
    subst hf
    exact ⟨rfl, rfl, rfl⟩
  · rw [if_neg c1] at hf
    by_cases c2 : a1 = 1
    · rw [if_pos c2] at hf
      refine tq_swIn (tgt := 53) 52 rX8_answer_1 (by rw [c2]; decide) (by rw [c2]; decide) (by rw [c2]; rfl) (by decide) ?_
      refine tq_aload_n rX8_answer_53 rfl ?_
      refine ty_getI rX8_answer_54 f_X8_22 rfl h0 ?_
      refine ty_iret rX8_answer_57 rfl rfl ?_
      have hf := Option.some.inj hf
      subst hf
      exact ⟨rfl, rfl, rfl⟩
    · rw [if_neg c2] at hf
      by_cases c3 : a1 = 2
      · rw [if_pos c3] at hf
        refine tq_swIn (tgt := 58) 57 rX8_answer_1 (by rw [c3]; decide) (by rw [c3]; decide) (by rw [c3]; rfl) (by decide) ?_
        refine tq_aload_n rX8_answer_58 rfl ?_
        refine ty_getI rX8_answer_59 f_X8_25 rfl h0 ?_
        refine ty_iret rX8_answer_62 rfl rfl ?_
        have hf := Option.some.inj hf
        subst hf
        exact ⟨rfl, rfl, rfl⟩
      · rw [if_neg c3] at hf
        by_cases c4 : a1 = 3
        · rw [if_pos c4] at hf
          refine tq_swIn (tgt := 63) 62 rX8_answer_1 (by rw [c4]; decide) (by rw [c4]; decide) (by rw [c4]; rfl) (by decide) ?_
          refine tq_aload_n rX8_answer_63 rfl ?_
          refine ty_getI rX8_answer_64 f_X8_28 rfl h0 ?_
          refine ty_iret rX8_answer_67 rfl rfl ?_
          have hf := Option.some.inj hf
          subst hf
          exact ⟨rfl, rfl, rfl⟩
        · rw [if_neg c4] at hf
          by_cases c5 : a1 = 4
          · rw [if_pos c5] at hf
            refine tq_swIn (tgt := 68) 67 rX8_answer_1 (by rw [c5]; decide) (by rw [c5]; decide) (by rw [c5]; rfl) (by decide) ?_
            refine tq_aload_n rX8_answer_68 rfl ?_
            refine ty_getI rX8_answer_69 f_X8_31 rfl h0 ?_
            refine ty_iret rX8_answer_72 rfl rfl ?_
            have hf := Option.some.inj hf
            subst hf
            exact ⟨rfl, rfl, rfl⟩
          · rw [if_neg c5] at hf
            by_cases c6 : a1 = 5
            · rw [if_pos c6] at hf
              refine tq_swIn (tgt := 73) 72 rX8_answer_1 (by rw [c6]; decide) (by rw [c6]; decide) (by rw [c6]; rfl) (by decide) ?_
              refine tq_aload_n rX8_answer_73 rfl ?_
              refine ty_getR rX8_answer_74 f_X8_12 rfl h0 (hp_8_0 h0).1 ?_
              refine tq_aload_n rX8_answer_77 rfl ?_
              refine ty_getR rX8_answer_78 f_X8_12 rfl h0 (hp_8_0 h0).1 ?_
              obtain ⟨p7, e7, hf⟩ := tq_let_elim hf
              refine ty_callVJ p7 ([]) ([.ref (tq_rg a0 0)]) rX8_answer_81 l_X8_119 moX3_solid mvX3_solid (hp_8_0 h0).2.1 rfl rfl (Nat.le_of_ble_eq_true rfl) ⟨rfl, rfl⟩ (CX3_solid (hp_8_0 h0).2.1 e7) ?_
              obtain ⟨p8, e8, hf⟩ := Option.bind_eq_some_iff.mp hf
              refine ty_callVI p8 ([.long p7]) ([]) rX8_answer_84 l_X8_148 moX3_thickness mvX3_thickness (hp_8_0 h0).2.1 rfl rfl (Nat.le_of_ble_eq_true rfl) ⟨rfl, rfl⟩ (CX3_thickness (hp_8_0 h0).2.1 e8) ?_
              refine ty_iret rX8_answer_87 rfl rfl ?_
              have hf := Option.some.inj hf
              subst hf
              exact ⟨rfl, rfl, rfl⟩
            · rw [if_neg c6] at hf
              by_cases c9 : a1 = 6
              · rw [if_pos c9] at hf
                refine tq_swIn (tgt := 88) 87 rX8_answer_1 (by rw [c9]; decide) (by rw [c9]; decide) (by rw [c9]; rfl) (by decide) ?_
                refine tq_aload_n rX8_answer_88 rfl ?_
                refine ty_getI rX8_answer_89 f_X8_34 rfl h0 ?_
                refine ty_iret rX8_answer_92 rfl rfl ?_
                have hf := Option.some.inj hf
                subst hf
                exact ⟨rfl, rfl, rfl⟩
              · rw [if_neg c9] at hf
                by_cases c10 : a1 = 7
                · rw [if_pos c10] at hf
                  refine tq_swIn (tgt := 93) 92 rX8_answer_1 (by rw [c10]; decide) (by rw [c10]; decide) (by rw [c10]; rfl) (by decide) ?_
                  refine tq_aload_n rX8_answer_93 rfl ?_
                  refine ty_getR rX8_answer_94 f_X8_12 rfl h0 (hp_8_0 h0).1 ?_
                  obtain ⟨p11, e11, hf⟩ := tq_let_elim hf
                  refine ty_callVJ p11 ([]) ([]) rX8_answer_97 l_X8_151 moX3_stones mvX3_stones (hp_8_0 h0).2.1 rfl rfl (Nat.le_of_ble_eq_true rfl) ⟨rfl, rfl⟩ (CX3_stones (hp_8_0 h0).2.1 e11) ?_
                  obtain ⟨p12, e12, hf⟩ := tq_let_elim hf
                  refine ty_callSI p12 ([.long p11]) ([]) rX8_answer_100 l_X8_139 moJ13_bitCount_95d88 msJ13_bitCount_95d88 rfl rfl (Nat.le_of_ble_eq_true rfl) ⟨rfl, rfl⟩ (CJ13_bitCount_95d88  e12) ?_
                  refine ty_iret rX8_answer_103 rfl rfl ?_
                  have hf := Option.some.inj hf
                  subst hf
                  exact ⟨rfl, rfl, rfl⟩
                · rw [if_neg c10] at hf
                  have c1o := tq_ni (c := 0) c1 (by decide)
                  have c2o := tq_ni (c := 1) c2 (by decide)
                  have c3o := tq_ni (c := 2) c3 (by decide)
                  have c4o := tq_ni (c := 3) c4 (by decide)
                  have c5o := tq_ni (c := 4) c5 (by decide)
                  have c6o := tq_ni (c := 5) c6 (by decide)
                  have c9o := tq_ni (c := 6) c9 (by decide)
                  have c10o := tq_ni (c := 7) c10 (by decide)
                  refine tq_swOut (tgt := 104) rX8_answer_1 (by omega) (by decide) ?_
                  refine tq_aload_n rX8_answer_104 rfl ?_
                  refine tq_iload_n rX8_answer_105 rfl ?_
                  obtain ⟨p13, e13, hf⟩ := Option.bind_eq_some_iff.mp hf
                  refine ty_callVI p13 ([.int a1]) ([]) rX8_answer_106 l_X8_154 moX8_kindAnswer mvX8_kindAnswer h0 rfl rfl (Nat.le_of_ble_eq_true rfl) ⟨rfl, rfl⟩ (CX8_kindAnswer h0 e13) ?_
                  refine ty_iret rX8_answer_109 rfl rfl ?_
                  have hf := Option.some.inj hf
                  subst hf
                  exact ⟨rfl, rfl, rfl⟩

abbrev mX9_plainBlows : tq_M := (yX9_plainBlows, cX9_plainBlows, 3, (Option.some Jvm.ClassFile.FieldType.int), 0, 0)
theorem l_X9_29 : tq_lok RX9 29 mX9_rankOf.1 := Or.inl (tq_sg6 _ (List.mem_of_getElem? (i := 1) rfl))
theorem rX9_plainBlows_0 : tq_D cX9_plainBlows 0 (.iconst 0) 1 1 := ⟨by decide +kernel, rfl⟩
theorem rX9_plainBlows_1 : tq_D cX9_plainBlows 1 (.istore_n 1) 1 2 := ⟨by decide +kernel, rfl⟩
theorem rX9_plainBlows_2 : tq_D cX9_plainBlows 2 (.iconst 0) 1 3 := ⟨by decide +kernel, rfl⟩
theorem rX9_plainBlows_3 : tq_D cX9_plainBlows 3 (.istore_n 2) 1 4 := ⟨by decide +kernel, rfl⟩
theorem rX9_plainBlows_4 : tq_D cX9_plainBlows 4 (.iload_n 2) 1 5 := ⟨by decide +kernel, rfl⟩
theorem rX9_plainBlows_5 : tq_D cX9_plainBlows 5 (.aload_n 0) 1 6 := ⟨by decide +kernel, rfl⟩
theorem rX9_plainBlows_6 : tq_D cX9_plainBlows 6 (.getfield 9) 3 9 := ⟨by decide +kernel, rfl⟩
theorem rX9_plainBlows_9 : tq_J cX9_plainBlows 9 (.if_icmp .ge) 32 12 := ⟨23, by decide +kernel, by decide, rfl⟩
theorem rX9_plainBlows_12 : tq_D cX9_plainBlows 12 (.iload_n 1) 1 13 := ⟨by decide +kernel, rfl⟩
theorem rX9_plainBlows_13 : tq_D cX9_plainBlows 13 (.aload_n 0) 1 14 := ⟨by decide +kernel, rfl⟩
theorem rX9_plainBlows_14 : tq_D cX9_plainBlows 14 (.iload_n 2) 1 15 := ⟨by decide +kernel, rfl⟩
theorem rX9_plainBlows_15 : tq_D cX9_plainBlows 15 (.invokevirtual 29) 3 18 := ⟨by decide +kernel, rfl⟩
theorem rX9_plainBlows_18 : tq_D cX9_plainBlows 18 (.aload_n 0) 1 19 := ⟨by decide +kernel, rfl⟩
theorem rX9_plainBlows_19 : tq_D cX9_plainBlows 19 (.iload_n 2) 1 20 := ⟨by decide +kernel, rfl⟩
theorem rX9_plainBlows_20 : tq_D cX9_plainBlows 20 (.invokevirtual 25) 3 23 := ⟨by decide +kernel, rfl⟩
theorem rX9_plainBlows_23 : tq_D cX9_plainBlows 23 (.imul) 1 24 := ⟨by decide +kernel, rfl⟩
theorem rX9_plainBlows_24 : tq_D cX9_plainBlows 24 (.iadd) 1 25 := ⟨by decide +kernel, rfl⟩
theorem rX9_plainBlows_25 : tq_D cX9_plainBlows 25 (.istore_n 1) 1 26 := ⟨by decide +kernel, rfl⟩
theorem rX9_plainBlows_26 : tq_D cX9_plainBlows 26 (.iinc 2 1) 3 29 := ⟨by decide +kernel, rfl⟩
theorem rX9_plainBlows_29 : tq_J cX9_plainBlows 29 .goto 4 32 := ⟨(-25), by decide +kernel, by decide, rfl⟩
theorem rX9_plainBlows_32 : tq_D cX9_plainBlows 32 (.iload_n 1) 1 33 := ⟨by decide +kernel, rfl⟩
theorem rX9_plainBlows_33 : decode cX9_plainBlows 33 = .ok (.ireturn, 1) := by decide +kernel
noncomputable def FX9_plainBlows_s4 (I : tq_PI) (L : tq_PL) (a0 : Nat) (a1 : Int32) (a2 : Int32) : Option ((Int32 × Int32) ⊕ (Int32)) :=
  (if (I a0 0) ≤ a2 then some (.inr a1) else ((FX9_rankOf I L a0 a2).bind fun p2 => ((FX9_oftenAt I L a0 a2).bind fun p3 => some (.inl ((a1 + (p2 * p3)), (a2 + 1))))))
noncomputable def FX9_plainBlows (I : tq_PI) (L : tq_PL) (a0 : Nat) : Option (Int32) :=
  ((tq_it (fun p : Int32 × Int32 => FX9_plainBlows_s4 I L a0 p.1 p.2) tq_N ((0 : Int32), (0 : Int32))).bind fun p4 => some p4)
set_option maxRecDepth 100000 in
set_option maxHeartbeats 4000000 in
theorem FX9_plainBlows_s4_x {S : Nat × (Nat → Int32)} {d : Nat} {I : tq_PI} {L : tq_PL} {a0 : Nat} {a1 : Int32} {a2 : Int32} (h0 : tq_sh0 a0 = 9) {q0 : Option Value → tq_PI → tq_PL → Prop} {out : (Int32 × Int32) ⊕ (Int32)} (hf : FX9_plainBlows_s4 I L a0 a1 a2 = some out) (hk : Sum.elim (fun p : Int32 × Int32 => tq_X S mX9_plainBlows (d + 2) tq_k0 4 ([.ref a0, .int p.1, .int p.2]) [] (tq_st I L) (tq_Q q0)) (fun p : Int32 => tq_X S mX9_plainBlows (d + 2) tq_k0 32 ([tq_u, .int p, tq_u]) [] (tq_st I L) (tq_Q q0)) out) : tq_X S mX9_plainBlows (d + 2) tq_k0 4 ([.ref a0, .int a1, .int a2]) [] (tq_st I L) (tq_Q q0) := by
  unfold FX9_plainBlows_s4 at hf
  refine tq_iload_n rX9_plainBlows_4 rfl ?_
  refine tq_aload_n rX9_plainBlows_5 rfl ?_
  refine ty_getI rX9_plainBlows_6 f_X9_9 rfl h0 ?_
  refine tq_icmp_ge rX9_plainBlows_9 (fun c1 => ?_) (fun c1 => ?_)
  · rw [if_pos c1] at hf
    have hf := Option.some.inj hf
    subst hf
    exact tq_forget _ (tq_le_u (tq_le_s (tq_le_u tq_le_n))) hk
  · rw [if_neg c1] at hf
    refine tq_iload_n rX9_plainBlows_12 rfl ?_
    refine tq_aload_n rX9_plainBlows_13 rfl ?_
    refine tq_iload_n rX9_plainBlows_14 rfl ?_
    obtain ⟨p2, e2, hf⟩ := Option.bind_eq_some_iff.mp hf
    refine ty_callVI p2 ([.int a2]) ([.int a1]) rX9_plainBlows_15 l_X9_29 moX9_rankOf mvX9_rankOf h0 rfl rfl (Nat.le_of_ble_eq_true rfl) ⟨rfl, rfl⟩ (CX9_rankOf h0 e2) ?_
    refine tq_aload_n rX9_plainBlows_18 rfl ?_
    refine tq_iload_n rX9_plainBlows_19 rfl ?_
    obtain ⟨p3, e3, hf⟩ := Option.bind_eq_some_iff.mp hf
    refine ty_callVI p3 ([.int a2]) ([.int p2, .int a1]) rX9_plainBlows_20 l_X9_25 moX9_oftenAt mvX9_oftenAt h0 rfl rfl (Nat.le_of_ble_eq_true rfl) ⟨rfl, rfl⟩ (CX9_oftenAt h0 e3) ?_
    refine tq_imul rX9_plainBlows_23 ?_
    refine tq_iadd rX9_plainBlows_24 ?_
    refine tq_istore_n ([.ref a0, .int (a1 + (p2 * p3)), .int a2]) rX9_plainBlows_25 (Nat.le_of_ble_eq_true rfl) rfl ?_
    refine tq_iinc (a2 + 1) ([.ref a0, .int (a1 + (p2 * p3)), .int (a2 + 1)]) rX9_plainBlows_26 rfl (tq_inc (by decide)) (Nat.le_of_ble_eq_true rfl) rfl ?_
    refine tq_goto rX9_plainBlows_29 ?_
    have hf := Option.some.inj hf
    subst hf
    exact tq_forget _ (tq_le_s (tq_le_s (tq_le_s tq_le_n))) hk

set_option maxRecDepth 100000 in
set_option maxHeartbeats 4000000 in
theorem CX9_plainBlows {S : Nat × (Nat → Int32)} {d : Nat} {I : tq_PI} {L : tq_PL} {a0 : Nat} (h0 : tq_sh0 a0 = 9) {out : Int32} (hf : FX9_plainBlows I L a0 = some out) : tq_K S mX9_plainBlows (d + 2) [.ref a0] I L (tq_one2 (some (.int out)) I L) := by
  unfold FX9_plainBlows at hf
  refine tq_K_of (by decide) (Nat.le_of_ble_eq_true rfl) (ls := [.ref a0, tq_u, tq_u]) rfl ?_
  refine tq_iconst (0 : Int32) rX9_plainBlows_0 (by decide) ?_
  refine tq_istore_n ([.ref a0, .int (0 : Int32), tq_u]) rX9_plainBlows_1 (Nat.le_of_ble_eq_true rfl) rfl ?_
  refine tq_iconst (0 : Int32) rX9_plainBlows_2 (by decide) ?_
  refine tq_istore_n ([.ref a0, .int (0 : Int32), .int (0 : Int32)]) rX9_plainBlows_3 (Nat.le_of_ble_eq_true rfl) rfl ?_
  obtain ⟨p4, e4, hf⟩ := Option.bind_eq_some_iff.mp hf
  refine tq_forget _ (tq_le_s (tq_le_s (tq_le_s tq_le_n))) ?_
  refine tq_it_elim (P := fun p : Int32 × Int32 => tq_X S mX9_plainBlows (d + 2) tq_k0 4 ([.ref a0, .int p.1, .int p.2]) [] (tq_st I L) (tq_Q (tq_one2 (some (.int out)) I L))) (R := fun p : Int32 => tq_X S mX9_plainBlows (d + 2) tq_k0 32 ([tq_u, .int p, tq_u]) [] (tq_st I L) (tq_Q (tq_one2 (some (.int out)) I L))) (fun p o hp hk => FX9_plainBlows_s4_x  h0 hp hk) _ (((0 : Int32), (0 : Int32))) _ e4 ?_
  show tq_X _ _ _ _ _ _ _ _ _
  refine tq_iload_n rX9_plainBlows_32 rfl ?_
  refine ty_iret rX9_plainBlows_33 rfl rfl ?_
  have hf := Option.some.inj hf
  subst hf
  exact ⟨rfl, rfl, rfl⟩

abbrev mX11_feed : tq_M := (yX11_feed, cX11_feed, 6, (Option.some Jvm.ClassFile.FieldType.int), 0, 0)
theorem moX0_append : tq_mok mX0_append 1 := ⟨tq_sg1 _ (List.mem_of_getElem? (i := 2) rfl), tq_sg2 _ (List.mem_of_getElem? (i := 159) rfl), ⟨by decide, by decide, by decide +kernel⟩, by decide⟩
theorem mvX0_append : 0 < 13 ∧ (tq_cl 0).1 = mX0_append.1.cls ∧ Cond.instanceMethod mX0_append.1 ∈ lw_tbl ∧ Cond.selects mX0_append.1.cls mX0_append.1 mX0_append.1 ∈ lw_tbl := ⟨by decide, rfl, tq_sg2 _ (List.mem_of_getElem? (i := 157) rfl), tq_sg2 _ (List.mem_of_getElem? (i := 158) rfl)⟩
theorem f_X11_10 : tq_fok RX11 10 11 0 := ⟨by decide, by decide, Or.inl (tq_sg2 _ (List.mem_of_getElem? (i := 121) rfl))⟩
theorem f_X11_70 : tq_fok RX11 70 0 1 := ⟨by decide, by decide, Or.inr ⟨_, tq_sg1 _ (List.mem_of_getElem? (i := 142) rfl)⟩⟩
theorem l_X11_74 : tq_lok RX11 74 mX0_append.1 := Or.inl (tq_sg2 _ (List.mem_of_getElem? (i := 156) rfl))
theorem rX11_feed_0 : tq_D cX11_feed 0 (.aload_n 0) 1 1 := ⟨by decide +kernel, rfl⟩
theorem rX11_feed_1 : tq_D cX11_feed 1 (.getfield 10) 3 4 := ⟨by decide +kernel, rfl⟩
theorem rX11_feed_4 : tq_D cX11_feed 4 (.getfield 70) 3 7 := ⟨by decide +kernel, rfl⟩
theorem rX11_feed_7 : tq_D cX11_feed 7 (.sipush 580) 3 10 := ⟨by decide +kernel, rfl⟩
theorem rX11_feed_10 : tq_J cX11_feed 10 (.if_icmp .le) 15 13 := ⟨5, by decide +kernel, by decide, rfl⟩
theorem rX11_feed_13 : tq_D cX11_feed 13 (.iconst (-1)) 1 14 := ⟨by decide +kernel, rfl⟩
theorem rX11_feed_14 : decode cX11_feed 14 = .ok (.ireturn, 1) := by decide +kernel
theorem rX11_feed_15 : tq_D cX11_feed 15 (.aload_n 0) 1 16 := ⟨by decide +kernel, rfl⟩
theorem rX11_feed_16 : tq_D cX11_feed 16 (.getfield 10) 3 19 := ⟨by decide +kernel, rfl⟩
theorem rX11_feed_19 : tq_D cX11_feed 19 (.iload_n 1) 1 20 := ⟨by decide +kernel, rfl⟩
theorem rX11_feed_20 : tq_D cX11_feed 20 (.invokevirtual 74) 3 23 := ⟨by decide +kernel, rfl⟩
theorem rX11_feed_23 : tq_D cX11_feed 23 (.aload_n 0) 1 24 := ⟨by decide +kernel, rfl⟩
theorem rX11_feed_24 : tq_D cX11_feed 24 (.getfield 10) 3 27 := ⟨by decide +kernel, rfl⟩
theorem rX11_feed_27 : tq_D cX11_feed 27 (.iload_n 2) 1 28 := ⟨by decide +kernel, rfl⟩
theorem rX11_feed_28 : tq_D cX11_feed 28 (.invokevirtual 74) 3 31 := ⟨by decide +kernel, rfl⟩
theorem rX11_feed_31 : tq_D cX11_feed 31 (.aload_n 0) 1 32 := ⟨by decide +kernel, rfl⟩
theorem rX11_feed_32 : tq_D cX11_feed 32 (.getfield 10) 3 35 := ⟨by decide +kernel, rfl⟩
theorem rX11_feed_35 : tq_D cX11_feed 35 (.iload_n 3) 1 36 := ⟨by decide +kernel, rfl⟩
theorem rX11_feed_36 : tq_D cX11_feed 36 (.invokevirtual 74) 3 39 := ⟨by decide +kernel, rfl⟩
theorem rX11_feed_39 : tq_D cX11_feed 39 (.aload_n 0) 1 40 := ⟨by decide +kernel, rfl⟩
theorem rX11_feed_40 : tq_D cX11_feed 40 (.getfield 10) 3 43 := ⟨by decide +kernel, rfl⟩
theorem rX11_feed_43 : tq_D cX11_feed 43 (.iload 4) 2 45 := ⟨by decide +kernel, rfl⟩
theorem rX11_feed_45 : tq_D cX11_feed 45 (.invokevirtual 74) 3 48 := ⟨by decide +kernel, rfl⟩
theorem rX11_feed_48 : tq_D cX11_feed 48 (.aload_n 0) 1 49 := ⟨by decide +kernel, rfl⟩
theorem rX11_feed_49 : tq_D cX11_feed 49 (.getfield 10) 3 52 := ⟨by decide +kernel, rfl⟩
theorem rX11_feed_52 : tq_D cX11_feed 52 (.iload 5) 2 54 := ⟨by decide +kernel, rfl⟩
theorem rX11_feed_54 : tq_D cX11_feed 54 (.invokevirtual 74) 3 57 := ⟨by decide +kernel, rfl⟩
theorem rX11_feed_57 : tq_D cX11_feed 57 (.aload_n 0) 1 58 := ⟨by decide +kernel, rfl⟩
theorem rX11_feed_58 : tq_D cX11_feed 58 (.getfield 10) 3 61 := ⟨by decide +kernel, rfl⟩
theorem rX11_feed_61 : tq_D cX11_feed 61 (.getfield 70) 3 64 := ⟨by decide +kernel, rfl⟩
theorem rX11_feed_64 : decode cX11_feed 64 = .ok (.ireturn, 1) := by decide +kernel
noncomputable def FX11_feed (I : tq_PI) (L : tq_PL) (a0 : Nat) (a1 : Int32) (a2 : Int32) (a3 : Int32) (a4 : Int32) (a5 : Int32) : Option (Int32 × tq_PI) :=
  (if (I (tq_rg a0 0) 1) ≤ (580 : Int32) then ((FX0_append I L ((tq_rg a0 0)) a1).bind fun p2 => ((FX0_append p2 L ((tq_rg a0 0)) a2).bind fun p3 => ((FX0_append p3 L ((tq_rg a0 0)) a3).bind fun p4 => ((FX0_append p4 L ((tq_rg a0 0)) a4).bind fun p5 => ((FX0_append p5 L ((tq_rg a0 0)) a5).bind fun p6 => some ((p6 (tq_rg a0 0) 1), p6)))))) else some ((-1 : Int32), I))
set_option maxRecDepth 100000 in
set_option maxHeartbeats 4000000 in
theorem CX11_feed {S : Nat × (Nat → Int32)} {d : Nat} {I : tq_PI} {L : tq_PL} {a0 : Nat} {a1 : Int32} {a2 : Int32} {a3 : Int32} {a4 : Int32} {a5 : Int32} (h0 : tq_sh0 a0 = 11) {out : Int32 × tq_PI} (hf : FX11_feed I L a0 a1 a2 a3 a4 a5 = some out) : tq_K S mX11_feed (d + 1) [.ref a0, .int a1, .int a2, .int a3, .int a4, .int a5] I L (tq_one2 (some (.int out.1)) out.2 L) := by
  unfold FX11_feed at hf
  refine tq_K_of (by decide) (Nat.le_of_ble_eq_true rfl) (ls := [.ref a0, .int a1, .int a2, .int a3, .int a4, .int a5]) rfl ?_
  refine tq_aload_n rX11_feed_0 rfl ?_
  refine ty_getR rX11_feed_1 f_X11_10 rfl h0 (hp_11_0 h0).1 ?_
  refine ty_getI rX11_feed_4 f_X11_70 rfl (hp_11_0 h0).2.1 ?_
  refine tq_sipush (580 : Int32) rX11_feed_7 (by decide) ?_
  refine tq_icmp_le rX11_feed_10 (fun c1 => ?_) (fun c1 => ?_)
  · rw [if_pos c1] at hf
    refine tq_aload_n rX11_feed_15 rfl ?_
    refine ty_getR rX11_feed_16 f_X11_10 rfl h0 (hp_11_0 h0).1 ?_
    refine tq_iload_n rX11_feed_19 rfl ?_
    obtain ⟨p2, e2, hf⟩ := Option.bind_eq_some_iff.mp hf
    refine ty_callVV ([.int a1]) ([]) rX11_feed_20 l_X11_74 moX0_append mvX0_append (hp_11_0 h0).2.1 rfl rfl (Nat.le_of_ble_eq_true rfl) ⟨rfl, rfl⟩ (CX0_append (hp_11_0 h0).2.1 e2) ?_
    refine tq_aload_n rX11_feed_23 rfl ?_
    refine ty_getR rX11_feed_24 f_X11_10 rfl h0 (hp_11_0 h0).1 ?_
    refine tq_iload_n rX11_feed_27 rfl ?_
    obtain ⟨p3, e3, hf⟩ := Option.bind_eq_some_iff.mp hf
    refine ty_callVV ([.int a2]) ([]) rX11_feed_28 l_X11_74 moX0_append mvX0_append (hp_11_0 h0).2.1 rfl rfl (Nat.le_of_ble_eq_true rfl) ⟨rfl, rfl⟩ (CX0_append (hp_11_0 h0).2.1 e3) ?_
    refine tq_aload_n rX11_feed_31 rfl ?_
    refine ty_getR rX11_feed_32 f_X11_10 rfl h0 (hp_11_0 h0).1 ?_
    refine tq_iload_n rX11_feed_35 rfl ?_
    obtain ⟨p4, e4, hf⟩ := Option.bind_eq_some_iff.mp hf
    refine ty_callVV ([.int a3]) ([]) rX11_feed_36 l_X11_74 moX0_append mvX0_append (hp_11_0 h0).2.1 rfl rfl (Nat.le_of_ble_eq_true rfl) ⟨rfl, rfl⟩ (CX0_append (hp_11_0 h0).2.1 e4) ?_
    refine tq_aload_n rX11_feed_39 rfl ?_
    refine ty_getR rX11_feed_40 f_X11_10 rfl h0 (hp_11_0 h0).1 ?_
    refine tq_iload rX11_feed_43 rfl ?_
    obtain ⟨p5, e5, hf⟩ := Option.bind_eq_some_iff.mp hf
    refine ty_callVV ([.int a4]) ([]) rX11_feed_45 l_X11_74 moX0_append mvX0_append (hp_11_0 h0).2.1 rfl rfl (Nat.le_of_ble_eq_true rfl) ⟨rfl, rfl⟩ (CX0_append (hp_11_0 h0).2.1 e5) ?_
    refine tq_aload_n rX11_feed_48 rfl ?_
    refine ty_getR rX11_feed_49 f_X11_10 rfl h0 (hp_11_0 h0).1 ?_
    refine tq_iload rX11_feed_52 rfl ?_
    obtain ⟨p6, e6, hf⟩ := Option.bind_eq_some_iff.mp hf
    refine ty_callVV ([.int a5]) ([]) rX11_feed_54 l_X11_74 moX0_append mvX0_append (hp_11_0 h0).2.1 rfl rfl (Nat.le_of_ble_eq_true rfl) ⟨rfl, rfl⟩ (CX0_append (hp_11_0 h0).2.1 e6) ?_
    refine tq_aload_n rX11_feed_57 rfl ?_
    refine ty_getR rX11_feed_58 f_X11_10 rfl h0 (hp_11_0 h0).1 ?_
    refine ty_getI rX11_feed_61 f_X11_70 rfl (hp_11_0 h0).2.1 ?_
    refine ty_iret rX11_feed_64 rfl rfl ?_
    have hf := Option.some.inj hf
    subst hf
    exact ⟨rfl, rfl, rfl⟩
  · rw [if_neg c1] at hf
    refine tq_iconst (-1 : Int32) rX11_feed_13 (by decide) ?_
    refine ty_iret rX11_feed_14 rfl rfl ?_
    have hf := Option.some.inj hf
    subst hf
    exact ⟨rfl, rfl, rfl⟩

abbrev mX11_end : tq_M := (yX11_end, cX11_end, 2, (Option.some Jvm.ClassFile.FieldType.int), 0, 0)
theorem rX11_end_0 : tq_D cX11_end 0 (.iload_n 1) 1 1 := ⟨by decide +kernel, rfl⟩
theorem rX11_end_1 : tq_J cX11_end 1 (.ifCond .lt) 15 4 := ⟨14, by decide +kernel, by decide, rfl⟩
theorem rX11_end_4 : tq_D cX11_end 4 (.iload_n 1) 1 5 := ⟨by decide +kernel, rfl⟩
theorem rX11_end_5 : tq_D cX11_end 5 (.aload_n 0) 1 6 := ⟨by decide +kernel, rfl⟩
theorem rX11_end_6 : tq_D cX11_end 6 (.getfield 10) 3 9 := ⟨by decide +kernel, rfl⟩
theorem rX11_end_9 : tq_D cX11_end 9 (.getfield 70) 3 12 := ⟨by decide +kernel, rfl⟩
theorem rX11_end_12 : tq_J cX11_end 12 (.if_icmp .le) 17 15 := ⟨5, by decide +kernel, by decide, rfl⟩
theorem rX11_end_15 : tq_D cX11_end 15 (.iconst (-1)) 1 16 := ⟨by decide +kernel, rfl⟩
theorem rX11_end_16 : decode cX11_end 16 = .ok (.ireturn, 1) := by decide +kernel
theorem rX11_end_17 : tq_D cX11_end 17 (.aload_n 0) 1 18 := ⟨by decide +kernel, rfl⟩
theorem rX11_end_18 : tq_D cX11_end 18 (.getfield 10) 3 21 := ⟨by decide +kernel, rfl⟩
theorem rX11_end_21 : tq_D cX11_end 21 (.iload_n 1) 1 22 := ⟨by decide +kernel, rfl⟩
theorem rX11_end_22 : tq_D cX11_end 22 (.putfield 70) 3 25 := ⟨by decide +kernel, rfl⟩
theorem rX11_end_25 : tq_D cX11_end 25 (.iload_n 1) 1 26 := ⟨by decide +kernel, rfl⟩
theorem rX11_end_26 : decode cX11_end 26 = .ok (.ireturn, 1) := by decide +kernel
noncomputable def FX11_end_j15 (I : tq_PI) (L : tq_PL)  : Int32 × tq_PI :=
  ((-1 : Int32), I)
noncomputable def FX11_end (I : tq_PI) (L : tq_PL) (a0 : Nat) (a1 : Int32) : Int32 × tq_PI :=
  (if a1 < 0 then (FX11_end_j15 I L ) else (if a1 ≤ (I (tq_rg a0 0) 1) then (a1, (tq_up2 I (tq_rg a0 0) 1 a1)) else (FX11_end_j15 I L )))
set_option maxRecDepth 100000 in
set_option maxHeartbeats 4000000 in
theorem FX11_end_j15_x {S : Nat × (Nat → Int32)} {d : Nat} {I : tq_PI} {L : tq_PL}   {q0 : Option Value → tq_PI → tq_PL → Prop} {out : Int32 × tq_PI} (hf : FX11_end_j15 I L = out) (hk : q0 (some (.int out.1)) out.2 L) : tq_X S mX11_end d tq_k0 15 ([tq_u, tq_u]) ([]) (tq_st I L) (tq_Q q0) := by
  unfold FX11_end_j15 at hf
  refine tq_iconst (-1 : Int32) rX11_end_15 (by decide) ?_
  refine ty_iret rX11_end_16 rfl rfl ?_
  subst hf
  exact hk

set_option maxRecDepth 100000 in
set_option maxHeartbeats 4000000 in
theorem CX11_end {S : Nat × (Nat → Int32)} {d : Nat} {I : tq_PI} {L : tq_PL} {a0 : Nat} {a1 : Int32} (h0 : tq_sh0 a0 = 11) {out : Int32 × tq_PI} (hf : FX11_end I L a0 a1 = out) : tq_K S mX11_end d [.ref a0, .int a1] I L (tq_one2 (some (.int out.1)) out.2 L) := by
  unfold FX11_end at hf
  refine tq_K_of (by decide) (Nat.le_of_ble_eq_true rfl) (ls := [.ref a0, .int a1]) rfl ?_
  refine tq_iload_n rX11_end_0 rfl ?_
  refine tq_if_lt rX11_end_1 (fun c1 => ?_) (fun c1 => ?_)
  · rw [if_pos c1] at hf
    exact tq_forget _ (tq_le_u (tq_le_u tq_le_n)) (FX11_end_j15_x   hf ⟨rfl, rfl, rfl⟩)
  · rw [if_neg c1] at hf
    refine tq_iload_n rX11_end_4 rfl ?_
    refine tq_aload_n rX11_end_5 rfl ?_
    refine ty_getR rX11_end_6 f_X11_10 rfl h0 (hp_11_0 h0).1 ?_
    refine ty_getI rX11_end_9 f_X11_70 rfl (hp_11_0 h0).2.1 ?_
    refine tq_icmp_le rX11_end_12 (fun c2 => ?_) (fun c2 => ?_)
    · rw [if_pos c2] at hf
      refine tq_aload_n rX11_end_17 rfl ?_
      refine ty_getR rX11_end_18 f_X11_10 rfl h0 (hp_11_0 h0).1 ?_
      refine tq_iload_n rX11_end_21 rfl ?_
      refine ty_putI rX11_end_22 f_X11_70 rfl (hp_11_0 h0).2.1 rfl ?_
      refine tq_iload_n rX11_end_25 rfl ?_
      refine ty_iret rX11_end_26 rfl rfl ?_
      subst hf
      exact ⟨rfl, rfl, rfl⟩
    · rw [if_neg c2] at hf
      exact tq_forget _ (tq_le_u (tq_le_u tq_le_n)) (FX11_end_j15_x   hf ⟨rfl, rfl, rfl⟩)

abbrev mX11_keep : tq_M := (yX11_keep, cX11_keep, 3, (Option.some Jvm.ClassFile.FieldType.int), 0, 0)
theorem moX0_keepHill : tq_mok mX0_keepHill 2 := ⟨tq_sg1 _ (List.mem_of_getElem? (i := 2) rfl), tq_sg3 _ (List.mem_of_getElem? (i := 140) rfl), ⟨by decide, by decide, by decide +kernel⟩, by decide⟩
theorem mvX0_keepHill : 0 < 13 ∧ (tq_cl 0).1 = mX0_keepHill.1.cls ∧ Cond.instanceMethod mX0_keepHill.1 ∈ lw_tbl ∧ Cond.selects mX0_keepHill.1.cls mX0_keepHill.1 mX0_keepHill.1 ∈ lw_tbl := ⟨by decide, rfl, tq_sg3 _ (List.mem_of_getElem? (i := 138) rfl), tq_sg3 _ (List.mem_of_getElem? (i := 139) rfl)⟩
theorem moX0_keepLog : tq_mok mX0_keepLog 2 := ⟨tq_sg1 _ (List.mem_of_getElem? (i := 2) rfl), tq_sg3 _ (List.mem_of_getElem? (i := 162) rfl), ⟨by decide, by decide, by decide +kernel⟩, by decide⟩
theorem mvX0_keepLog : 0 < 13 ∧ (tq_cl 0).1 = mX0_keepLog.1.cls ∧ Cond.instanceMethod mX0_keepLog.1 ∈ lw_tbl ∧ Cond.selects mX0_keepLog.1.cls mX0_keepLog.1 mX0_keepLog.1 ∈ lw_tbl := ⟨by decide, rfl, tq_sg3 _ (List.mem_of_getElem? (i := 160) rfl), tq_sg3 _ (List.mem_of_getElem? (i := 161) rfl)⟩
theorem moX0_keepTalk : tq_mok mX0_keepTalk 2 := ⟨tq_sg1 _ (List.mem_of_getElem? (i := 2) rfl), tq_sg3 _ (List.mem_of_getElem? (i := 171) rfl), ⟨by decide, by decide, by decide +kernel⟩, by decide⟩
theorem mvX0_keepTalk : 0 < 13 ∧ (tq_cl 0).1 = mX0_keepTalk.1.cls ∧ Cond.instanceMethod mX0_keepTalk.1 ∈ lw_tbl ∧ Cond.selects mX0_keepTalk.1.cls mX0_keepTalk.1 mX0_keepTalk.1 ∈ lw_tbl := ⟨by decide, rfl, tq_sg3 _ (List.mem_of_getElem? (i := 169) rfl), tq_sg3 _ (List.mem_of_getElem? (i := 170) rfl)⟩
theorem moX0_keepYear : tq_mok mX0_keepYear 2 := ⟨tq_sg1 _ (List.mem_of_getElem? (i := 2) rfl), tq_sg3 _ (List.mem_of_getElem? (i := 153) rfl), ⟨by decide, by decide, by decide +kernel⟩, by decide⟩
theorem mvX0_keepYear : 0 < 13 ∧ (tq_cl 0).1 = mX0_keepYear.1.cls ∧ Cond.instanceMethod mX0_keepYear.1 ∈ lw_tbl ∧ Cond.selects mX0_keepYear.1.cls mX0_keepYear.1 mX0_keepYear.1 ∈ lw_tbl := ⟨by decide, rfl, tq_sg3 _ (List.mem_of_getElem? (i := 151) rfl), tq_sg3 _ (List.mem_of_getElem? (i := 152) rfl)⟩
theorem f_X11_27 : tq_fok RX11 27 11 3 := ⟨by decide, by decide, Or.inl (tq_sg2 _ (List.mem_of_getElem? (i := 124) rfl))⟩
theorem f_X11_379 : tq_fok RX11 379 7 1 := ⟨by decide, by decide, Or.inr ⟨_, tq_sg1 _ (List.mem_of_getElem? (i := 188) rfl)⟩⟩
theorem f_X11_387 : tq_fok RX11 387 7 2 := ⟨by decide, by decide, Or.inr ⟨_, tq_sg1 _ (List.mem_of_getElem? (i := 190) rfl)⟩⟩
theorem f_X11_395 : tq_fok RX11 395 7 3 := ⟨by decide, by decide, Or.inr ⟨_, tq_sg1 _ (List.mem_of_getElem? (i := 192) rfl)⟩⟩
theorem f_X11_403 : tq_fok RX11 403 7 4 := ⟨by decide, by decide, Or.inr ⟨_, tq_sg1 _ (List.mem_of_getElem? (i := 194) rfl)⟩⟩
theorem l_X11_383 : tq_lok RX11 383 mX0_keepHill.1 := Or.inl (tq_sg3 _ (List.mem_of_getElem? (i := 137) rfl))
theorem l_X11_391 : tq_lok RX11 391 mX0_keepYear.1 := Or.inl (tq_sg3 _ (List.mem_of_getElem? (i := 150) rfl))
theorem l_X11_399 : tq_lok RX11 399 mX0_keepLog.1 := Or.inl (tq_sg3 _ (List.mem_of_getElem? (i := 159) rfl))
theorem l_X11_407 : tq_lok RX11 407 mX0_keepTalk.1 := Or.inl (tq_sg3 _ (List.mem_of_getElem? (i := 168) rfl))
theorem rX11_keep_0 : tq_D cX11_keep 0 (.iload_n 1) 1 1 := ⟨by decide +kernel, rfl⟩
theorem rX11_keep_1 : decode cX11_keep 1 = .ok (.tableswitch 81 0 2 #[27, 45, 63], 27) := by decide +kernel
theorem rX11_keep_28 : tq_D cX11_keep 28 (.aload_n 0) 1 29 := ⟨by decide +kernel, rfl⟩
theorem rX11_keep_29 : tq_D cX11_keep 29 (.getfield 10) 3 32 := ⟨by decide +kernel, rfl⟩
theorem rX11_keep_32 : tq_D cX11_keep 32 (.iload_n 2) 1 33 := ⟨by decide +kernel, rfl⟩
theorem rX11_keep_33 : tq_D cX11_keep 33 (.aload_n 0) 1 34 := ⟨by decide +kernel, rfl⟩
theorem rX11_keep_34 : tq_D cX11_keep 34 (.getfield 27) 3 37 := ⟨by decide +kernel, rfl⟩
theorem rX11_keep_37 : tq_D cX11_keep 37 (.getfield 379) 3 40 := ⟨by decide +kernel, rfl⟩
theorem rX11_keep_40 : tq_D cX11_keep 40 (.invokevirtual 383) 3 43 := ⟨by decide +kernel, rfl⟩
theorem rX11_keep_43 : tq_J cX11_keep 43 .goto 97 46 := ⟨54, by decide +kernel, by decide, rfl⟩
theorem rX11_keep_46 : tq_D cX11_keep 46 (.aload_n 0) 1 47 := ⟨by decide +kernel, rfl⟩
theorem rX11_keep_47 : tq_D cX11_keep 47 (.getfield 10) 3 50 := ⟨by decide +kernel, rfl⟩
theorem rX11_keep_50 : tq_D cX11_keep 50 (.iload_n 2) 1 51 := ⟨by decide +kernel, rfl⟩
theorem rX11_keep_51 : tq_D cX11_keep 51 (.aload_n 0) 1 52 := ⟨by decide +kernel, rfl⟩
theorem rX11_keep_52 : tq_D cX11_keep 52 (.getfield 27) 3 55 := ⟨by decide +kernel, rfl⟩
theorem rX11_keep_55 : tq_D cX11_keep 55 (.getfield 387) 3 58 := ⟨by decide +kernel, rfl⟩
theorem rX11_keep_58 : tq_D cX11_keep 58 (.invokevirtual 391) 3 61 := ⟨by decide +kernel, rfl⟩
theorem rX11_keep_61 : tq_J cX11_keep 61 .goto 97 64 := ⟨36, by decide +kernel, by decide, rfl⟩
theorem rX11_keep_64 : tq_D cX11_keep 64 (.aload_n 0) 1 65 := ⟨by decide +kernel, rfl⟩
theorem rX11_keep_65 : tq_D cX11_keep 65 (.getfield 10) 3 68 := ⟨by decide +kernel, rfl⟩
theorem rX11_keep_68 : tq_D cX11_keep 68 (.iload_n 2) 1 69 := ⟨by decide +kernel, rfl⟩
theorem rX11_keep_69 : tq_D cX11_keep 69 (.aload_n 0) 1 70 := ⟨by decide +kernel, rfl⟩
theorem rX11_keep_70 : tq_D cX11_keep 70 (.getfield 27) 3 73 := ⟨by decide +kernel, rfl⟩
theorem rX11_keep_73 : tq_D cX11_keep 73 (.getfield 395) 3 76 := ⟨by decide +kernel, rfl⟩
theorem rX11_keep_76 : tq_D cX11_keep 76 (.invokevirtual 399) 3 79 := ⟨by decide +kernel, rfl⟩
theorem rX11_keep_79 : tq_J cX11_keep 79 .goto 97 82 := ⟨18, by decide +kernel, by decide, rfl⟩
theorem rX11_keep_82 : tq_D cX11_keep 82 (.aload_n 0) 1 83 := ⟨by decide +kernel, rfl⟩
theorem rX11_keep_83 : tq_D cX11_keep 83 (.getfield 10) 3 86 := ⟨by decide +kernel, rfl⟩
theorem rX11_keep_86 : tq_D cX11_keep 86 (.iload_n 2) 1 87 := ⟨by decide +kernel, rfl⟩
theorem rX11_keep_87 : tq_D cX11_keep 87 (.aload_n 0) 1 88 := ⟨by decide +kernel, rfl⟩
theorem rX11_keep_88 : tq_D cX11_keep 88 (.getfield 27) 3 91 := ⟨by decide +kernel, rfl⟩
theorem rX11_keep_91 : tq_D cX11_keep 91 (.getfield 403) 3 94 := ⟨by decide +kernel, rfl⟩
theorem rX11_keep_94 : tq_D cX11_keep 94 (.invokevirtual 407) 3 97 := ⟨by decide +kernel, rfl⟩
theorem rX11_keep_97 : tq_D cX11_keep 97 (.iload_n 2) 1 98 := ⟨by decide +kernel, rfl⟩
theorem rX11_keep_98 : decode cX11_keep 98 = .ok (.ireturn, 1) := by decide +kernel
noncomputable def FX11_keep_j97 (I : tq_PI) (L : tq_PL) (a2 : Int32) : Option (Int32 × tq_PI × tq_PL) :=
  some (a2, I, L)
noncomputable def FX11_keep (I : tq_PI) (L : tq_PL) (a0 : Nat) (a1 : Int32) (a2 : Int32) : Option (Int32 × tq_PI × tq_PL) :=
  (if a1 = 0 then ((FX0_keepHill I L ((tq_rg a0 0)) a2 ((tq_rg (tq_rg a0 3) 1))).bind fun p2 => (FX11_keep_j97 p2.1 p2.2 a2)) else (if a1 = 1 then ((FX0_keepYear I L ((tq_rg a0 0)) a2 ((tq_rg (tq_rg a0 3) 2))).bind fun p4 => (FX11_keep_j97 p4 L a2)) else (if a1 = 2 then ((FX0_keepLog I L ((tq_rg a0 0)) a2 ((tq_rg (tq_rg a0 3) 3))).bind fun p6 => (FX11_keep_j97 p6 L a2)) else ((FX0_keepTalk I L ((tq_rg a0 0)) a2 ((tq_rg (tq_rg a0 3) 4))).bind fun p7 => (FX11_keep_j97 p7 L a2)))))
set_option maxRecDepth 100000 in
set_option maxHeartbeats 4000000 in
theorem FX11_keep_j97_x {S : Nat × (Nat → Int32)} {d : Nat} {I : tq_PI} {L : tq_PL} {a2 : Int32}  {q0 : Option Value → tq_PI → tq_PL → Prop} {out : Int32 × tq_PI × tq_PL} (hf : FX11_keep_j97 I L a2 = some out) (hk : q0 (some (.int out.1)) out.2.1 out.2.2) : tq_X S mX11_keep (d + 3) tq_k0 97 ([tq_u, tq_u, .int a2]) ([]) (tq_st I L) (tq_Q q0) := by
  unfold FX11_keep_j97 at hf
  refine tq_iload_n rX11_keep_97 rfl ?_
  refine ty_iret rX11_keep_98 rfl rfl ?_
  have hf := Option.some.inj hf
  subst hf
  exact hk

set_option maxRecDepth 100000 in
set_option maxHeartbeats 4000000 in
theorem CX11_keep {S : Nat × (Nat → Int32)} {d : Nat} {I : tq_PI} {L : tq_PL} {a0 : Nat} {a1 : Int32} {a2 : Int32} (h0 : tq_sh0 a0 = 11) {out : Int32 × tq_PI × tq_PL} (hf : FX11_keep I L a0 a1 a2 = some out) : tq_K S mX11_keep (d + 3) [.ref a0, .int a1, .int a2] I L (tq_one2 (some (.int out.1)) out.2.1 out.2.2) := by
  unfold FX11_keep at hf
  refine tq_K_of (by decide) (Nat.le_of_ble_eq_true rfl) (ls := [.ref a0, .int a1, .int a2]) rfl ?_
  refine tq_iload_n rX11_keep_0 rfl ?_
  by_cases c1 : a1 = 0
  · rw [if_pos c1] at hf
    refine tq_swIn (tgt := 28) 27 rX11_keep_1 (by rw [c1]; decide) (by rw [c1]; decide) (by rw [c1]; rfl) (by decide) ?_
    refine tq_aload_n rX11_keep_28 rfl ?_
    refine ty_getR rX11_keep_29 f_X11_10 rfl h0 (hp_11_0 h0).1 ?_
    refine tq_iload_n rX11_keep_32 rfl ?_
    refine tq_aload_n rX11_keep_33 rfl ?_
    refine ty_getR rX11_keep_34 f_X11_27 rfl h0 (hp_11_3 h0).1 ?_
    refine ty_getR rX11_keep_37 f_X11_379 rfl (hp_11_3 h0).2.1 (hp_7_1 (hp_11_3 h0).2.1).1 ?_
    obtain ⟨p2, e2, hf⟩ := Option.bind_eq_some_iff.mp hf
    refine ty_callVV ([.int a2, .ref (tq_rg (tq_rg a0 3) 1)]) ([]) rX11_keep_40 l_X11_383 moX0_keepHill mvX0_keepHill (hp_11_0 h0).2.1 rfl rfl (Nat.le_of_ble_eq_true rfl) ⟨rfl, rfl⟩ (CX0_keepHill (hp_11_0 h0).2.1 (hp_7_1 (hp_11_3 h0).2.1).2.1 e2) ?_
    refine tq_goto rX11_keep_43 ?_
    exact tq_forget _ (tq_le_u (tq_le_u (tq_le_s tq_le_n))) (FX11_keep_j97_x   hf ⟨rfl, rfl, rfl⟩)
  · rw [if_neg c1] at hf
    by_cases c3 : a1 = 1
    · rw [if_pos c3] at hf
      refine tq_swIn (tgt := 46) 45 rX11_keep_1 (by rw [c3]; decide) (by rw [c3]; decide) (by rw [c3]; rfl) (by decide) ?_
      refine tq_aload_n rX11_keep_46 rfl ?_
      refine ty_getR rX11_keep_47 f_X11_10 rfl h0 (hp_11_0 h0).1 ?_
      refine tq_iload_n rX11_keep_50 rfl ?_
      refine tq_aload_n rX11_keep_51 rfl ?_
      refine ty_getR rX11_keep_52 f_X11_27 rfl h0 (hp_11_3 h0).1 ?_
      refine ty_getR rX11_keep_55 f_X11_387 rfl (hp_11_3 h0).2.1 (hp_7_2 (hp_11_3 h0).2.1).1 ?_
      obtain ⟨p4, e4, hf⟩ := Option.bind_eq_some_iff.mp hf
      refine ty_callVV ([.int a2, .ref (tq_rg (tq_rg a0 3) 2)]) ([]) rX11_keep_58 l_X11_391 moX0_keepYear mvX0_keepYear (hp_11_0 h0).2.1 rfl rfl (Nat.le_of_ble_eq_true rfl) ⟨rfl, rfl⟩ (CX0_keepYear (hp_11_0 h0).2.1 (hp_7_2 (hp_11_3 h0).2.1).2.1 e4) ?_
      refine tq_goto rX11_keep_61 ?_
      exact tq_forget _ (tq_le_u (tq_le_u (tq_le_s tq_le_n))) (FX11_keep_j97_x   hf ⟨rfl, rfl, rfl⟩)
    · rw [if_neg c3] at hf
      by_cases c5 : a1 = 2
      · rw [if_pos c5] at hf
        refine tq_swIn (tgt := 64) 63 rX11_keep_1 (by rw [c5]; decide) (by rw [c5]; decide) (by rw [c5]; rfl) (by decide) ?_
        refine tq_aload_n rX11_keep_64 rfl ?_
        refine ty_getR rX11_keep_65 f_X11_10 rfl h0 (hp_11_0 h0).1 ?_
        refine tq_iload_n rX11_keep_68 rfl ?_
        refine tq_aload_n rX11_keep_69 rfl ?_
        refine ty_getR rX11_keep_70 f_X11_27 rfl h0 (hp_11_3 h0).1 ?_
        refine ty_getR rX11_keep_73 f_X11_395 rfl (hp_11_3 h0).2.1 (hp_7_3 (hp_11_3 h0).2.1).1 ?_
        obtain ⟨p6, e6, hf⟩ := Option.bind_eq_some_iff.mp hf
        refine ty_callVV ([.int a2, .ref (tq_rg (tq_rg a0 3) 3)]) ([]) rX11_keep_76 l_X11_399 moX0_keepLog mvX0_keepLog (hp_11_0 h0).2.1 rfl rfl (Nat.le_of_ble_eq_true rfl) ⟨rfl, rfl⟩ (CX0_keepLog (hp_11_0 h0).2.1 (hp_7_3 (hp_11_3 h0).2.1).2.1 e6) ?_
        refine tq_goto rX11_keep_79 ?_
        exact tq_forget _ (tq_le_u (tq_le_u (tq_le_s tq_le_n))) (FX11_keep_j97_x   hf ⟨rfl, rfl, rfl⟩)
      · rw [if_neg c5] at hf
        have c1o := tq_ni (c := 0) c1 (by decide)
        have c3o := tq_ni (c := 1) c3 (by decide)
        have c5o := tq_ni (c := 2) c5 (by decide)
        refine tq_swOut (tgt := 82) rX11_keep_1 (by omega) (by decide) ?_
        refine tq_aload_n rX11_keep_82 rfl ?_
        refine ty_getR rX11_keep_83 f_X11_10 rfl h0 (hp_11_0 h0).1 ?_
        refine tq_iload_n rX11_keep_86 rfl ?_
        refine tq_aload_n rX11_keep_87 rfl ?_
        refine ty_getR rX11_keep_88 f_X11_27 rfl h0 (hp_11_3 h0).1 ?_
        refine ty_getR rX11_keep_91 f_X11_403 rfl (hp_11_3 h0).2.1 (hp_7_4 (hp_11_3 h0).2.1).1 ?_
        obtain ⟨p7, e7, hf⟩ := Option.bind_eq_some_iff.mp hf
        refine ty_callVV ([.int a2, .ref (tq_rg (tq_rg a0 3) 4)]) ([]) rX11_keep_94 l_X11_407 moX0_keepTalk mvX0_keepTalk (hp_11_0 h0).2.1 rfl rfl (Nat.le_of_ble_eq_true rfl) ⟨rfl, rfl⟩ (CX0_keepTalk (hp_11_0 h0).2.1 (hp_7_4 (hp_11_3 h0).2.1).2.1 e7) ?_
        exact tq_forget _ (tq_le_u (tq_le_u (tq_le_s tq_le_n))) (FX11_keep_j97_x   hf ⟨rfl, rfl, rfl⟩)

abbrev mX11_text : tq_M := (yX11_text, cX11_text, 5, (Option.some Jvm.ClassFile.FieldType.int), 0, 0)
theorem moX7_read : tq_mok mX7_read 3 := ⟨tq_sg1 _ (List.mem_of_getElem? (i := 7) rfl), tq_sg2 _ (List.mem_of_getElem? (i := 175) rfl), ⟨by decide, by decide, by decide +kernel⟩, by decide⟩
theorem mvX7_read : 7 < 13 ∧ (tq_cl 7).1 = mX7_read.1.cls ∧ Cond.instanceMethod mX7_read.1 ∈ lw_tbl ∧ Cond.selects mX7_read.1.cls mX7_read.1 mX7_read.1 ∈ lw_tbl := ⟨by decide, rfl, tq_sg2 _ (List.mem_of_getElem? (i := 173) rfl), tq_sg2 _ (List.mem_of_getElem? (i := 174) rfl)⟩
theorem moX11_keep : tq_mok mX11_keep 2 := ⟨tq_sg1 _ (List.mem_of_getElem? (i := 1) rfl), tq_sg3 _ (List.mem_of_getElem? (i := 136) rfl), ⟨by decide, by decide, by decide +kernel⟩, by decide⟩
theorem mvX11_keep : 11 < 13 ∧ (tq_cl 11).1 = mX11_keep.1.cls ∧ Cond.instanceMethod mX11_keep.1 ∈ lw_tbl ∧ Cond.selects mX11_keep.1.cls mX11_keep.1 mX11_keep.1 ∈ lw_tbl := ⟨by decide, rfl, tq_sg3 _ (List.mem_of_getElem? (i := 135) rfl), List.mem_append_left _ (List.mem_map.mpr ⟨_, List.mem_of_getElem? (i := 17) rfl, rfl⟩)⟩
theorem f_X11_78 : tq_fok RX11 78 0 2 := ⟨by decide, by decide, Or.inr ⟨_, tq_sg1 _ (List.mem_of_getElem? (i := 144) rfl)⟩⟩
theorem f_X11_81 : tq_fok RX11 81 0 3 := ⟨by decide, by decide, Or.inr ⟨_, tq_sg1 _ (List.mem_of_getElem? (i := 146) rfl)⟩⟩
theorem f_X11_88 : tq_fok RX11 88 0 0 := ⟨by decide, by decide, Or.inr ⟨_, tq_sg1 _ (List.mem_of_getElem? (i := 140) rfl)⟩⟩
theorem f_X11_96 : tq_fok RX11 96 7 11 := ⟨by decide, by decide, Or.inr ⟨_, tq_sg1 _ (List.mem_of_getElem? (i := 202) rfl)⟩⟩
theorem f_X11_97 : tq_fok RX11 97 7 12 := ⟨by decide, by decide, Or.inr ⟨_, tq_sg1 _ (List.mem_of_getElem? (i := 204) rfl)⟩⟩
theorem l_X11_84 : tq_lok RX11 84 mX0_countOf.1 := Or.inl (tq_sg2 _ (List.mem_of_getElem? (i := 168) rfl))
theorem l_X11_92 : tq_lok RX11 92 mX7_read.1 := Or.inl (tq_sg2 _ (List.mem_of_getElem? (i := 172) rfl))
theorem l_X11_98 : tq_lok RX11 98 mX11_keep.1 := Or.inl (tq_sg3 _ (List.mem_of_getElem? (i := 133) rfl))
theorem rX11_text_0 : tq_D cX11_text 0 (.aload_n 0) 1 1 := ⟨by decide +kernel, rfl⟩
theorem rX11_text_1 : tq_D cX11_text 1 (.getfield 10) 3 4 := ⟨by decide +kernel, rfl⟩
theorem rX11_text_4 : tq_D cX11_text 4 (.getfield 70) 3 7 := ⟨by decide +kernel, rfl⟩
theorem rX11_text_7 : tq_D cX11_text 7 (.istore_n 3) 1 8 := ⟨by decide +kernel, rfl⟩
theorem rX11_text_8 : tq_D cX11_text 8 (.aload_n 0) 1 9 := ⟨by decide +kernel, rfl⟩
theorem rX11_text_9 : tq_D cX11_text 9 (.getfield 10) 3 12 := ⟨by decide +kernel, rfl⟩
theorem rX11_text_12 : tq_D cX11_text 12 (.iconst 0) 1 13 := ⟨by decide +kernel, rfl⟩
theorem rX11_text_13 : tq_D cX11_text 13 (.putfield 70) 3 16 := ⟨by decide +kernel, rfl⟩
theorem rX11_text_16 : tq_D cX11_text 16 (.aload_n 0) 1 17 := ⟨by decide +kernel, rfl⟩
theorem rX11_text_17 : tq_D cX11_text 17 (.getfield 10) 3 20 := ⟨by decide +kernel, rfl⟩
theorem rX11_text_20 : tq_D cX11_text 20 (.iconst 0) 1 21 := ⟨by decide +kernel, rfl⟩
theorem rX11_text_21 : tq_D cX11_text 21 (.putfield 78) 3 24 := ⟨by decide +kernel, rfl⟩
theorem rX11_text_24 : tq_D cX11_text 24 (.aload_n 0) 1 25 := ⟨by decide +kernel, rfl⟩
theorem rX11_text_25 : tq_D cX11_text 25 (.getfield 10) 3 28 := ⟨by decide +kernel, rfl⟩
theorem rX11_text_28 : tq_D cX11_text 28 (.iconst (-1)) 1 29 := ⟨by decide +kernel, rfl⟩
theorem rX11_text_29 : tq_D cX11_text 29 (.putfield 81) 3 32 := ⟨by decide +kernel, rfl⟩
theorem rX11_text_32 : tq_D cX11_text 32 (.aload_n 0) 1 33 := ⟨by decide +kernel, rfl⟩
theorem rX11_text_33 : tq_D cX11_text 33 (.getfield 10) 3 36 := ⟨by decide +kernel, rfl⟩
theorem rX11_text_36 : tq_D cX11_text 36 (.iload_n 1) 1 37 := ⟨by decide +kernel, rfl⟩
theorem rX11_text_37 : tq_D cX11_text 37 (.invokevirtual 84) 3 40 := ⟨by decide +kernel, rfl⟩
theorem rX11_text_40 : tq_D cX11_text 40 (.istore 4) 2 42 := ⟨by decide +kernel, rfl⟩
theorem rX11_text_42 : tq_D cX11_text 42 (.iload_n 1) 1 43 := ⟨by decide +kernel, rfl⟩
theorem rX11_text_43 : tq_J cX11_text 43 (.ifCond .lt) 73 46 := ⟨30, by decide +kernel, by decide, rfl⟩
theorem rX11_text_46 : tq_D cX11_text 46 (.iload_n 1) 1 47 := ⟨by decide +kernel, rfl⟩
theorem rX11_text_47 : tq_D cX11_text 47 (.iconst 4) 1 48 := ⟨by decide +kernel, rfl⟩
theorem rX11_text_48 : tq_J cX11_text 48 (.if_icmp .ge) 73 51 := ⟨25, by decide +kernel, by decide, rfl⟩
theorem rX11_text_51 : tq_D cX11_text 51 (.iload_n 2) 1 52 := ⟨by decide +kernel, rfl⟩
theorem rX11_text_52 : tq_D cX11_text 52 (.iconst (-1)) 1 53 := ⟨by decide +kernel, rfl⟩
theorem rX11_text_53 : tq_J cX11_text 53 (.if_icmp .lt) 73 56 := ⟨20, by decide +kernel, by decide, rfl⟩
theorem rX11_text_56 : tq_D cX11_text 56 (.iload_n 2) 1 57 := ⟨by decide +kernel, rfl⟩
theorem rX11_text_57 : tq_D cX11_text 57 (.iload 4) 2 59 := ⟨by decide +kernel, rfl⟩
theorem rX11_text_59 : tq_J cX11_text 59 (.if_icmp .ge) 73 62 := ⟨14, by decide +kernel, by decide, rfl⟩
theorem rX11_text_62 : tq_D cX11_text 62 (.iload_n 2) 1 63 := ⟨by decide +kernel, rfl⟩
theorem rX11_text_63 : tq_D cX11_text 63 (.iconst (-1)) 1 64 := ⟨by decide +kernel, rfl⟩
theorem rX11_text_64 : tq_J cX11_text 64 (.if_icmp .ne) 76 67 := ⟨12, by decide +kernel, by decide, rfl⟩
theorem rX11_text_67 : tq_D cX11_text 67 (.iload 4) 2 69 := ⟨by decide +kernel, rfl⟩
theorem rX11_text_69 : tq_D cX11_text 69 (.iconst 2) 1 70 := ⟨by decide +kernel, rfl⟩
theorem rX11_text_70 : tq_J cX11_text 70 (.if_icmp .lt) 76 73 := ⟨6, by decide +kernel, by decide, rfl⟩
theorem rX11_text_73 : tq_D cX11_text 73 (.bipush (-2)) 2 75 := ⟨by decide +kernel, rfl⟩
theorem rX11_text_75 : decode cX11_text 75 = .ok (.ireturn, 1) := by decide +kernel
theorem rX11_text_76 : tq_D cX11_text 76 (.aload_n 0) 1 77 := ⟨by decide +kernel, rfl⟩
theorem rX11_text_77 : tq_D cX11_text 77 (.getfield 27) 3 80 := ⟨by decide +kernel, rfl⟩
theorem rX11_text_80 : tq_D cX11_text 80 (.aload_n 0) 1 81 := ⟨by decide +kernel, rfl⟩
theorem rX11_text_81 : tq_D cX11_text 81 (.getfield 10) 3 84 := ⟨by decide +kernel, rfl⟩
theorem rX11_text_84 : tq_D cX11_text 84 (.getfield 88) 3 87 := ⟨by decide +kernel, rfl⟩
theorem rX11_text_87 : tq_D cX11_text 87 (.iload_n 3) 1 88 := ⟨by decide +kernel, rfl⟩
theorem rX11_text_88 : tq_D cX11_text 88 (.iload_n 1) 1 89 := ⟨by decide +kernel, rfl⟩
theorem rX11_text_89 : tq_D cX11_text 89 (.invokevirtual 92) 3 92 := ⟨by decide +kernel, rfl⟩
theorem rX11_text_92 : tq_D cX11_text 92 (.aload_n 0) 1 93 := ⟨by decide +kernel, rfl⟩
theorem rX11_text_93 : tq_D cX11_text 93 (.getfield 10) 3 96 := ⟨by decide +kernel, rfl⟩
theorem rX11_text_96 : tq_D cX11_text 96 (.aload_n 0) 1 97 := ⟨by decide +kernel, rfl⟩
theorem rX11_text_97 : tq_D cX11_text 97 (.getfield 27) 3 100 := ⟨by decide +kernel, rfl⟩
theorem rX11_text_100 : tq_D cX11_text 100 (.getfield 96) 3 103 := ⟨by decide +kernel, rfl⟩
theorem rX11_text_103 : tq_D cX11_text 103 (.putfield 78) 3 106 := ⟨by decide +kernel, rfl⟩
theorem rX11_text_106 : tq_D cX11_text 106 (.aload_n 0) 1 107 := ⟨by decide +kernel, rfl⟩
theorem rX11_text_107 : tq_D cX11_text 107 (.getfield 10) 3 110 := ⟨by decide +kernel, rfl⟩
theorem rX11_text_110 : tq_D cX11_text 110 (.aload_n 0) 1 111 := ⟨by decide +kernel, rfl⟩
theorem rX11_text_111 : tq_D cX11_text 111 (.getfield 27) 3 114 := ⟨by decide +kernel, rfl⟩
theorem rX11_text_114 : tq_D cX11_text 114 (.getfield 97) 3 117 := ⟨by decide +kernel, rfl⟩
theorem rX11_text_117 : tq_D cX11_text 117 (.putfield 81) 3 120 := ⟨by decide +kernel, rfl⟩
theorem rX11_text_120 : tq_D cX11_text 120 (.aload_n 0) 1 121 := ⟨by decide +kernel, rfl⟩
theorem rX11_text_121 : tq_D cX11_text 121 (.getfield 27) 3 124 := ⟨by decide +kernel, rfl⟩
theorem rX11_text_124 : tq_D cX11_text 124 (.getfield 96) 3 127 := ⟨by decide +kernel, rfl⟩
theorem rX11_text_127 : tq_J cX11_text 127 (.ifCond .eq) 132 130 := ⟨5, by decide +kernel, by decide, rfl⟩
theorem rX11_text_130 : tq_D cX11_text 130 (.iconst (-1)) 1 131 := ⟨by decide +kernel, rfl⟩
theorem rX11_text_131 : decode cX11_text 131 = .ok (.ireturn, 1) := by decide +kernel
theorem rX11_text_132 : tq_D cX11_text 132 (.aload_n 0) 1 133 := ⟨by decide +kernel, rfl⟩
theorem rX11_text_133 : tq_D cX11_text 133 (.iload_n 1) 1 134 := ⟨by decide +kernel, rfl⟩
theorem rX11_text_134 : tq_D cX11_text 134 (.iload_n 2) 1 135 := ⟨by decide +kernel, rfl⟩
theorem rX11_text_135 : tq_D cX11_text 135 (.iconst (-1)) 1 136 := ⟨by decide +kernel, rfl⟩
theorem rX11_text_136 : tq_J cX11_text 136 (.if_icmp .ne) 144 139 := ⟨8, by decide +kernel, by decide, rfl⟩
theorem rX11_text_139 : tq_D cX11_text 139 (.iload 4) 2 141 := ⟨by decide +kernel, rfl⟩
theorem rX11_text_141 : tq_J cX11_text 141 .goto 145 144 := ⟨4, by decide +kernel, by decide, rfl⟩
theorem rX11_text_144 : tq_D cX11_text 144 (.iload_n 2) 1 145 := ⟨by decide +kernel, rfl⟩
theorem rX11_text_145 : tq_D cX11_text 145 (.invokevirtual 98) 3 148 := ⟨by decide +kernel, rfl⟩
theorem rX11_text_148 : decode cX11_text 148 = .ok (.ireturn, 1) := by decide +kernel
noncomputable def FX11_text_j73 (I : tq_PI) (L : tq_PL)  : Option (Int32 × tq_PI × tq_PL) :=
  some ((-2 : Int32), I, L)
noncomputable def FX11_text_j145 (I : tq_PI) (L : tq_PL) (b0 : Int32) (b1 : Int32) (b2 : Nat) : Option (Int32 × tq_PI × tq_PL) :=
  ((FX11_keep I L b2 b1 b0).bind fun p10 => some (p10.1, p10.2.1, p10.2.2))
noncomputable def FX11_text_j76 (I : tq_PI) (L : tq_PL) (a0 : Nat) (a1 : Int32) (a2 : Int32) (a3 : Int32) (a4 : Int32) : Option (Int32 × tq_PI × tq_PL) :=
  ((FX7_read I L ((tq_rg a0 3)) ((tq_rg (tq_rg a0 0) 0)) a3 a1).bind fun p7 => (if (((tq_up2 (tq_up2 p7.1 (tq_rg a0 0) 2 (p7.1 (tq_rg a0 3) 11)) (tq_rg a0 0) 3 (((tq_up2 p7.1 (tq_rg a0 0) 2 (p7.1 (tq_rg a0 3) 11))) (tq_rg a0 3) 12))) (tq_rg a0 3) 11) = 0 then (if a2 = (-1 : Int32) then (FX11_text_j145 ((tq_up2 (tq_up2 p7.1 (tq_rg a0 0) 2 (p7.1 (tq_rg a0 3) 11)) (tq_rg a0 0) 3 (((tq_up2 p7.1 (tq_rg a0 0) 2 (p7.1 (tq_rg a0 3) 11))) (tq_rg a0 3) 12))) p7.2 a4 a1 a0) else (FX11_text_j145 ((tq_up2 (tq_up2 p7.1 (tq_rg a0 0) 2 (p7.1 (tq_rg a0 3) 11)) (tq_rg a0 0) 3 (((tq_up2 p7.1 (tq_rg a0 0) 2 (p7.1 (tq_rg a0 3) 11))) (tq_rg a0 3) 12))) p7.2 a2 a1 a0)) else some ((-1 : Int32), (tq_up2 (tq_up2 p7.1 (tq_rg a0 0) 2 (p7.1 (tq_rg a0 3) 11)) (tq_rg a0 0) 3 (((tq_up2 p7.1 (tq_rg a0 0) 2 (p7.1 (tq_rg a0 3) 11))) (tq_rg a0 3) 12)), p7.2)))
noncomputable def FX11_text (I : tq_PI) (L : tq_PL) (a0 : Nat) (a1 : Int32) (a2 : Int32) : Option (Int32 × tq_PI × tq_PL) :=
  ((FX0_countOf ((tq_up2 (tq_up2 (tq_up2 I (tq_rg a0 0) 1 (0 : Int32)) (tq_rg a0 0) 2 (0 : Int32)) (tq_rg a0 0) 3 (-1 : Int32))) L ((tq_rg a0 0)) a1).bind fun p1 => (if a1 < 0 then (FX11_text_j73 ((tq_up2 (tq_up2 (tq_up2 I (tq_rg a0 0) 1 (0 : Int32)) (tq_rg a0 0) 2 (0 : Int32)) (tq_rg a0 0) 3 (-1 : Int32))) L ) else (if (4 : Int32) ≤ a1 then (FX11_text_j73 ((tq_up2 (tq_up2 (tq_up2 I (tq_rg a0 0) 1 (0 : Int32)) (tq_rg a0 0) 2 (0 : Int32)) (tq_rg a0 0) 3 (-1 : Int32))) L ) else (if a2 < (-1 : Int32) then (FX11_text_j73 ((tq_up2 (tq_up2 (tq_up2 I (tq_rg a0 0) 1 (0 : Int32)) (tq_rg a0 0) 2 (0 : Int32)) (tq_rg a0 0) 3 (-1 : Int32))) L ) else (if p1 ≤ a2 then (FX11_text_j73 ((tq_up2 (tq_up2 (tq_up2 I (tq_rg a0 0) 1 (0 : Int32)) (tq_rg a0 0) 2 (0 : Int32)) (tq_rg a0 0) 3 (-1 : Int32))) L ) else (if a2 = (-1 : Int32) then (if p1 < (2 : Int32) then (FX11_text_j76 ((tq_up2 (tq_up2 (tq_up2 I (tq_rg a0 0) 1 (0 : Int32)) (tq_rg a0 0) 2 (0 : Int32)) (tq_rg a0 0) 3 (-1 : Int32))) L a0 a1 a2 ((I (tq_rg a0 0) 1)) p1) else (FX11_text_j73 ((tq_up2 (tq_up2 (tq_up2 I (tq_rg a0 0) 1 (0 : Int32)) (tq_rg a0 0) 2 (0 : Int32)) (tq_rg a0 0) 3 (-1 : Int32))) L )) else (FX11_text_j76 ((tq_up2 (tq_up2 (tq_up2 I (tq_rg a0 0) 1 (0 : Int32)) (tq_rg a0 0) 2 (0 : Int32)) (tq_rg a0 0) 3 (-1 : Int32))) L a0 a1 a2 ((I (tq_rg a0 0) 1)) p1)))))))
set_option maxRecDepth 100000 in
set_option maxHeartbeats 4000000 in
theorem FX11_text_j73_x {S : Nat × (Nat → Int32)} {d : Nat} {I : tq_PI} {L : tq_PL}   {q0 : Option Value → tq_PI → tq_PL → Prop} {out : Int32 × tq_PI × tq_PL} (hf : FX11_text_j73 I L = some out) (hk : q0 (some (.int out.1)) out.2.1 out.2.2) : tq_X S mX11_text (d + 8) tq_k0 73 ([tq_u, tq_u, tq_u, tq_u, tq_u]) ([]) (tq_st I L) (tq_Q q0) := by
  unfold FX11_text_j73 at hf
  refine tq_bipush (-2 : Int32) rX11_text_73 (by decide) ?_
  refine ty_iret rX11_text_75 rfl rfl ?_
  have hf := Option.some.inj hf
  subst hf
  exact hk

set_option maxRecDepth 100000 in
set_option maxHeartbeats 4000000 in
theorem FX11_text_j145_x {S : Nat × (Nat → Int32)} {d : Nat} {I : tq_PI} {L : tq_PL} {b0 : Int32} {b1 : Int32} {b2 : Nat} (k2 : tq_sh0 b2 = 11) {q0 : Option Value → tq_PI → tq_PL → Prop} {out : Int32 × tq_PI × tq_PL} (hf : FX11_text_j145 I L b0 b1 b2 = some out) (hk : q0 (some (.int out.1)) out.2.1 out.2.2) : tq_X S mX11_text (d + 8) tq_k0 145 ([tq_u, tq_u, tq_u, tq_u, tq_u]) ([.int b0, .int b1, .ref b2]) (tq_st I L) (tq_Q q0) := by
  unfold FX11_text_j145 at hf
  obtain ⟨p10, e10, hf⟩ := Option.bind_eq_some_iff.mp hf
  refine ty_callVI p10.1 ([.int b1, .int b0]) ([]) rX11_text_145 l_X11_98 moX11_keep mvX11_keep k2 rfl rfl (Nat.le_of_ble_eq_true rfl) ⟨rfl, rfl⟩ (CX11_keep k2 e10) ?_
  refine ty_iret rX11_text_148 rfl rfl ?_
  have hf := Option.some.inj hf
  subst hf
  exact hk

set_option maxRecDepth 100000 in
set_option maxHeartbeats 4000000 in
theorem FX11_text_j76_x {S : Nat × (Nat → Int32)} {d : Nat} {I : tq_PI} {L : tq_PL} {a0 : Nat} {a1 : Int32} {a2 : Int32} {a3 : Int32} {a4 : Int32} (h0 : tq_sh0 a0 = 11) {q0 : Option Value → tq_PI → tq_PL → Prop} {out : Int32 × tq_PI × tq_PL} (hf : FX11_text_j76 I L a0 a1 a2 a3 a4 = some out) (hk : q0 (some (.int out.1)) out.2.1 out.2.2) : tq_X S mX11_text (d + 8) tq_k0 76 ([.ref a0, .int a1, .int a2, .int a3, .int a4]) ([]) (tq_st I L) (tq_Q q0) := by
  unfold FX11_text_j76 at hf
  refine tq_aload_n rX11_text_76 rfl ?_
  refine ty_getR rX11_text_77 f_X11_27 rfl h0 (hp_11_3 h0).1 ?_
  refine tq_aload_n rX11_text_80 rfl ?_
  refine ty_getR rX11_text_81 f_X11_10 rfl h0 (hp_11_0 h0).1 ?_
  refine ty_getR rX11_text_84 f_X11_88 rfl (hp_11_0 h0).2.1 (hp_0_0 (hp_11_0 h0).2.1).1 ?_
  refine tq_iload_n rX11_text_87 rfl ?_
  refine tq_iload_n rX11_text_88 rfl ?_
  obtain ⟨p7, e7, hf⟩ := Option.bind_eq_some_iff.mp hf
  refine ty_callVV ([.ref (tq_rg (tq_rg a0 0) 0), .int a3, .int a1]) ([]) rX11_text_89 l_X11_92 moX7_read mvX7_read (hp_11_3 h0).2.1 rfl rfl (Nat.le_of_ble_eq_true rfl) ⟨rfl, rfl⟩ (CX7_read (hp_11_3 h0).2.1 (hp_0_0 (hp_11_0 h0).2.1).2.1 (hp_0_0 (hp_11_0 h0).2.1).2.2 e7) ?_
  refine tq_aload_n rX11_text_92 rfl ?_
  refine ty_getR rX11_text_93 f_X11_10 rfl h0 (hp_11_0 h0).1 ?_
  refine tq_aload_n rX11_text_96 rfl ?_
  refine ty_getR rX11_text_97 f_X11_27 rfl h0 (hp_11_3 h0).1 ?_
  refine ty_getI rX11_text_100 f_X11_96 rfl (hp_11_3 h0).2.1 ?_
  refine ty_putI rX11_text_103 f_X11_78 rfl (hp_11_0 h0).2.1 rfl ?_
  refine tq_aload_n rX11_text_106 rfl ?_
  refine ty_getR rX11_text_107 f_X11_10 rfl h0 (hp_11_0 h0).1 ?_
  refine tq_aload_n rX11_text_110 rfl ?_
  refine ty_getR rX11_text_111 f_X11_27 rfl h0 (hp_11_3 h0).1 ?_
  refine ty_getI rX11_text_114 f_X11_97 rfl (hp_11_3 h0).2.1 ?_
  refine ty_putI rX11_text_117 f_X11_81 rfl (hp_11_0 h0).2.1 rfl ?_
  refine tq_aload_n rX11_text_120 rfl ?_
  refine ty_getR rX11_text_121 f_X11_27 rfl h0 (hp_11_3 h0).1 ?_
  refine ty_getI rX11_text_124 f_X11_96 rfl (hp_11_3 h0).2.1 ?_
  refine tq_if_eq rX11_text_127 (fun c8 => ?_) (fun c8 => ?_)
  · rw [if_pos c8] at hf
    refine tq_aload_n rX11_text_132 rfl ?_
    refine tq_iload_n rX11_text_133 rfl ?_
    refine tq_iload_n rX11_text_134 rfl ?_
    refine tq_iconst (-1 : Int32) rX11_text_135 (by decide) ?_
    refine tq_icmp_ne rX11_text_136 (fun c9 => ?_) (fun c9 => ?_)
    · rw [if_neg c9] at hf
      refine tq_iload_n rX11_text_144 rfl ?_
      exact tq_forget _ (tq_le_u (tq_le_u (tq_le_u (tq_le_u (tq_le_u tq_le_n))))) (FX11_text_j145_x  h0 hf hk)
    · rw [if_pos c9] at hf
      refine tq_iload rX11_text_139 rfl ?_
      refine tq_goto rX11_text_141 ?_
      exact tq_forget _ (tq_le_u (tq_le_u (tq_le_u (tq_le_u (tq_le_u tq_le_n))))) (FX11_text_j145_x  h0 hf hk)
  · rw [if_neg c8] at hf
    refine tq_iconst (-1 : Int32) rX11_text_130 (by decide) ?_
    refine ty_iret rX11_text_131 rfl rfl ?_
    have hf := Option.some.inj hf
    subst hf
    exact hk

set_option maxRecDepth 100000 in
set_option maxHeartbeats 4000000 in
theorem CX11_text {S : Nat × (Nat → Int32)} {d : Nat} {I : tq_PI} {L : tq_PL} {a0 : Nat} {a1 : Int32} {a2 : Int32} (h0 : tq_sh0 a0 = 11) {out : Int32 × tq_PI × tq_PL} (hf : FX11_text I L a0 a1 a2 = some out) : tq_K S mX11_text (d + 8) [.ref a0, .int a1, .int a2] I L (tq_one2 (some (.int out.1)) out.2.1 out.2.2) := by
  unfold FX11_text at hf
  refine tq_K_of (by decide) (Nat.le_of_ble_eq_true rfl) (ls := [.ref a0, .int a1, .int a2, tq_u, tq_u]) rfl ?_
  refine tq_aload_n rX11_text_0 rfl ?_
  refine ty_getR rX11_text_1 f_X11_10 rfl h0 (hp_11_0 h0).1 ?_
  refine ty_getI rX11_text_4 f_X11_70 rfl (hp_11_0 h0).2.1 ?_
  refine tq_istore_n ([.ref a0, .int a1, .int a2, .int (I (tq_rg a0 0) 1), tq_u]) rX11_text_7 (Nat.le_of_ble_eq_true rfl) rfl ?_
  refine tq_aload_n rX11_text_8 rfl ?_
  refine ty_getR rX11_text_9 f_X11_10 rfl h0 (hp_11_0 h0).1 ?_
  refine tq_iconst (0 : Int32) rX11_text_12 (by decide) ?_
  refine ty_putI rX11_text_13 f_X11_70 rfl (hp_11_0 h0).2.1 rfl ?_
  refine tq_aload_n rX11_text_16 rfl ?_
  refine ty_getR rX11_text_17 f_X11_10 rfl h0 (hp_11_0 h0).1 ?_
  refine tq_iconst (0 : Int32) rX11_text_20 (by decide) ?_
  refine ty_putI rX11_text_21 f_X11_78 rfl (hp_11_0 h0).2.1 rfl ?_
  refine tq_aload_n rX11_text_24 rfl ?_
  refine ty_getR rX11_text_25 f_X11_10 rfl h0 (hp_11_0 h0).1 ?_
  refine tq_iconst (-1 : Int32) rX11_text_28 (by decide) ?_
  refine ty_putI rX11_text_29 f_X11_81 rfl (hp_11_0 h0).2.1 rfl ?_
  refine tq_aload_n rX11_text_32 rfl ?_
  refine ty_getR rX11_text_33 f_X11_10 rfl h0 (hp_11_0 h0).1 ?_
  refine tq_iload_n rX11_text_36 rfl ?_
  obtain ⟨p1, e1, hf⟩ := Option.bind_eq_some_iff.mp hf
  refine ty_callVI p1 ([.int a1]) ([]) rX11_text_37 l_X11_84 moX0_countOf mvX0_countOf (hp_11_0 h0).2.1 rfl rfl (Nat.le_of_ble_eq_true rfl) ⟨rfl, rfl⟩ (CX0_countOf (hp_11_0 h0).2.1 e1) ?_
  refine tq_istore ([.ref a0, .int a1, .int a2, .int (I (tq_rg a0 0) 1), .int p1]) rX11_text_40 (Nat.le_of_ble_eq_true rfl) rfl ?_
  refine tq_iload_n rX11_text_42 rfl ?_
  refine tq_if_lt rX11_text_43 (fun c2 => ?_) (fun c2 => ?_)
  · rw [if_pos c2] at hf
    exact tq_forget _ (tq_le_u (tq_le_u (tq_le_u (tq_le_u (tq_le_u tq_le_n))))) (FX11_text_j73_x   hf ⟨rfl, rfl, rfl⟩)
  · rw [if_neg c2] at hf
    refine tq_iload_n rX11_text_46 rfl ?_
    refine tq_iconst (4 : Int32) rX11_text_47 (by decide) ?_
    refine tq_icmp_ge rX11_text_48 (fun c3 => ?_) (fun c3 => ?_)
    · rw [if_pos c3] at hf
      exact tq_forget _ (tq_le_u (tq_le_u (tq_le_u (tq_le_u (tq_le_u tq_le_n))))) (FX11_text_j73_x   hf ⟨rfl, rfl, rfl⟩)
    · rw [if_neg c3] at hf
      refine tq_iload_n rX11_text_51 rfl ?_
      refine tq_iconst (-1 : Int32) rX11_text_52 (by decide) ?_
      refine tq_icmp_lt rX11_text_53 (fun c4 => ?_) (fun c4 => ?_)
      · rw [if_pos c4] at hf
        exact tq_forget _ (tq_le_u (tq_le_u (tq_le_u (tq_le_u (tq_le_u tq_le_n))))) (FX11_text_j73_x   hf ⟨rfl, rfl, rfl⟩)
      · rw [if_neg c4] at hf
        refine tq_iload_n rX11_text_56 rfl ?_
        refine tq_iload rX11_text_57 rfl ?_
        refine tq_icmp_ge rX11_text_59 (fun c5 => ?_) (fun c5 => ?_)
        · rw [if_pos c5] at hf
          exact tq_forget _ (tq_le_u (tq_le_u (tq_le_u (tq_le_u (tq_le_u tq_le_n))))) (FX11_text_j73_x   hf ⟨rfl, rfl, rfl⟩)
        · rw [if_neg c5] at hf
          refine tq_iload_n rX11_text_62 rfl ?_
          refine tq_iconst (-1 : Int32) rX11_text_63 (by decide) ?_
          refine tq_icmp_ne rX11_text_64 (fun c6 => ?_) (fun c6 => ?_)
          · rw [if_neg c6] at hf
            exact tq_forget _ (tq_le_s (tq_le_s (tq_le_s (tq_le_s (tq_le_s tq_le_n))))) (FX11_text_j76_x  h0 hf ⟨rfl, rfl, rfl⟩)
          · rw [if_pos c6] at hf
            refine tq_iload rX11_text_67 rfl ?_
            refine tq_iconst (2 : Int32) rX11_text_69 (by decide) ?_
            refine tq_icmp_lt rX11_text_70 (fun c11 => ?_) (fun c11 => ?_)
            · rw [if_pos c11] at hf
              exact tq_forget _ (tq_le_s (tq_le_s (tq_le_s (tq_le_s (tq_le_s tq_le_n))))) (FX11_text_j76_x  h0 hf ⟨rfl, rfl, rfl⟩)
            · rw [if_neg c11] at hf
              exact tq_forget _ (tq_le_u (tq_le_u (tq_le_u (tq_le_u (tq_le_u tq_le_n))))) (FX11_text_j73_x   hf ⟨rfl, rfl, rfl⟩)

abbrev mX11_fault : tq_M := (yX11_fault, cX11_fault, 2, (Option.some Jvm.ClassFile.FieldType.int), 0, 0)
theorem rX11_fault_0 : tq_D cX11_fault 0 (.iload_n 1) 1 1 := ⟨by decide +kernel, rfl⟩
theorem rX11_fault_1 : tq_J cX11_fault 1 (.ifCond .ne) 12 4 := ⟨11, by decide +kernel, by decide, rfl⟩
theorem rX11_fault_4 : tq_D cX11_fault 4 (.aload_n 0) 1 5 := ⟨by decide +kernel, rfl⟩
theorem rX11_fault_5 : tq_D cX11_fault 5 (.getfield 10) 3 8 := ⟨by decide +kernel, rfl⟩
theorem rX11_fault_8 : tq_D cX11_fault 8 (.getfield 78) 3 11 := ⟨by decide +kernel, rfl⟩
theorem rX11_fault_11 : decode cX11_fault 11 = .ok (.ireturn, 1) := by decide +kernel
theorem rX11_fault_12 : tq_D cX11_fault 12 (.iload_n 1) 1 13 := ⟨by decide +kernel, rfl⟩
theorem rX11_fault_13 : tq_D cX11_fault 13 (.iconst 1) 1 14 := ⟨by decide +kernel, rfl⟩
theorem rX11_fault_14 : tq_J cX11_fault 14 (.if_icmp .ne) 27 17 := ⟨13, by decide +kernel, by decide, rfl⟩
theorem rX11_fault_17 : tq_D cX11_fault 17 (.aload_n 0) 1 18 := ⟨by decide +kernel, rfl⟩
theorem rX11_fault_18 : tq_D cX11_fault 18 (.getfield 10) 3 21 := ⟨by decide +kernel, rfl⟩
theorem rX11_fault_21 : tq_D cX11_fault 21 (.getfield 81) 3 24 := ⟨by decide +kernel, rfl⟩
theorem rX11_fault_24 : tq_J cX11_fault 24 .goto 28 27 := ⟨4, by decide +kernel, by decide, rfl⟩
theorem rX11_fault_27 : tq_D cX11_fault 27 (.iconst (-1)) 1 28 := ⟨by decide +kernel, rfl⟩
theorem rX11_fault_28 : decode cX11_fault 28 = .ok (.ireturn, 1) := by decide +kernel
noncomputable def FX11_fault (I : tq_PI) (L : tq_PL) (a0 : Nat) (a1 : Int32) : Int32 :=
  (if a1 = 0 then (I (tq_rg a0 0) 2) else (if a1 = (1 : Int32) then (I (tq_rg a0 0) 3) else (-1 : Int32)))
set_option maxRecDepth 100000 in
set_option maxHeartbeats 4000000 in
theorem CX11_fault {S : Nat × (Nat → Int32)} {d : Nat} {I : tq_PI} {L : tq_PL} {a0 : Nat} {a1 : Int32} (h0 : tq_sh0 a0 = 11) {out : Int32} (hf : FX11_fault I L a0 a1 = out) : tq_K S mX11_fault d [.ref a0, .int a1] I L (tq_one2 (some (.int out)) I L) := by
  unfold FX11_fault at hf
  refine tq_K_of (by decide) (Nat.le_of_ble_eq_true rfl) (ls := [.ref a0, .int a1]) rfl ?_
  refine tq_iload_n rX11_fault_0 rfl ?_
  refine tq_if_ne rX11_fault_1 (fun c1 => ?_) (fun c1 => ?_)
  · rw [if_neg c1] at hf
    refine tq_iload_n rX11_fault_12 rfl ?_
    refine tq_iconst (1 : Int32) rX11_fault_13 (by decide) ?_
    refine tq_icmp_ne rX11_fault_14 (fun c2 => ?_) (fun c2 => ?_)
    · rw [if_neg c2] at hf
      refine tq_iconst (-1 : Int32) rX11_fault_27 (by decide) ?_
      refine ty_iret rX11_fault_28 rfl rfl ?_
      subst hf
      exact ⟨rfl, rfl, rfl⟩
    · rw [if_pos c2] at hf
      refine tq_aload_n rX11_fault_17 rfl ?_
      refine ty_getR rX11_fault_18 f_X11_10 rfl h0 (hp_11_0 h0).1 ?_
      refine ty_getI rX11_fault_21 f_X11_81 rfl (hp_11_0 h0).2.1 ?_
      refine tq_goto rX11_fault_24 ?_
      refine ty_iret rX11_fault_28 rfl rfl ?_
      subst hf
      exact ⟨rfl, rfl, rfl⟩
  · rw [if_pos c1] at hf
    refine tq_aload_n rX11_fault_4 rfl ?_
    refine ty_getR rX11_fault_5 f_X11_10 rfl h0 (hp_11_0 h0).1 ?_
    refine ty_getI rX11_fault_8 f_X11_78 rfl (hp_11_0 h0).2.1 ?_
    refine ty_iret rX11_fault_11 rfl rfl ?_
    subst hf
    exact ⟨rfl, rfl, rfl⟩

