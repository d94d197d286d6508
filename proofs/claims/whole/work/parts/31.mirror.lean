/-! THE MIRROR, part 11: by program (wip/whole/gen_mirror.py). -/
abbrev mX12_propsOf : tq_M := (yX12_propsOf, cX12_propsOf, 4, (Option.some Jvm.ClassFile.FieldType.int), 0, 0)
theorem moX12_holds : tq_mok mX12_holds 3 := ⟨tq_sg1 _ (List.mem_of_getElem? (i := 13) rfl), tq_sg8 _ (List.mem_of_getElem? (i := 102) rfl), ⟨by decide, by decide, by decide +kernel⟩, by decide⟩
theorem mvX12_holds : 12 < 13 ∧ (tq_cl 12).1 = mX12_holds.1.cls ∧ Cond.instanceMethod mX12_holds.1 ∈ lw_tbl ∧ Cond.selects mX12_holds.1.cls mX12_holds.1 mX12_holds.1 ∈ lw_tbl := ⟨by decide, rfl, tq_sg8 _ (List.mem_of_getElem? (i := 101) rfl), List.mem_append_left _ (List.mem_map.mpr ⟨_, List.mem_of_getElem? (i := 102) rfl, rfl⟩)⟩
theorem f_X12_51 : tq_fok RX12 51 12 32 := ⟨by decide, by decide, Or.inl (tq_sg6 _ (List.mem_of_getElem? (i := 105) rfl))⟩
theorem l_X12_360 : tq_lok RX12 360 mX12_holds.1 := Or.inl (tq_sg8 _ (List.mem_of_getElem? (i := 99) rfl))
theorem rX12_propsOf_0 : tq_D cX12_propsOf 0 (.aload_n 0) 1 1 := ⟨by decide +kernel, rfl⟩
theorem rX12_propsOf_1 : tq_D cX12_propsOf 1 (.iload_n 1) 1 2 := ⟨by decide +kernel, rfl⟩
theorem rX12_propsOf_2 : tq_D cX12_propsOf 2 (.iload_n 1) 1 3 := ⟨by decide +kernel, rfl⟩
theorem rX12_propsOf_3 : tq_D cX12_propsOf 3 (.iload_n 1) 1 4 := ⟨by decide +kernel, rfl⟩
theorem rX12_propsOf_4 : tq_D cX12_propsOf 4 (.invokevirtual 360) 3 7 := ⟨by decide +kernel, rfl⟩
theorem rX12_propsOf_7 : tq_J cX12_propsOf 7 (.ifCond .eq) 12 10 := ⟨5, by decide +kernel, by decide, rfl⟩
theorem rX12_propsOf_10 : tq_D cX12_propsOf 10 (.iconst 0) 1 11 := ⟨by decide +kernel, rfl⟩
theorem rX12_propsOf_11 : decode cX12_propsOf 11 = .ok (.ireturn, 1) := by decide +kernel
theorem rX12_propsOf_12 : tq_D cX12_propsOf 12 (.iconst 0) 1 13 := ⟨by decide +kernel, rfl⟩
theorem rX12_propsOf_13 : tq_D cX12_propsOf 13 (.istore_n 2) 1 14 := ⟨by decide +kernel, rfl⟩
theorem rX12_propsOf_14 : tq_D cX12_propsOf 14 (.iload_n 2) 1 15 := ⟨by decide +kernel, rfl⟩
theorem rX12_propsOf_15 : tq_D cX12_propsOf 15 (.aload_n 0) 1 16 := ⟨by decide +kernel, rfl⟩
theorem rX12_propsOf_16 : tq_D cX12_propsOf 16 (.invokevirtual 190) 3 19 := ⟨by decide +kernel, rfl⟩
theorem rX12_propsOf_19 : tq_J cX12_propsOf 19 (.if_icmp .ge) 63 22 := ⟨44, by decide +kernel, by decide, rfl⟩
theorem rX12_propsOf_22 : tq_D cX12_propsOf 22 (.aload_n 0) 1 23 := ⟨by decide +kernel, rfl⟩
theorem rX12_propsOf_23 : tq_D cX12_propsOf 23 (.getfield 51) 3 26 := ⟨by decide +kernel, rfl⟩
theorem rX12_propsOf_26 : tq_D cX12_propsOf 26 (.iconst 0) 1 27 := ⟨by decide +kernel, rfl⟩
theorem rX12_propsOf_27 : tq_D cX12_propsOf 27 (.iload_n 2) 1 28 := ⟨by decide +kernel, rfl⟩
theorem rX12_propsOf_28 : tq_D cX12_propsOf 28 (.iastore) 1 29 := ⟨by decide +kernel, rfl⟩
theorem rX12_propsOf_29 : tq_D cX12_propsOf 29 (.aload_n 0) 1 30 := ⟨by decide +kernel, rfl⟩
theorem rX12_propsOf_30 : tq_D cX12_propsOf 30 (.getfield 7) 3 33 := ⟨by decide +kernel, rfl⟩
theorem rX12_propsOf_33 : tq_D cX12_propsOf 33 (.aload_n 0) 1 34 := ⟨by decide +kernel, rfl⟩
theorem rX12_propsOf_34 : tq_D cX12_propsOf 34 (.getfield 187) 3 37 := ⟨by decide +kernel, rfl⟩
theorem rX12_propsOf_37 : tq_D cX12_propsOf 37 (.iconst 2) 1 38 := ⟨by decide +kernel, rfl⟩
theorem rX12_propsOf_38 : tq_D cX12_propsOf 38 (.iadd) 1 39 := ⟨by decide +kernel, rfl⟩
theorem rX12_propsOf_39 : tq_D cX12_propsOf 39 (.iload_n 2) 1 40 := ⟨by decide +kernel, rfl⟩
theorem rX12_propsOf_40 : tq_D cX12_propsOf 40 (.iadd) 1 41 := ⟨by decide +kernel, rfl⟩
theorem rX12_propsOf_41 : tq_D cX12_propsOf 41 (.iaload) 1 42 := ⟨by decide +kernel, rfl⟩
theorem rX12_propsOf_42 : tq_J cX12_propsOf 42 (.ifCond .ne) 57 45 := ⟨15, by decide +kernel, by decide, rfl⟩
theorem rX12_propsOf_45 : tq_D cX12_propsOf 45 (.aload_n 0) 1 46 := ⟨by decide +kernel, rfl⟩
theorem rX12_propsOf_46 : tq_D cX12_propsOf 46 (.iload_n 1) 1 47 := ⟨by decide +kernel, rfl⟩
theorem rX12_propsOf_47 : tq_D cX12_propsOf 47 (.iload_n 2) 1 48 := ⟨by decide +kernel, rfl⟩
theorem rX12_propsOf_48 : tq_D cX12_propsOf 48 (.iload_n 2) 1 49 := ⟨by decide +kernel, rfl⟩
theorem rX12_propsOf_49 : tq_D cX12_propsOf 49 (.invokevirtual 360) 3 52 := ⟨by decide +kernel, rfl⟩
theorem rX12_propsOf_52 : tq_J cX12_propsOf 52 (.ifCond .eq) 57 55 := ⟨5, by decide +kernel, by decide, rfl⟩
theorem rX12_propsOf_55 : tq_D cX12_propsOf 55 (.iconst 1) 1 56 := ⟨by decide +kernel, rfl⟩
theorem rX12_propsOf_56 : decode cX12_propsOf 56 = .ok (.ireturn, 1) := by decide +kernel
theorem rX12_propsOf_57 : tq_D cX12_propsOf 57 (.iinc 2 1) 3 60 := ⟨by decide +kernel, rfl⟩
theorem rX12_propsOf_60 : tq_J cX12_propsOf 60 .goto 14 63 := ⟨(-46), by decide +kernel, by decide, rfl⟩
theorem rX12_propsOf_63 : tq_D cX12_propsOf 63 (.iconst 0) 1 64 := ⟨by decide +kernel, rfl⟩
theorem rX12_propsOf_64 : tq_D cX12_propsOf 64 (.istore_n 2) 1 65 := ⟨by decide +kernel, rfl⟩
theorem rX12_propsOf_65 : tq_D cX12_propsOf 65 (.iload_n 2) 1 66 := ⟨by decide +kernel, rfl⟩
theorem rX12_propsOf_66 : tq_D cX12_propsOf 66 (.aload_n 0) 1 67 := ⟨by decide +kernel, rfl⟩
theorem rX12_propsOf_67 : tq_D cX12_propsOf 67 (.invokevirtual 190) 3 70 := ⟨by decide +kernel, rfl⟩
theorem rX12_propsOf_70 : tq_J cX12_propsOf 70 (.if_icmp .ge) 155 73 := ⟨85, by decide +kernel, by decide, rfl⟩
theorem rX12_propsOf_73 : tq_D cX12_propsOf 73 (.iload_n 2) 1 74 := ⟨by decide +kernel, rfl⟩
theorem rX12_propsOf_74 : tq_D cX12_propsOf 74 (.iconst 1) 1 75 := ⟨by decide +kernel, rfl⟩
theorem rX12_propsOf_75 : tq_D cX12_propsOf 75 (.iadd) 1 76 := ⟨by decide +kernel, rfl⟩
theorem rX12_propsOf_76 : tq_D cX12_propsOf 76 (.istore_n 3) 1 77 := ⟨by decide +kernel, rfl⟩
theorem rX12_propsOf_77 : tq_D cX12_propsOf 77 (.iload_n 3) 1 78 := ⟨by decide +kernel, rfl⟩
theorem rX12_propsOf_78 : tq_D cX12_propsOf 78 (.aload_n 0) 1 79 := ⟨by decide +kernel, rfl⟩
theorem rX12_propsOf_79 : tq_D cX12_propsOf 79 (.invokevirtual 190) 3 82 := ⟨by decide +kernel, rfl⟩
theorem rX12_propsOf_82 : tq_J cX12_propsOf 82 (.if_icmp .ge) 149 85 := ⟨67, by decide +kernel, by decide, rfl⟩
theorem rX12_propsOf_85 : tq_D cX12_propsOf 85 (.aload_n 0) 1 86 := ⟨by decide +kernel, rfl⟩
theorem rX12_propsOf_86 : tq_D cX12_propsOf 86 (.getfield 51) 3 89 := ⟨by decide +kernel, rfl⟩
theorem rX12_propsOf_89 : tq_D cX12_propsOf 89 (.iconst 0) 1 90 := ⟨by decide +kernel, rfl⟩
theorem rX12_propsOf_90 : tq_D cX12_propsOf 90 (.iload_n 2) 1 91 := ⟨by decide +kernel, rfl⟩
theorem rX12_propsOf_91 : tq_D cX12_propsOf 91 (.iastore) 1 92 := ⟨by decide +kernel, rfl⟩
theorem rX12_propsOf_92 : tq_D cX12_propsOf 92 (.aload_n 0) 1 93 := ⟨by decide +kernel, rfl⟩
theorem rX12_propsOf_93 : tq_D cX12_propsOf 93 (.getfield 51) 3 96 := ⟨by decide +kernel, rfl⟩
theorem rX12_propsOf_96 : tq_D cX12_propsOf 96 (.iconst 1) 1 97 := ⟨by decide +kernel, rfl⟩
theorem rX12_propsOf_97 : tq_D cX12_propsOf 97 (.iload_n 3) 1 98 := ⟨by decide +kernel, rfl⟩
theorem rX12_propsOf_98 : tq_D cX12_propsOf 98 (.iastore) 1 99 := ⟨by decide +kernel, rfl⟩
theorem rX12_propsOf_99 : tq_D cX12_propsOf 99 (.aload_n 0) 1 100 := ⟨by decide +kernel, rfl⟩
theorem rX12_propsOf_100 : tq_D cX12_propsOf 100 (.getfield 7) 3 103 := ⟨by decide +kernel, rfl⟩
theorem rX12_propsOf_103 : tq_D cX12_propsOf 103 (.aload_n 0) 1 104 := ⟨by decide +kernel, rfl⟩
theorem rX12_propsOf_104 : tq_D cX12_propsOf 104 (.getfield 187) 3 107 := ⟨by decide +kernel, rfl⟩
theorem rX12_propsOf_107 : tq_D cX12_propsOf 107 (.iconst 2) 1 108 := ⟨by decide +kernel, rfl⟩
theorem rX12_propsOf_108 : tq_D cX12_propsOf 108 (.iadd) 1 109 := ⟨by decide +kernel, rfl⟩
theorem rX12_propsOf_109 : tq_D cX12_propsOf 109 (.iload_n 2) 1 110 := ⟨by decide +kernel, rfl⟩
theorem rX12_propsOf_110 : tq_D cX12_propsOf 110 (.iadd) 1 111 := ⟨by decide +kernel, rfl⟩
theorem rX12_propsOf_111 : tq_D cX12_propsOf 111 (.iaload) 1 112 := ⟨by decide +kernel, rfl⟩
theorem rX12_propsOf_112 : tq_J cX12_propsOf 112 (.ifCond .ne) 143 115 := ⟨31, by decide +kernel, by decide, rfl⟩
theorem rX12_propsOf_115 : tq_D cX12_propsOf 115 (.aload_n 0) 1 116 := ⟨by decide +kernel, rfl⟩
theorem rX12_propsOf_116 : tq_D cX12_propsOf 116 (.getfield 7) 3 119 := ⟨by decide +kernel, rfl⟩
theorem rX12_propsOf_119 : tq_D cX12_propsOf 119 (.aload_n 0) 1 120 := ⟨by decide +kernel, rfl⟩
theorem rX12_propsOf_120 : tq_D cX12_propsOf 120 (.getfield 187) 3 123 := ⟨by decide +kernel, rfl⟩
theorem rX12_propsOf_123 : tq_D cX12_propsOf 123 (.iconst 2) 1 124 := ⟨by decide +kernel, rfl⟩
theorem rX12_propsOf_124 : tq_D cX12_propsOf 124 (.iadd) 1 125 := ⟨by decide +kernel, rfl⟩
theorem rX12_propsOf_125 : tq_D cX12_propsOf 125 (.iload_n 3) 1 126 := ⟨by decide +kernel, rfl⟩
theorem rX12_propsOf_126 : tq_D cX12_propsOf 126 (.iadd) 1 127 := ⟨by decide +kernel, rfl⟩
theorem rX12_propsOf_127 : tq_D cX12_propsOf 127 (.iaload) 1 128 := ⟨by decide +kernel, rfl⟩
theorem rX12_propsOf_128 : tq_J cX12_propsOf 128 (.ifCond .ne) 143 131 := ⟨15, by decide +kernel, by decide, rfl⟩
theorem rX12_propsOf_131 : tq_D cX12_propsOf 131 (.aload_n 0) 1 132 := ⟨by decide +kernel, rfl⟩
theorem rX12_propsOf_132 : tq_D cX12_propsOf 132 (.iload_n 1) 1 133 := ⟨by decide +kernel, rfl⟩
theorem rX12_propsOf_133 : tq_D cX12_propsOf 133 (.iload_n 2) 1 134 := ⟨by decide +kernel, rfl⟩
theorem rX12_propsOf_134 : tq_D cX12_propsOf 134 (.iload_n 3) 1 135 := ⟨by decide +kernel, rfl⟩
theorem rX12_propsOf_135 : tq_D cX12_propsOf 135 (.invokevirtual 360) 3 138 := ⟨by decide +kernel, rfl⟩
theorem rX12_propsOf_138 : tq_J cX12_propsOf 138 (.ifCond .eq) 143 141 := ⟨5, by decide +kernel, by decide, rfl⟩
theorem rX12_propsOf_141 : tq_D cX12_propsOf 141 (.iconst 2) 1 142 := ⟨by decide +kernel, rfl⟩
theorem rX12_propsOf_142 : decode cX12_propsOf 142 = .ok (.ireturn, 1) := by decide +kernel
theorem rX12_propsOf_143 : tq_D cX12_propsOf 143 (.iinc 3 1) 3 146 := ⟨by decide +kernel, rfl⟩
theorem rX12_propsOf_146 : tq_J cX12_propsOf 146 .goto 77 149 := ⟨(-69), by decide +kernel, by decide, rfl⟩
theorem rX12_propsOf_149 : tq_D cX12_propsOf 149 (.iinc 2 1) 3 152 := ⟨by decide +kernel, rfl⟩
theorem rX12_propsOf_152 : tq_J cX12_propsOf 152 .goto 65 155 := ⟨(-87), by decide +kernel, by decide, rfl⟩
theorem rX12_propsOf_155 : tq_D cX12_propsOf 155 (.iconst (-1)) 1 156 := ⟨by decide +kernel, rfl⟩
theorem rX12_propsOf_156 : decode cX12_propsOf 156 = .ok (.ireturn, 1) := by decide +kernel
noncomputable def FX12_propsOf_j57L14 (I : tq_PI) (L : tq_PL) (a0 : Nat) (a1 : Int32) (a2 : Int32) : Option ((Int32 × tq_PI) ⊕ ((tq_PI) ⊕ (Int32 × tq_PI))) :=
  some (.inl ((a2 + 1), I))
noncomputable def FX12_propsOf_s14 (I : tq_PI) (L : tq_PL) (a0 : Nat) (a1 : Int32) (a2 : Int32) : Option ((Int32 × tq_PI) ⊕ ((tq_PI) ⊕ (Int32 × tq_PI))) :=
  (tq_let (FX12_many I L a0) fun p3 => (if p3 ≤ a2 then some (.inr (.inl I)) else (if 0 ≤ (0 : Int32) ∧ (0 : Int32) < 2 then (if 0 ≤ (((((tq_up2 I (tq_rg a0 32) ((0 : Int32)).toNatClampNeg a2)) a0 12) + (2 : Int32)) + a2) ∧ (((((tq_up2 I (tq_rg a0 32) ((0 : Int32)).toNatClampNeg a2)) a0 12) + (2 : Int32)) + a2) < 4016 then (if (((tq_up2 I (tq_rg a0 32) ((0 : Int32)).toNatClampNeg a2)) (tq_rg a0 0) ((((((tq_up2 I (tq_rg a0 32) ((0 : Int32)).toNatClampNeg a2)) a0 12) + (2 : Int32)) + a2)).toNatClampNeg) = 0 then ((FX12_holds ((tq_up2 I (tq_rg a0 32) ((0 : Int32)).toNatClampNeg a2)) L a0 a1 a2 a2).bind fun p8 => (if (tq_b p8.1) = 0 then (FX12_propsOf_j57L14 p8.2 L a0 a1 a2) else some (.inr (.inr ((1 : Int32), p8.2))))) else (FX12_propsOf_j57L14 ((tq_up2 I (tq_rg a0 32) ((0 : Int32)).toNatClampNeg a2)) L a0 a1 a2)) else none) else none)))
noncomputable def FX12_propsOf_j143L77 (I : tq_PI) (L : tq_PL) (a0 : Nat) (a1 : Int32) (a2 : Int32) (a3 : Int32) : Option ((Int32 × tq_PI) ⊕ ((tq_PI) ⊕ (Int32 × tq_PI))) :=
  some (.inl ((a3 + 1), I))
noncomputable def FX12_propsOf_s77 (I : tq_PI) (L : tq_PL) (a0 : Nat) (a1 : Int32) (a2 : Int32) (a3 : Int32) : Option ((Int32 × tq_PI) ⊕ ((tq_PI) ⊕ (Int32 × tq_PI))) :=
  (tq_let (FX12_many I L a0) fun p14 => (if p14 ≤ a3 then some (.inr (.inl I)) else (if 0 ≤ (0 : Int32) ∧ (0 : Int32) < 2 then (if 0 ≤ (1 : Int32) ∧ (1 : Int32) < 2 then (if 0 ≤ (((((tq_up2 (tq_up2 I (tq_rg a0 32) ((0 : Int32)).toNatClampNeg a2) (tq_rg a0 32) ((1 : Int32)).toNatClampNeg a3)) a0 12) + (2 : Int32)) + a2) ∧ (((((tq_up2 (tq_up2 I (tq_rg a0 32) ((0 : Int32)).toNatClampNeg a2) (tq_rg a0 32) ((1 : Int32)).toNatClampNeg a3)) a0 12) + (2 : Int32)) + a2) < 4016 then (if (((tq_up2 (tq_up2 I (tq_rg a0 32) ((0 : Int32)).toNatClampNeg a2) (tq_rg a0 32) ((1 : Int32)).toNatClampNeg a3)) (tq_rg a0 0) ((((((tq_up2 (tq_up2 I (tq_rg a0 32) ((0 : Int32)).toNatClampNeg a2) (tq_rg a0 32) ((1 : Int32)).toNatClampNeg a3)) a0 12) + (2 : Int32)) + a2)).toNatClampNeg) = 0 then (if 0 ≤ (((((tq_up2 (tq_up2 I (tq_rg a0 32) ((0 : Int32)).toNatClampNeg a2) (tq_rg a0 32) ((1 : Int32)).toNatClampNeg a3)) a0 12) + (2 : Int32)) + a3) ∧ (((((tq_up2 (tq_up2 I (tq_rg a0 32) ((0 : Int32)).toNatClampNeg a2) (tq_rg a0 32) ((1 : Int32)).toNatClampNeg a3)) a0 12) + (2 : Int32)) + a3) < 4016 then (if (((tq_up2 (tq_up2 I (tq_rg a0 32) ((0 : Int32)).toNatClampNeg a2) (tq_rg a0 32) ((1 : Int32)).toNatClampNeg a3)) (tq_rg a0 0) ((((((tq_up2 (tq_up2 I (tq_rg a0 32) ((0 : Int32)).toNatClampNeg a2) (tq_rg a0 32) ((1 : Int32)).toNatClampNeg a3)) a0 12) + (2 : Int32)) + a3)).toNatClampNeg) = 0 then ((FX12_holds ((tq_up2 (tq_up2 I (tq_rg a0 32) ((0 : Int32)).toNatClampNeg a2) (tq_rg a0 32) ((1 : Int32)).toNatClampNeg a3)) L a0 a1 a2 a3).bind fun p22 => (if (tq_b p22.1) = 0 then (FX12_propsOf_j143L77 p22.2 L a0 a1 a2 a3) else some (.inr (.inr ((2 : Int32), p22.2))))) else (FX12_propsOf_j143L77 ((tq_up2 (tq_up2 I (tq_rg a0 32) ((0 : Int32)).toNatClampNeg a2) (tq_rg a0 32) ((1 : Int32)).toNatClampNeg a3)) L a0 a1 a2 a3)) else none) else (FX12_propsOf_j143L77 ((tq_up2 (tq_up2 I (tq_rg a0 32) ((0 : Int32)).toNatClampNeg a2) (tq_rg a0 32) ((1 : Int32)).toNatClampNeg a3)) L a0 a1 a2 a3)) else none) else none) else none)))
noncomputable def FX12_propsOf_s65 (I : tq_PI) (L : tq_PL) (a0 : Nat) (a1 : Int32) (a2 : Int32) : Option ((Int32 × tq_PI) ⊕ ((tq_PI) ⊕ (Int32 × tq_PI))) :=
  (tq_let (FX12_many I L a0) fun p12 => (if p12 ≤ a2 then some (.inr (.inl I)) else ((tq_it (fun p : Int32 × tq_PI => FX12_propsOf_s77 p.2 L a0 a1 a2 p.1) tq_N ((a2 + (1 : Int32)), I)).bind fun p24 => p24.elim (fun t25 => some (.inl ((a2 + 1), t25))) (fun t25 => some (.inr (.inr t25))))))
noncomputable def FX12_propsOf (I : tq_PI) (L : tq_PL) (a0 : Nat) (a1 : Int32) : Option (Int32 × tq_PI) :=
  ((FX12_holds I L a0 a1 a1 a1).bind fun p1 => (if (tq_b p1.1) = 0 then ((tq_it (fun p : Int32 × tq_PI => FX12_propsOf_s14 p.2 L a0 a1 p.1) tq_N ((0 : Int32), p1.2)).bind fun p10 => p10.elim (fun t11 => ((tq_it (fun p : Int32 × tq_PI => FX12_propsOf_s65 p.2 L a0 a1 p.1) tq_N ((0 : Int32), t11)).bind fun p26 => p26.elim (fun t27 => some ((-1 : Int32), t27)) (fun t27 => some t27))) (fun t11 => some t11)) else some ((0 : Int32), p1.2)))
set_option maxRecDepth 100000 in
set_option maxHeartbeats 4000000 in
theorem FX12_propsOf_j57L14_x {S : Nat × (Nat → Int32)} {d : Nat} {I : tq_PI} {L : tq_PL} {a0 : Nat} {a1 : Int32} {a2 : Int32} (h0 : tq_sh0 a0 = 12) {q0 : Option Value → tq_PI → tq_PL → Prop} {out : (Int32 × tq_PI) ⊕ ((tq_PI) ⊕ (Int32 × tq_PI))} (hf : FX12_propsOf_j57L14 I L a0 a1 a2 = some out) (hk : Sum.elim (fun p : Int32 × tq_PI => tq_X S mX12_propsOf (d + 6) tq_k0 14 ([.ref a0, .int a1, .int p.1, tq_u]) [] (tq_st p.2 L) (tq_Q q0)) (Sum.elim (fun p : tq_PI => tq_X S mX12_propsOf (d + 6) tq_k0 63 ([.ref a0, .int a1, tq_u, tq_u]) [] (tq_st p L) (tq_Q q0)) (fun p : Int32 × tq_PI => q0 (some (.int p.1)) p.2 L)) out) : tq_X S mX12_propsOf (d + 6) tq_k0 57 ([.ref a0, .int a1, .int a2, tq_u]) ([]) (tq_st I L) (tq_Q q0) := by
  unfold FX12_propsOf_j57L14 at hf
  refine tq_iinc (a2 + 1) ([.ref a0, .int a1, .int (a2 + 1), tq_u]) rX12_propsOf_57 rfl (tq_inc (by decide)) (Nat.le_of_ble_eq_true rfl) rfl ?_
  refine tq_goto rX12_propsOf_60 ?_
  have hf := Option.some.inj hf
  subst hf
  exact tq_forget _ (tq_le_s (tq_le_s (tq_le_s (tq_le_u tq_le_n)))) hk

set_option maxRecDepth 100000 in
set_option maxHeartbeats 4000000 in
theorem FX12_propsOf_s14_x {S : Nat × (Nat → Int32)} {d : Nat} {I : tq_PI} {L : tq_PL} {a0 : Nat} {a1 : Int32} {a2 : Int32} (h0 : tq_sh0 a0 = 12) {q0 : Option Value → tq_PI → tq_PL → Prop} {out : (Int32 × tq_PI) ⊕ ((tq_PI) ⊕ (Int32 × tq_PI))} (hf : FX12_propsOf_s14 I L a0 a1 a2 = some out) (hk : Sum.elim (fun p : Int32 × tq_PI => tq_X S mX12_propsOf (d + 6) tq_k0 14 ([.ref a0, .int a1, .int p.1, tq_u]) [] (tq_st p.2 L) (tq_Q q0)) (Sum.elim (fun p : tq_PI => tq_X S mX12_propsOf (d + 6) tq_k0 63 ([.ref a0, .int a1, tq_u, tq_u]) [] (tq_st p L) (tq_Q q0)) (fun p : Int32 × tq_PI => q0 (some (.int p.1)) p.2 L)) out) : tq_X S mX12_propsOf (d + 6) tq_k0 14 ([.ref a0, .int a1, .int a2, tq_u]) [] (tq_st I L) (tq_Q q0) := by
  unfold FX12_propsOf_s14 at hf
  refine tq_iload_n rX12_propsOf_14 rfl ?_
  refine tq_aload_n rX12_propsOf_15 rfl ?_
  obtain ⟨p3, e3, hf⟩ := tq_let_elim hf
  refine ty_callVI p3 ([]) ([.int a2]) rX12_propsOf_16 l_X12_190 moX12_many mvX12_many h0 rfl rfl (Nat.le_of_ble_eq_true rfl) ⟨rfl, rfl⟩ (CX12_many h0 e3) ?_
  refine tq_icmp_ge rX12_propsOf_19 (fun c4 => ?_) (fun c4 => ?_)
  · rw [if_pos c4] at hf
    have hf := Option.some.inj hf
    subst hf
    exact tq_forget _ (tq_le_s (tq_le_s (tq_le_u (tq_le_u tq_le_n)))) hk
  · rw [if_neg c4] at hf
    refine tq_aload_n rX12_propsOf_22 rfl ?_
    refine ty_getR rX12_propsOf_23 f_X12_51 rfl h0 (hp_12_32 h0).1 ?_
    refine tq_iconst (0 : Int32) rX12_propsOf_26 (by decide) ?_
    refine tq_iload_n rX12_propsOf_27 rfl ?_
    obtain ⟨g5, hf⟩ := tq_chk hf
    refine ty_iast (v := 2) rX12_propsOf_28 (hp_12_32 h0).2.1 (hp_12_32 h0).2.2 rfl (by decide) g5 ?_
    refine tq_aload_n rX12_propsOf_29 rfl ?_
    refine ty_getR rX12_propsOf_30 f_X12_7 rfl h0 (hp_12_0 h0).1 ?_
    refine tq_aload_n rX12_propsOf_33 rfl ?_
    refine ty_getI rX12_propsOf_34 f_X12_187 rfl h0 ?_
    refine tq_iconst (2 : Int32) rX12_propsOf_37 (by decide) ?_
    refine tq_iadd rX12_propsOf_38 ?_
    refine tq_iload_n rX12_propsOf_39 rfl ?_
    refine tq_iadd rX12_propsOf_40 ?_
    obtain ⟨g6, hf⟩ := tq_chk hf
    refine ty_iald (v := 4016) rX12_propsOf_41 (hp_12_0 h0).2.1 (hp_12_0 h0).2.2 rfl (by decide) g6 ?_
    refine tq_if_ne rX12_propsOf_42 (fun c7 => ?_) (fun c7 => ?_)
    · rw [if_neg c7] at hf
      exact tq_forget _ (tq_le_s (tq_le_s (tq_le_s (tq_le_u tq_le_n)))) (FX12_propsOf_j57L14_x  h0 hf hk)
    · rw [if_pos c7] at hf
      refine tq_aload_n rX12_propsOf_45 rfl ?_
      refine tq_iload_n rX12_propsOf_46 rfl ?_
      refine tq_iload_n rX12_propsOf_47 rfl ?_
      refine tq_iload_n rX12_propsOf_48 rfl ?_
      obtain ⟨p8, e8, hf⟩ := Option.bind_eq_some_iff.mp hf
      refine ty_callVI (tq_b p8.1) ([.int a1, .int a2, .int a2]) ([]) rX12_propsOf_49 l_X12_360 moX12_holds mvX12_holds h0 rfl rfl (Nat.le_of_ble_eq_true rfl) ⟨rfl, rfl⟩ (CX12_holds h0 e8) ?_
      refine tq_if_eq rX12_propsOf_52 (fun c9 => ?_) (fun c9 => ?_)
      · rw [if_pos c9] at hf
        exact tq_forget _ (tq_le_s (tq_le_s (tq_le_s (tq_le_u tq_le_n)))) (FX12_propsOf_j57L14_x  h0 hf hk)
      · rw [if_neg c9] at hf
        refine tq_iconst (1 : Int32) rX12_propsOf_55 (by decide) ?_
        refine ty_iret rX12_propsOf_56 rfl rfl ?_
        have hf := Option.some.inj hf
        subst hf
        exact hk

set_option maxRecDepth 100000 in
set_option maxHeartbeats 4000000 in
theorem FX12_propsOf_j143L77_x {S : Nat × (Nat → Int32)} {d : Nat} {I : tq_PI} {L : tq_PL} {a0 : Nat} {a1 : Int32} {a2 : Int32} {a3 : Int32} (h0 : tq_sh0 a0 = 12) {q0 : Option Value → tq_PI → tq_PL → Prop} {out : (Int32 × tq_PI) ⊕ ((tq_PI) ⊕ (Int32 × tq_PI))} (hf : FX12_propsOf_j143L77 I L a0 a1 a2 a3 = some out) (hk : Sum.elim (fun p : Int32 × tq_PI => tq_X S mX12_propsOf (d + 6) tq_k0 77 ([.ref a0, .int a1, .int a2, .int p.1]) [] (tq_st p.2 L) (tq_Q q0)) (Sum.elim (fun p : tq_PI => tq_X S mX12_propsOf (d + 6) tq_k0 149 ([.ref a0, .int a1, .int a2, tq_u]) [] (tq_st p L) (tq_Q q0)) (fun p : Int32 × tq_PI => q0 (some (.int p.1)) p.2 L)) out) : tq_X S mX12_propsOf (d + 6) tq_k0 143 ([.ref a0, .int a1, .int a2, .int a3]) ([]) (tq_st I L) (tq_Q q0) := by
  unfold FX12_propsOf_j143L77 at hf
  refine tq_iinc (a3 + 1) ([.ref a0, .int a1, .int a2, .int (a3 + 1)]) rX12_propsOf_143 rfl (tq_inc (by decide)) (Nat.le_of_ble_eq_true rfl) rfl ?_
  refine tq_goto rX12_propsOf_146 ?_
  have hf := Option.some.inj hf
  subst hf
  exact tq_forget _ (tq_le_s (tq_le_s (tq_le_s (tq_le_s tq_le_n)))) hk

set_option maxRecDepth 100000 in
set_option maxHeartbeats 4000000 in
theorem FX12_propsOf_s77_x {S : Nat × (Nat → Int32)} {d : Nat} {I : tq_PI} {L : tq_PL} {a0 : Nat} {a1 : Int32} {a2 : Int32} {a3 : Int32} (h0 : tq_sh0 a0 = 12) {q0 : Option Value → tq_PI → tq_PL → Prop} {out : (Int32 × tq_PI) ⊕ ((tq_PI) ⊕ (Int32 × tq_PI))} (hf : FX12_propsOf_s77 I L a0 a1 a2 a3 = some out) (hk : Sum.elim (fun p : Int32 × tq_PI => tq_X S mX12_propsOf (d + 6) tq_k0 77 ([.ref a0, .int a1, .int a2, .int p.1]) [] (tq_st p.2 L) (tq_Q q0)) (Sum.elim (fun p : tq_PI => tq_X S mX12_propsOf (d + 6) tq_k0 149 ([.ref a0, .int a1, .int a2, tq_u]) [] (tq_st p L) (tq_Q q0)) (fun p : Int32 × tq_PI => q0 (some (.int p.1)) p.2 L)) out) : tq_X S mX12_propsOf (d + 6) tq_k0 77 ([.ref a0, .int a1, .int a2, .int a3]) [] (tq_st I L) (tq_Q q0) := by
  unfold FX12_propsOf_s77 at hf
  refine tq_iload_n rX12_propsOf_77 rfl ?_
  refine tq_aload_n rX12_propsOf_78 rfl ?_
  obtain ⟨p14, e14, hf⟩ := tq_let_elim hf
  refine ty_callVI p14 ([]) ([.int a3]) rX12_propsOf_79 l_X12_190 moX12_many mvX12_many h0 rfl rfl (Nat.le_of_ble_eq_true rfl) ⟨rfl, rfl⟩ (CX12_many h0 e14) ?_
  refine tq_icmp_ge rX12_propsOf_82 (fun c15 => ?_) (fun c15 => ?_)
  · rw [if_pos c15] at hf
    have hf := Option.some.inj hf
    subst hf
    exact tq_forget _ (tq_le_s (tq_le_s (tq_le_s (tq_le_u tq_le_n)))) hk
  · rw [if_neg c15] at hf
    refine tq_aload_n rX12_propsOf_85 rfl ?_
    refine ty_getR rX12_propsOf_86 f_X12_51 rfl h0 (hp_12_32 h0).1 ?_
    refine tq_iconst (0 : Int32) rX12_propsOf_89 (by decide) ?_
    refine tq_iload_n rX12_propsOf_90 rfl ?_
    obtain ⟨g16, hf⟩ := tq_chk hf
    refine ty_iast (v := 2) rX12_propsOf_91 (hp_12_32 h0).2.1 (hp_12_32 h0).2.2 rfl (by decide) g16 ?_
    refine tq_aload_n rX12_propsOf_92 rfl ?_
    refine ty_getR rX12_propsOf_93 f_X12_51 rfl h0 (hp_12_32 h0).1 ?_
    refine tq_iconst (1 : Int32) rX12_propsOf_96 (by decide) ?_
    refine tq_iload_n rX12_propsOf_97 rfl ?_
    obtain ⟨g17, hf⟩ := tq_chk hf
    refine ty_iast (v := 2) rX12_propsOf_98 (hp_12_32 h0).2.1 (hp_12_32 h0).2.2 rfl (by decide) g17 ?_
    refine tq_aload_n rX12_propsOf_99 rfl ?_
    refine ty_getR rX12_propsOf_100 f_X12_7 rfl h0 (hp_12_0 h0).1 ?_
    refine tq_aload_n rX12_propsOf_103 rfl ?_
    refine ty_getI rX12_propsOf_104 f_X12_187 rfl h0 ?_
    refine tq_iconst (2 : Int32) rX12_propsOf_107 (by decide) ?_
    refine tq_iadd rX12_propsOf_108 ?_
    refine tq_iload_n rX12_propsOf_109 rfl ?_
    refine tq_iadd rX12_propsOf_110 ?_
    obtain ⟨g18, hf⟩ := tq_chk hf
    refine ty_iald (v := 4016) rX12_propsOf_111 (hp_12_0 h0).2.1 (hp_12_0 h0).2.2 rfl (by decide) g18 ?_
    refine tq_if_ne rX12_propsOf_112 (fun c19 => ?_) (fun c19 => ?_)
    · rw [if_neg c19] at hf
      exact tq_forget _ (tq_le_s (tq_le_s (tq_le_s (tq_le_s tq_le_n)))) (FX12_propsOf_j143L77_x  h0 hf hk)
    · rw [if_pos c19] at hf
      refine tq_aload_n rX12_propsOf_115 rfl ?_
      refine ty_getR rX12_propsOf_116 f_X12_7 rfl h0 (hp_12_0 h0).1 ?_
      refine tq_aload_n rX12_propsOf_119 rfl ?_
      refine ty_getI rX12_propsOf_120 f_X12_187 rfl h0 ?_
      refine tq_iconst (2 : Int32) rX12_propsOf_123 (by decide) ?_
      refine tq_iadd rX12_propsOf_124 ?_
      refine tq_iload_n rX12_propsOf_125 rfl ?_
      refine tq_iadd rX12_propsOf_126 ?_
      obtain ⟨g20, hf⟩ := tq_chk hf
      refine ty_iald (v := 4016) rX12_propsOf_127 (hp_12_0 h0).2.1 (hp_12_0 h0).2.2 rfl (by decide) g20 ?_
      refine tq_if_ne rX12_propsOf_128 (fun c21 => ?_) (fun c21 => ?_)
      · rw [if_neg c21] at hf
        exact tq_forget _ (tq_le_s (tq_le_s (tq_le_s (tq_le_s tq_le_n)))) (FX12_propsOf_j143L77_x  h0 hf hk)
      · rw [if_pos c21] at hf
        refine tq_aload_n rX12_propsOf_131 rfl ?_
        refine tq_iload_n rX12_propsOf_132 rfl ?_
        refine tq_iload_n rX12_propsOf_133 rfl ?_
        refine tq_iload_n rX12_propsOf_134 rfl ?_
        obtain ⟨p22, e22, hf⟩ := Option.bind_eq_some_iff.mp hf
        refine ty_callVI (tq_b p22.1) ([.int a1, .int a2, .int a3]) ([]) rX12_propsOf_135 l_X12_360 moX12_holds mvX12_holds h0 rfl rfl (Nat.le_of_ble_eq_true rfl) ⟨rfl, rfl⟩ (CX12_holds h0 e22) ?_
        refine tq_if_eq rX12_propsOf_138 (fun c23 => ?_) (fun c23 => ?_)
        · rw [if_pos c23] at hf
          exact tq_forget _ (tq_le_s (tq_le_s (tq_le_s (tq_le_s tq_le_n)))) (FX12_propsOf_j143L77_x  h0 hf hk)
        · rw [if_neg c23] at hf
          refine tq_iconst (2 : Int32) rX12_propsOf_141 (by decide) ?_
          refine ty_iret rX12_propsOf_142 rfl rfl ?_
          have hf := Option.some.inj hf
          subst hf
          exact hk

set_option maxRecDepth 100000 in
set_option maxHeartbeats 4000000 in
theorem FX12_propsOf_s65_x {S : Nat × (Nat → Int32)} {d : Nat} {I : tq_PI} {L : tq_PL} {a0 : Nat} {a1 : Int32} {a2 : Int32} (h0 : tq_sh0 a0 = 12) {q0 : Option Value → tq_PI → tq_PL → Prop} {out : (Int32 × tq_PI) ⊕ ((tq_PI) ⊕ (Int32 × tq_PI))} (hf : FX12_propsOf_s65 I L a0 a1 a2 = some out) (hk : Sum.elim (fun p : Int32 × tq_PI => tq_X S mX12_propsOf (d + 6) tq_k0 65 ([.ref a0, .int a1, .int p.1, tq_u]) [] (tq_st p.2 L) (tq_Q q0)) (Sum.elim (fun p : tq_PI => tq_X S mX12_propsOf (d + 6) tq_k0 155 ([tq_u, tq_u, tq_u, tq_u]) [] (tq_st p L) (tq_Q q0)) (fun p : Int32 × tq_PI => q0 (some (.int p.1)) p.2 L)) out) : tq_X S mX12_propsOf (d + 6) tq_k0 65 ([.ref a0, .int a1, .int a2, tq_u]) [] (tq_st I L) (tq_Q q0) := by
  unfold FX12_propsOf_s65 at hf
  refine tq_iload_n rX12_propsOf_65 rfl ?_
  refine tq_aload_n rX12_propsOf_66 rfl ?_
  obtain ⟨p12, e12, hf⟩ := tq_let_elim hf
  refine ty_callVI p12 ([]) ([.int a2]) rX12_propsOf_67 l_X12_190 moX12_many mvX12_many h0 rfl rfl (Nat.le_of_ble_eq_true rfl) ⟨rfl, rfl⟩ (CX12_many h0 e12) ?_
  refine tq_icmp_ge rX12_propsOf_70 (fun c13 => ?_) (fun c13 => ?_)
  · rw [if_pos c13] at hf
    have hf := Option.some.inj hf
    subst hf
    exact tq_forget _ (tq_le_u (tq_le_u (tq_le_u (tq_le_u tq_le_n)))) hk
  · rw [if_neg c13] at hf
    refine tq_iload_n rX12_propsOf_73 rfl ?_
    refine tq_iconst (1 : Int32) rX12_propsOf_74 (by decide) ?_
    refine tq_iadd rX12_propsOf_75 ?_
    refine tq_istore_n ([.ref a0, .int a1, .int a2, .int (a2 + (1 : Int32))]) rX12_propsOf_76 (Nat.le_of_ble_eq_true rfl) rfl ?_
    obtain ⟨p24, e24, hf⟩ := Option.bind_eq_some_iff.mp hf
    refine tq_forget _ (tq_le_s (tq_le_s (tq_le_s (tq_le_s tq_le_n)))) ?_
    refine tq_it_elim (P := fun p : Int32 × tq_PI => tq_X S mX12_propsOf (d + 6) tq_k0 77 ([.ref a0, .int a1, .int a2, .int p.1]) [] (tq_st p.2 L) (tq_Q q0)) (R := Sum.elim (fun p : tq_PI => tq_X S mX12_propsOf (d + 6) tq_k0 149 ([.ref a0, .int a1, .int a2, tq_u]) [] (tq_st p L) (tq_Q q0)) (fun p : Int32 × tq_PI => q0 (some (.int p.1)) p.2 L)) (fun p o hp hk => FX12_propsOf_s77_x  h0 hp hk) _ (((a2 + (1 : Int32)), I)) _ e24 ?_
    rcases tq_selim hf with ⟨t25, t25q, hf⟩ | ⟨t25, t25q, hf⟩
    · rw [t25q]
      show tq_X _ _ _ _ _ _ _ _ _
      refine tq_iinc (a2 + 1) ([.ref a0, .int a1, .int (a2 + 1), tq_u]) rX12_propsOf_149 rfl (tq_inc (by decide)) (Nat.le_of_ble_eq_true rfl) rfl ?_
      refine tq_goto rX12_propsOf_152 ?_
      have hf := Option.some.inj hf
      subst hf
      exact tq_forget _ (tq_le_s (tq_le_s (tq_le_s (tq_le_u tq_le_n)))) hk
    · rw [t25q]
      have hf := Option.some.inj hf
      subst hf
      exact hk

set_option maxRecDepth 100000 in
set_option maxHeartbeats 4000000 in
theorem CX12_propsOf {S : Nat × (Nat → Int32)} {d : Nat} {I : tq_PI} {L : tq_PL} {a0 : Nat} {a1 : Int32} (h0 : tq_sh0 a0 = 12) {out : Int32 × tq_PI} (hf : FX12_propsOf I L a0 a1 = some out) : tq_K S mX12_propsOf (d + 6) [.ref a0, .int a1] I L (tq_one2 (some (.int out.1)) out.2 L) := by
  unfold FX12_propsOf at hf
  refine tq_K_of (by decide) (Nat.le_of_ble_eq_true rfl) (ls := [.ref a0, .int a1, tq_u, tq_u]) rfl ?_
  refine tq_aload_n rX12_propsOf_0 rfl ?_
  refine tq_iload_n rX12_propsOf_1 rfl ?_
  refine tq_iload_n rX12_propsOf_2 rfl ?_
  refine tq_iload_n rX12_propsOf_3 rfl ?_
  obtain ⟨p1, e1, hf⟩ := Option.bind_eq_some_iff.mp hf
  refine ty_callVI (tq_b p1.1) ([.int a1, .int a1, .int a1]) ([]) rX12_propsOf_4 l_X12_360 moX12_holds mvX12_holds h0 rfl rfl (Nat.le_of_ble_eq_true rfl) ⟨rfl, rfl⟩ (CX12_holds h0 e1) ?_
  refine tq_if_eq rX12_propsOf_7 (fun c2 => ?_) (fun c2 => ?_)
  · rw [if_pos c2] at hf
    refine tq_iconst (0 : Int32) rX12_propsOf_12 (by decide) ?_
    refine tq_istore_n ([.ref a0, .int a1, .int (0 : Int32), tq_u]) rX12_propsOf_13 (Nat.le_of_ble_eq_true rfl) rfl ?_
    obtain ⟨p10, e10, hf⟩ := Option.bind_eq_some_iff.mp hf
    refine tq_forget _ (tq_le_s (tq_le_s (tq_le_s (tq_le_u tq_le_n)))) ?_
    refine tq_it_elim (P := fun p : Int32 × tq_PI => tq_X S mX12_propsOf (d + 6) tq_k0 14 ([.ref a0, .int a1, .int p.1, tq_u]) [] (tq_st p.2 L) (tq_Q (tq_one2 (some (.int out.1)) out.2 L))) (R := Sum.elim (fun p : tq_PI => tq_X S mX12_propsOf (d + 6) tq_k0 63 ([.ref a0, .int a1, tq_u, tq_u]) [] (tq_st p L) (tq_Q (tq_one2 (some (.int out.1)) out.2 L))) (fun p : Int32 × tq_PI => (tq_one2 (some (.int out.1)) out.2 L) (some (.int p.1)) p.2 L)) (fun p o hp hk => FX12_propsOf_s14_x  h0 hp hk) _ (((0 : Int32), p1.2)) _ e10 ?_
    rcases tq_selim hf with ⟨t11, t11q, hf⟩ | ⟨t11, t11q, hf⟩
    · rw [t11q]
      show tq_X _ _ _ _ _ _ _ _ _
      refine tq_iconst (0 : Int32) rX12_propsOf_63 (by decide) ?_
      refine tq_istore_n ([.ref a0, .int a1, .int (0 : Int32), tq_u]) rX12_propsOf_64 (Nat.le_of_ble_eq_true rfl) rfl ?_
      obtain ⟨p26, e26, hf⟩ := Option.bind_eq_some_iff.mp hf
      refine tq_forget _ (tq_le_s (tq_le_s (tq_le_s (tq_le_u tq_le_n)))) ?_
      refine tq_it_elim (P := fun p : Int32 × tq_PI => tq_X S mX12_propsOf (d + 6) tq_k0 65 ([.ref a0, .int a1, .int p.1, tq_u]) [] (tq_st p.2 L) (tq_Q (tq_one2 (some (.int out.1)) out.2 L))) (R := Sum.elim (fun p : tq_PI => tq_X S mX12_propsOf (d + 6) tq_k0 155 ([tq_u, tq_u, tq_u, tq_u]) [] (tq_st p L) (tq_Q (tq_one2 (some (.int out.1)) out.2 L))) (fun p : Int32 × tq_PI => (tq_one2 (some (.int out.1)) out.2 L) (some (.int p.1)) p.2 L)) (fun p o hp hk => FX12_propsOf_s65_x  h0 hp hk) _ (((0 : Int32), t11)) _ e26 ?_
      rcases tq_selim hf with ⟨t27, t27q, hf⟩ | ⟨t27, t27q, hf⟩
      · rw [t27q]
        show tq_X _ _ _ _ _ _ _ _ _
        refine tq_iconst (-1 : Int32) rX12_propsOf_155 (by decide) ?_
        refine ty_iret rX12_propsOf_156 rfl rfl ?_
        have hf := Option.some.inj hf
        subst hf
        exact ⟨rfl, rfl, rfl⟩
      · rw [t27q]
        have hf := Option.some.inj hf
        subst hf
        exact ⟨rfl, rfl, rfl⟩
    · rw [t11q]
      have hf := Option.some.inj hf
      subst hf
      exact ⟨rfl, rfl, rfl⟩
  · rw [if_neg c2] at hf
    refine tq_iconst (0 : Int32) rX12_propsOf_10 (by decide) ?_
    refine ty_iret rX12_propsOf_11 rfl rfl ?_
    have hf := Option.some.inj hf
    subst hf
    exact ⟨rfl, rfl, rfl⟩

abbrev mX12_propped : tq_M := (yX12_propped, cX12_propped, 5, (Option.some Jvm.ClassFile.FieldType.int), 0, 0)
theorem moX12_propsOf : tq_mok mX12_propsOf 1 := ⟨tq_sg1 _ (List.mem_of_getElem? (i := 13) rfl), tq_sg8 _ (List.mem_of_getElem? (i := 98) rfl), ⟨by decide, by decide, by decide +kernel⟩, by decide⟩
theorem mvX12_propsOf : 12 < 13 ∧ (tq_cl 12).1 = mX12_propsOf.1.cls ∧ Cond.instanceMethod mX12_propsOf.1 ∈ lw_tbl ∧ Cond.selects mX12_propsOf.1.cls mX12_propsOf.1 mX12_propsOf.1 ∈ lw_tbl := ⟨by decide, rfl, tq_sg8 _ (List.mem_of_getElem? (i := 97) rfl), List.mem_append_left _ (List.mem_map.mpr ⟨_, List.mem_of_getElem? (i := 101) rfl, rfl⟩)⟩
theorem l_X12_363 : tq_lok RX12 363 mX12_propsOf.1 := Or.inl (tq_sg8 _ (List.mem_of_getElem? (i := 95) rfl))
theorem rX12_propped_0 : tq_D cX12_propped 0 (.aload_n 0) 1 1 := ⟨by decide +kernel, rfl⟩
theorem rX12_propped_1 : tq_D cX12_propped 1 (.iload_n 1) 1 2 := ⟨by decide +kernel, rfl⟩
theorem rX12_propped_2 : tq_D cX12_propped 2 (.invokevirtual 221) 3 5 := ⟨by decide +kernel, rfl⟩
theorem rX12_propped_5 : tq_J cX12_propped 5 (.ifCond .eq) 40 8 := ⟨35, by decide +kernel, by decide, rfl⟩
theorem rX12_propped_8 : tq_D cX12_propped 8 (.aload_n 0) 1 9 := ⟨by decide +kernel, rfl⟩
theorem rX12_propped_9 : tq_D cX12_propped 9 (.iload_n 2) 1 10 := ⟨by decide +kernel, rfl⟩
theorem rX12_propped_10 : tq_D cX12_propped 10 (.invokevirtual 233) 3 13 := ⟨by decide +kernel, rfl⟩
theorem rX12_propped_13 : tq_J cX12_propped 13 (.ifCond .eq) 40 16 := ⟨27, by decide +kernel, by decide, rfl⟩
theorem rX12_propped_16 : tq_D cX12_propped 16 (.aload_n 0) 1 17 := ⟨by decide +kernel, rfl⟩
theorem rX12_propped_17 : tq_D cX12_propped 17 (.getfield 7) 3 20 := ⟨by decide +kernel, rfl⟩
theorem rX12_propped_20 : tq_D cX12_propped 20 (.aload_n 0) 1 21 := ⟨by decide +kernel, rfl⟩
theorem rX12_propped_21 : tq_D cX12_propped 21 (.getfield 187) 3 24 := ⟨by decide +kernel, rfl⟩
theorem rX12_propped_24 : tq_D cX12_propped 24 (.iconst 2) 1 25 := ⟨by decide +kernel, rfl⟩
theorem rX12_propped_25 : tq_D cX12_propped 25 (.iadd) 1 26 := ⟨by decide +kernel, rfl⟩
theorem rX12_propped_26 : tq_D cX12_propped 26 (.iload_n 2) 1 27 := ⟨by decide +kernel, rfl⟩
theorem rX12_propped_27 : tq_D cX12_propped 27 (.iadd) 1 28 := ⟨by decide +kernel, rfl⟩
theorem rX12_propped_28 : tq_D cX12_propped 28 (.iaload) 1 29 := ⟨by decide +kernel, rfl⟩
theorem rX12_propped_29 : tq_D cX12_propped 29 (.invokestatic 208) 3 32 := ⟨by decide +kernel, rfl⟩
theorem rX12_propped_32 : tq_J cX12_propped 32 (.ifCond .eq) 40 35 := ⟨8, by decide +kernel, by decide, rfl⟩
theorem rX12_propped_35 : tq_D cX12_propped 35 (.iload_n 3) 1 36 := ⟨by decide +kernel, rfl⟩
theorem rX12_propped_36 : tq_D cX12_propped 36 (.iconst (-1)) 1 37 := ⟨by decide +kernel, rfl⟩
theorem rX12_propped_37 : tq_J cX12_propped 37 (.if_icmp .ge) 42 40 := ⟨5, by decide +kernel, by decide, rfl⟩
theorem rX12_propped_40 : tq_D cX12_propped 40 (.iconst (-1)) 1 41 := ⟨by decide +kernel, rfl⟩
theorem rX12_propped_41 : decode cX12_propped 41 = .ok (.ireturn, 1) := by decide +kernel
theorem rX12_propped_42 : tq_D cX12_propped 42 (.aload_n 0) 1 43 := ⟨by decide +kernel, rfl⟩
theorem rX12_propped_43 : tq_D cX12_propped 43 (.iload_n 2) 1 44 := ⟨by decide +kernel, rfl⟩
theorem rX12_propped_44 : tq_D cX12_propped 44 (.invokevirtual 363) 3 47 := ⟨by decide +kernel, rfl⟩
theorem rX12_propped_47 : tq_D cX12_propped 47 (.istore 4) 2 49 := ⟨by decide +kernel, rfl⟩
theorem rX12_propped_49 : tq_D cX12_propped 49 (.iload 4) 2 51 := ⟨by decide +kernel, rfl⟩
theorem rX12_propped_51 : tq_D cX12_propped 51 (.iconst (-1)) 1 52 := ⟨by decide +kernel, rfl⟩
theorem rX12_propped_52 : tq_J cX12_propped 52 (.if_icmp .eq) 60 55 := ⟨8, by decide +kernel, by decide, rfl⟩
theorem rX12_propped_55 : tq_D cX12_propped 55 (.iload_n 3) 1 56 := ⟨by decide +kernel, rfl⟩
theorem rX12_propped_56 : tq_D cX12_propped 56 (.iconst (-1)) 1 57 := ⟨by decide +kernel, rfl⟩
theorem rX12_propped_57 : tq_J cX12_propped 57 (.if_icmp .ne) 65 60 := ⟨8, by decide +kernel, by decide, rfl⟩
theorem rX12_propped_60 : tq_D cX12_propped 60 (.iload 4) 2 62 := ⟨by decide +kernel, rfl⟩
theorem rX12_propped_62 : tq_J cX12_propped 62 .goto 81 65 := ⟨19, by decide +kernel, by decide, rfl⟩
theorem rX12_propped_65 : tq_D cX12_propped 65 (.iload_n 3) 1 66 := ⟨by decide +kernel, rfl⟩
theorem rX12_propped_66 : tq_D cX12_propped 66 (.iload 4) 2 68 := ⟨by decide +kernel, rfl⟩
theorem rX12_propped_68 : tq_J cX12_propped 68 (.if_icmp .ge) 80 71 := ⟨12, by decide +kernel, by decide, rfl⟩
theorem rX12_propped_71 : tq_D cX12_propped 71 (.aload_n 0) 1 72 := ⟨by decide +kernel, rfl⟩
theorem rX12_propped_72 : tq_D cX12_propped 72 (.getfield 51) 3 75 := ⟨by decide +kernel, rfl⟩
theorem rX12_propped_75 : tq_D cX12_propped 75 (.iload_n 3) 1 76 := ⟨by decide +kernel, rfl⟩
theorem rX12_propped_76 : tq_D cX12_propped 76 (.iaload) 1 77 := ⟨by decide +kernel, rfl⟩
theorem rX12_propped_77 : tq_J cX12_propped 77 .goto 81 80 := ⟨4, by decide +kernel, by decide, rfl⟩
theorem rX12_propped_80 : tq_D cX12_propped 80 (.iconst (-1)) 1 81 := ⟨by decide +kernel, rfl⟩
theorem rX12_propped_81 : decode cX12_propped 81 = .ok (.ireturn, 1) := by decide +kernel
noncomputable def FX12_propped_j40 (I : tq_PI) (L : tq_PL)  : Option (Int32 × tq_PI) :=
  some ((-1 : Int32), I)
noncomputable def FX12_propped_j60 (I : tq_PI) (L : tq_PL) (a4 : Int32) : Option (Int32 × tq_PI) :=
  some (a4, I)
noncomputable def FX12_propped (I : tq_PI) (L : tq_PL) (a0 : Nat) (a1 : Int32) (a2 : Int32) (a3 : Int32) : Option (Int32 × tq_PI) :=
  ((FX12_isHill I L a0 a1).bind fun p1 => (if (tq_b p1.1) = 0 then (FX12_propped_j40 p1.2 L ) else (tq_let (FX12_isCell p1.2 L a0 a2) fun p3 => (if (tq_b p3) = 0 then (FX12_propped_j40 p1.2 L ) else (if 0 ≤ (((p1.2 a0 12) + (2 : Int32)) + a2) ∧ (((p1.2 a0 12) + (2 : Int32)) + a2) < 4016 then (tq_let (FX12_isStone p1.2 L ((p1.2 (tq_rg a0 0) ((((p1.2 a0 12) + (2 : Int32)) + a2)).toNatClampNeg))) fun p6 => (if (tq_b p6) = 0 then (FX12_propped_j40 p1.2 L ) else (if (-1 : Int32) ≤ a3 then ((FX12_propsOf p1.2 L a0 a2).bind fun p9 => (if p9.1 = (-1 : Int32) then (FX12_propped_j60 p9.2 L p9.1) else (if a3 = (-1 : Int32) then (FX12_propped_j60 p9.2 L p9.1) else (if p9.1 ≤ a3 then some ((-1 : Int32), p9.2) else (if 0 ≤ a3 ∧ a3 < 2 then some ((p9.2 (tq_rg a0 32) a3.toNatClampNeg), p9.2) else none))))) else (FX12_propped_j40 p1.2 L )))) else none)))))
set_option maxRecDepth 100000 in
set_option maxHeartbeats 4000000 in
theorem FX12_propped_j40_x {S : Nat × (Nat → Int32)} {d : Nat} {I : tq_PI} {L : tq_PL}   {q0 : Option Value → tq_PI → tq_PL → Prop} {out : Int32 × tq_PI} (hf : FX12_propped_j40 I L = some out) (hk : q0 (some (.int out.1)) out.2 L) : tq_X S mX12_propped (d + 7) tq_k0 40 ([tq_u, tq_u, tq_u, tq_u, tq_u]) ([]) (tq_st I L) (tq_Q q0) := by
  unfold FX12_propped_j40 at hf
  refine tq_iconst (-1 : Int32) rX12_propped_40 (by decide) ?_
  refine ty_iret rX12_propped_41 rfl rfl ?_
  have hf := Option.some.inj hf
  subst hf
  exact hk

set_option maxRecDepth 100000 in
set_option maxHeartbeats 4000000 in
theorem FX12_propped_j60_x {S : Nat × (Nat → Int32)} {d : Nat} {I : tq_PI} {L : tq_PL} {a4 : Int32}  {q0 : Option Value → tq_PI → tq_PL → Prop} {out : Int32 × tq_PI} (hf : FX12_propped_j60 I L a4 = some out) (hk : q0 (some (.int out.1)) out.2 L) : tq_X S mX12_propped (d + 7) tq_k0 60 ([tq_u, tq_u, tq_u, tq_u, .int a4]) ([]) (tq_st I L) (tq_Q q0) := by
  unfold FX12_propped_j60 at hf
  refine tq_iload rX12_propped_60 rfl ?_
  refine tq_goto rX12_propped_62 ?_
  refine ty_iret rX12_propped_81 rfl rfl ?_
  have hf := Option.some.inj hf
  subst hf
  exact hk

set_option maxRecDepth 100000 in
set_option maxHeartbeats 4000000 in
theorem CX12_propped {S : Nat × (Nat → Int32)} {d : Nat} {I : tq_PI} {L : tq_PL} {a0 : Nat} {a1 : Int32} {a2 : Int32} {a3 : Int32} (h0 : tq_sh0 a0 = 12) {out : Int32 × tq_PI} (hf : FX12_propped I L a0 a1 a2 a3 = some out) : tq_K S mX12_propped (d + 7) [.ref a0, .int a1, .int a2, .int a3] I L (tq_one2 (some (.int out.1)) out.2 L) := by
  unfold FX12_propped at hf
  refine tq_K_of (by decide) (Nat.le_of_ble_eq_true rfl) (ls := [.ref a0, .int a1, .int a2, .int a3, tq_u]) rfl ?_
  refine tq_aload_n rX12_propped_0 rfl ?_
  refine tq_iload_n rX12_propped_1 rfl ?_
  obtain ⟨p1, e1, hf⟩ := Option.bind_eq_some_iff.mp hf
  refine ty_callVI (tq_b p1.1) ([.int a1]) ([]) rX12_propped_2 l_X12_221 moX12_isHill mvX12_isHill h0 rfl rfl (Nat.le_of_ble_eq_true rfl) ⟨rfl, rfl⟩ (CX12_isHill h0 e1) ?_
  refine tq_if_eq rX12_propped_5 (fun c2 => ?_) (fun c2 => ?_)
  · rw [if_pos c2] at hf
    exact tq_forget _ (tq_le_u (tq_le_u (tq_le_u (tq_le_u (tq_le_u tq_le_n))))) (FX12_propped_j40_x   hf ⟨rfl, rfl, rfl⟩)
  · rw [if_neg c2] at hf
    refine tq_aload_n rX12_propped_8 rfl ?_
    refine tq_iload_n rX12_propped_9 rfl ?_
    obtain ⟨p3, e3, hf⟩ := tq_let_elim hf
    refine ty_callVI (tq_b p3) ([.int a2]) ([]) rX12_propped_10 l_X12_233 moX12_isCell mvX12_isCell h0 rfl rfl (Nat.le_of_ble_eq_true rfl) ⟨rfl, rfl⟩ (CX12_isCell h0 e3) ?_
    refine tq_if_eq rX12_propped_13 (fun c4 => ?_) (fun c4 => ?_)
    · rw [if_pos c4] at hf
      exact tq_forget _ (tq_le_u (tq_le_u (tq_le_u (tq_le_u (tq_le_u tq_le_n))))) (FX12_propped_j40_x   hf ⟨rfl, rfl, rfl⟩)
    · rw [if_neg c4] at hf
      refine tq_aload_n rX12_propped_16 rfl ?_
      refine ty_getR rX12_propped_17 f_X12_7 rfl h0 (hp_12_0 h0).1 ?_
      refine tq_aload_n rX12_propped_20 rfl ?_
      refine ty_getI rX12_propped_21 f_X12_187 rfl h0 ?_
      refine tq_iconst (2 : Int32) rX12_propped_24 (by decide) ?_
      refine tq_iadd rX12_propped_25 ?_
      refine tq_iload_n rX12_propped_26 rfl ?_
      refine tq_iadd rX12_propped_27 ?_
      obtain ⟨g5, hf⟩ := tq_chk hf
      refine ty_iald (v := 4016) rX12_propped_28 (hp_12_0 h0).2.1 (hp_12_0 h0).2.2 rfl (by decide) g5 ?_
      obtain ⟨p6, e6, hf⟩ := tq_let_elim hf
      refine ty_callSI (tq_b p6) ([.int (p1.2 (tq_rg a0 0) ((((p1.2 a0 12) + (2 : Int32)) + a2)).toNatClampNeg)]) ([]) rX12_propped_29 l_X12_208 moX12_isStone msX12_isStone rfl rfl (Nat.le_of_ble_eq_true rfl) ⟨rfl, rfl⟩ (CX12_isStone  e6) ?_
      refine tq_if_eq rX12_propped_32 (fun c7 => ?_) (fun c7 => ?_)
      · rw [if_pos c7] at hf
        exact tq_forget _ (tq_le_u (tq_le_u (tq_le_u (tq_le_u (tq_le_u tq_le_n))))) (FX12_propped_j40_x   hf ⟨rfl, rfl, rfl⟩)
      · rw [if_neg c7] at hf
        refine tq_iload_n rX12_propped_35 rfl ?_
        refine tq_iconst (-1 : Int32) rX12_propped_36 (by decide) ?_
        refine tq_icmp_ge rX12_propped_37 (fun c8 => ?_) (fun c8 => ?_)
        · rw [if_pos c8] at hf
          refine tq_aload_n rX12_propped_42 rfl ?_
          refine tq_iload_n rX12_propped_43 rfl ?_
          obtain ⟨p9, e9, hf⟩ := Option.bind_eq_some_iff.mp hf
          refine ty_callVI p9.1 ([.int a2]) ([]) rX12_propped_44 l_X12_363 moX12_propsOf mvX12_propsOf h0 rfl rfl (Nat.le_of_ble_eq_true rfl) ⟨rfl, rfl⟩ (CX12_propsOf h0 e9) ?_
          refine tq_istore ([.ref a0, .int a1, .int a2, .int a3, .int p9.1]) rX12_propped_47 (Nat.le_of_ble_eq_true rfl) rfl ?_
          refine tq_iload rX12_propped_49 rfl ?_
          refine tq_iconst (-1 : Int32) rX12_propped_51 (by decide) ?_
          refine tq_icmp_eq rX12_propped_52 (fun c10 => ?_) (fun c10 => ?_)
          · rw [if_pos c10] at hf
            exact tq_forget _ (tq_le_u (tq_le_u (tq_le_u (tq_le_u (tq_le_s tq_le_n))))) (FX12_propped_j60_x   hf ⟨rfl, rfl, rfl⟩)
          · rw [if_neg c10] at hf
            refine tq_iload_n rX12_propped_55 rfl ?_
            refine tq_iconst (-1 : Int32) rX12_propped_56 (by decide) ?_
            refine tq_icmp_ne rX12_propped_57 (fun c11 => ?_) (fun c11 => ?_)
            · rw [if_neg c11] at hf
              refine tq_iload_n rX12_propped_65 rfl ?_
              refine tq_iload rX12_propped_66 rfl ?_
              refine tq_icmp_ge rX12_propped_68 (fun c12 => ?_) (fun c12 => ?_)
              · rw [if_pos c12] at hf
                refine tq_iconst (-1 : Int32) rX12_propped_80 (by decide) ?_
                refine ty_iret rX12_propped_81 rfl rfl ?_
                have hf := Option.some.inj hf
                subst hf
                exact ⟨rfl, rfl, rfl⟩
              · rw [if_neg c12] at hf
                refine tq_aload_n rX12_propped_71 rfl ?_
                refine ty_getR rX12_propped_72 f_X12_51 rfl h0 (hp_12_32 h0).1 ?_
                refine tq_iload_n rX12_propped_75 rfl ?_
                obtain ⟨g13, hf⟩ := tq_chk hf
                refine ty_iald (v := 2) rX12_propped_76 (hp_12_32 h0).2.1 (hp_12_32 h0).2.2 rfl (by decide) g13 ?_
                refine tq_goto rX12_propped_77 ?_
                refine ty_iret rX12_propped_81 rfl rfl ?_
                have hf := Option.some.inj hf
                subst hf
                exact ⟨rfl, rfl, rfl⟩
            · rw [if_pos c11] at hf
              exact tq_forget _ (tq_le_u (tq_le_u (tq_le_u (tq_le_u (tq_le_s tq_le_n))))) (FX12_propped_j60_x   hf ⟨rfl, rfl, rfl⟩)
        · rw [if_neg c8] at hf
          exact tq_forget _ (tq_le_u (tq_le_u (tq_le_u (tq_le_u (tq_le_u tq_le_n))))) (FX12_propped_j40_x   hf ⟨rfl, rfl, rfl⟩)

abbrev mX12_common : tq_M := (yX12_common, cX12_common, 10, (Option.some Jvm.ClassFile.FieldType.long), 0, 0)
theorem rX12_common_0 : tq_D cX12_common 0 (.lload_n 0) 1 1 := ⟨by decide +kernel, rfl⟩
theorem rX12_common_1 : tq_D cX12_common 1 (.lstore 4) 2 3 := ⟨by decide +kernel, rfl⟩
theorem rX12_common_3 : tq_D cX12_common 3 (.lload_n 2) 1 4 := ⟨by decide +kernel, rfl⟩
theorem rX12_common_4 : tq_D cX12_common 4 (.lstore 6) 2 6 := ⟨by decide +kernel, rfl⟩
theorem rX12_common_6 : tq_D cX12_common 6 (.lload 6) 2 8 := ⟨by decide +kernel, rfl⟩
theorem rX12_common_8 : tq_D cX12_common 8 (.lconst 0) 1 9 := ⟨by decide +kernel, rfl⟩
theorem rX12_common_9 : tq_D cX12_common 9 (.lcmp) 1 10 := ⟨by decide +kernel, rfl⟩
theorem rX12_common_10 : tq_J cX12_common 10 (.ifCond .eq) 31 13 := ⟨21, by decide +kernel, by decide, rfl⟩
theorem rX12_common_13 : tq_D cX12_common 13 (.lload 4) 2 15 := ⟨by decide +kernel, rfl⟩
theorem rX12_common_15 : tq_D cX12_common 15 (.lload 6) 2 17 := ⟨by decide +kernel, rfl⟩
theorem rX12_common_17 : tq_D cX12_common 17 (.lrem) 1 18 := ⟨by decide +kernel, rfl⟩
theorem rX12_common_18 : tq_D cX12_common 18 (.lstore 8) 2 20 := ⟨by decide +kernel, rfl⟩
theorem rX12_common_20 : tq_D cX12_common 20 (.lload 6) 2 22 := ⟨by decide +kernel, rfl⟩
theorem rX12_common_22 : tq_D cX12_common 22 (.lstore 4) 2 24 := ⟨by decide +kernel, rfl⟩
theorem rX12_common_24 : tq_D cX12_common 24 (.lload 8) 2 26 := ⟨by decide +kernel, rfl⟩
theorem rX12_common_26 : tq_D cX12_common 26 (.lstore 6) 2 28 := ⟨by decide +kernel, rfl⟩
theorem rX12_common_28 : tq_J cX12_common 28 .goto 6 31 := ⟨(-22), by decide +kernel, by decide, rfl⟩
theorem rX12_common_31 : tq_D cX12_common 31 (.lload 4) 2 33 := ⟨by decide +kernel, rfl⟩
theorem rX12_common_33 : decode cX12_common 33 = .ok (.lreturn, 1) := by decide +kernel
noncomputable def FX12_common_s6 (I : tq_PI) (L : tq_PL) (a4 : Int64) (a6 : Int64) : Option ((Int64 × Int64) ⊕ (Int64)) :=
  (if (lg_cmp a6 (0 : Int64)) = 0 then some (.inr a4) else (if ¬ a6 = 0 then some (.inl (a6, (a4 - a4 / a6 * a6))) else none))
noncomputable def FX12_common (I : tq_PI) (L : tq_PL) (a0 : Int64) (a2 : Int64) : Option (Int64) :=
  ((tq_it (fun p : Int64 × Int64 => FX12_common_s6 I L  p.1 p.2) tq_N (a0, a2)).bind fun p3 => some p3)
set_option maxRecDepth 100000 in
set_option maxHeartbeats 4000000 in
theorem FX12_common_s6_x {S : Nat × (Nat → Int32)} {d : Nat} {I : tq_PI} {L : tq_PL} {a4 : Int64} {a6 : Int64}  {q0 : Option Value → tq_PI → tq_PL → Prop} {out : (Int64 × Int64) ⊕ (Int64)} (hf : FX12_common_s6 I L a4 a6 = some out) (hk : Sum.elim (fun p : Int64 × Int64 => tq_X S mX12_common d tq_k0 6 ([tq_u, tq_u, tq_u, tq_u, .long p.1, tq_u, .long p.2, tq_u, tq_u, tq_u]) [] (tq_st I L) (tq_Q q0)) (fun p : Int64 => tq_X S mX12_common d tq_k0 31 ([tq_u, tq_u, tq_u, tq_u, .long p, tq_u, tq_u, tq_u, tq_u, tq_u]) [] (tq_st I L) (tq_Q q0)) out) : tq_X S mX12_common d tq_k0 6 ([tq_u, tq_u, tq_u, tq_u, .long a4, tq_u, .long a6, tq_u, tq_u, tq_u]) [] (tq_st I L) (tq_Q q0) := by
  unfold FX12_common_s6 at hf
  refine tq_lload rX12_common_6 rfl ?_
  refine tq_lconst (0 : Int64) rX12_common_8 (by decide) ?_
  refine tq_lcmp rX12_common_9 ?_
  refine tq_if_eq rX12_common_10 (fun c1 => ?_) (fun c1 => ?_)
  · rw [if_pos c1] at hf
    have hf := Option.some.inj hf
    subst hf
    exact tq_forget _ (tq_le_u (tq_le_u (tq_le_u (tq_le_u (tq_le_s (tq_le_u (tq_le_u (tq_le_u (tq_le_u (tq_le_u tq_le_n)))))))))) hk
  · rw [if_neg c1] at hf
    refine tq_lload rX12_common_13 rfl ?_
    refine tq_lload rX12_common_15 rfl ?_
    obtain ⟨g2, hf⟩ := tq_chk hf
    refine tq_lrem rX12_common_17 g2 ?_
    refine tq_lstore ([tq_u, tq_u, tq_u, tq_u, .long a4, tq_u, .long a6, tq_u, .long (a4 - a4 / a6 * a6), tq_u]) rX12_common_18 (Nat.le_of_ble_eq_true rfl) rfl ?_
    refine tq_lload rX12_common_20 rfl ?_
    refine tq_lstore ([tq_u, tq_u, tq_u, tq_u, .long a6, tq_u, .long a6, tq_u, .long (a4 - a4 / a6 * a6), tq_u]) rX12_common_22 (Nat.le_of_ble_eq_true rfl) rfl ?_
    refine tq_lload rX12_common_24 rfl ?_
    refine tq_lstore ([tq_u, tq_u, tq_u, tq_u, .long a6, tq_u, .long (a4 - a4 / a6 * a6), tq_u, .long (a4 - a4 / a6 * a6), tq_u]) rX12_common_26 (Nat.le_of_ble_eq_true rfl) rfl ?_
    refine tq_goto rX12_common_28 ?_
    have hf := Option.some.inj hf
    subst hf
    exact tq_forget _ (tq_le_u (tq_le_u (tq_le_u (tq_le_u (tq_le_s (tq_le_u (tq_le_s (tq_le_u (tq_le_u (tq_le_u tq_le_n)))))))))) hk

set_option maxRecDepth 100000 in
set_option maxHeartbeats 4000000 in
theorem CX12_common {S : Nat × (Nat → Int32)} {d : Nat} {I : tq_PI} {L : tq_PL} {a0 : Int64} {a2 : Int64}  {out : Int64} (hf : FX12_common I L a0 a2 = some out) : tq_K S mX12_common d [.long a0, .long a2] I L (tq_one2 (some (.long out)) I L) := by
  unfold FX12_common at hf
  refine tq_K_of (by decide) (Nat.le_of_ble_eq_true rfl) (ls := [.long a0, tq_u, .long a2, tq_u, tq_u, tq_u, tq_u, tq_u, tq_u, tq_u]) rfl ?_
  refine tq_lload_n rX12_common_0 rfl ?_
  refine tq_lstore ([.long a0, tq_u, .long a2, tq_u, .long a0, tq_u, tq_u, tq_u, tq_u, tq_u]) rX12_common_1 (Nat.le_of_ble_eq_true rfl) rfl ?_
  refine tq_lload_n rX12_common_3 rfl ?_
  refine tq_lstore ([.long a0, tq_u, .long a2, tq_u, .long a0, tq_u, .long a2, tq_u, tq_u, tq_u]) rX12_common_4 (Nat.le_of_ble_eq_true rfl) rfl ?_
  obtain ⟨p3, e3, hf⟩ := Option.bind_eq_some_iff.mp hf
  refine tq_forget _ (tq_le_u (tq_le_u (tq_le_u (tq_le_u (tq_le_s (tq_le_u (tq_le_s (tq_le_u (tq_le_u (tq_le_u tq_le_n)))))))))) ?_
  refine tq_it_elim (P := fun p : Int64 × Int64 => tq_X S mX12_common d tq_k0 6 ([tq_u, tq_u, tq_u, tq_u, .long p.1, tq_u, .long p.2, tq_u, tq_u, tq_u]) [] (tq_st I L) (tq_Q (tq_one2 (some (.long out)) I L))) (R := fun p : Int64 => tq_X S mX12_common d tq_k0 31 ([tq_u, tq_u, tq_u, tq_u, .long p, tq_u, tq_u, tq_u, tq_u, tq_u]) [] (tq_st I L) (tq_Q (tq_one2 (some (.long out)) I L))) (fun p o hp hk => FX12_common_s6_x   hp hk) _ ((a0, a2)) _ e3 ?_
  show tq_X _ _ _ _ _ _ _ _ _
  refine tq_lload rX12_common_31 rfl ?_
  refine ty_lret rX12_common_33 rfl rfl ?_
  have hf := Option.some.inj hf
  subst hf
  exact ⟨rfl, rfl, rfl⟩

abbrev mX12_quakes : tq_M := (yX12_quakes, cX12_quakes, 7, (Option.some Jvm.ClassFile.FieldType.long), 0, 0)
theorem rX12_quakes_0 : tq_D cX12_quakes 0 (.aload_n 0) 1 1 := ⟨by decide +kernel, rfl⟩
theorem rX12_quakes_1 : tq_D cX12_quakes 1 (.invokevirtual 224) 3 4 := ⟨by decide +kernel, rfl⟩
theorem rX12_quakes_4 : tq_D cX12_quakes 4 (.lconst 1) 1 5 := ⟨by decide +kernel, rfl⟩
theorem rX12_quakes_5 : tq_D cX12_quakes 5 (.lstore_n 3) 1 6 := ⟨by decide +kernel, rfl⟩
theorem rX12_quakes_6 : tq_D cX12_quakes 6 (.iconst 0) 1 7 := ⟨by decide +kernel, rfl⟩
theorem rX12_quakes_7 : tq_D cX12_quakes 7 (.istore 5) 2 9 := ⟨by decide +kernel, rfl⟩
theorem rX12_quakes_9 : tq_D cX12_quakes 9 (.iload 5) 2 11 := ⟨by decide +kernel, rfl⟩
theorem rX12_quakes_11 : tq_D cX12_quakes 11 (.aload_n 0) 1 12 := ⟨by decide +kernel, rfl⟩
theorem rX12_quakes_12 : tq_D cX12_quakes 12 (.getfield 148) 3 15 := ⟨by decide +kernel, rfl⟩
theorem rX12_quakes_15 : tq_J cX12_quakes 15 (.if_icmp .ge) 115 18 := ⟨100, by decide +kernel, by decide, rfl⟩
theorem rX12_quakes_18 : tq_D cX12_quakes 18 (.aload_n 0) 1 19 := ⟨by decide +kernel, rfl⟩
theorem rX12_quakes_19 : tq_D cX12_quakes 19 (.getfield 148) 3 22 := ⟨by decide +kernel, rfl⟩
theorem rX12_quakes_22 : tq_D cX12_quakes 22 (.aload_n 0) 1 23 := ⟨by decide +kernel, rfl⟩
theorem rX12_quakes_23 : tq_D cX12_quakes 23 (.getfield 151) 3 26 := ⟨by decide +kernel, rfl⟩
theorem rX12_quakes_26 : tq_D cX12_quakes 26 (.iconst 1) 1 27 := ⟨by decide +kernel, rfl⟩
theorem rX12_quakes_27 : tq_D cX12_quakes 27 (.isub) 1 28 := ⟨by decide +kernel, rfl⟩
theorem rX12_quakes_28 : tq_D cX12_quakes 28 (.imul) 1 29 := ⟨by decide +kernel, rfl⟩
theorem rX12_quakes_29 : tq_D cX12_quakes 29 (.iload 5) 2 31 := ⟨by decide +kernel, rfl⟩
theorem rX12_quakes_31 : tq_D cX12_quakes 31 (.iadd) 1 32 := ⟨by decide +kernel, rfl⟩
theorem rX12_quakes_32 : tq_D cX12_quakes 32 (.istore 6) 2 34 := ⟨by decide +kernel, rfl⟩
theorem rX12_quakes_34 : tq_D cX12_quakes 34 (.aload_n 0) 1 35 := ⟨by decide +kernel, rfl⟩
theorem rX12_quakes_35 : tq_D cX12_quakes 35 (.iconst 0) 1 36 := ⟨by decide +kernel, rfl⟩
theorem rX12_quakes_36 : tq_D cX12_quakes 36 (.iload 6) 2 38 := ⟨by decide +kernel, rfl⟩
theorem rX12_quakes_38 : tq_D cX12_quakes 38 (.invokevirtual 193) 3 41 := ⟨by decide +kernel, rfl⟩
theorem rX12_quakes_41 : tq_D cX12_quakes 41 (.invokestatic 208) 3 44 := ⟨by decide +kernel, rfl⟩
theorem rX12_quakes_44 : tq_J cX12_quakes 44 (.ifCond .ne) 68 47 := ⟨24, by decide +kernel, by decide, rfl⟩
theorem rX12_quakes_47 : tq_D cX12_quakes 47 (.lload_n 3) 1 48 := ⟨by decide +kernel, rfl⟩
theorem rX12_quakes_48 : tq_D cX12_quakes 48 (.iload_n 1) 1 49 := ⟨by decide +kernel, rfl⟩
theorem rX12_quakes_49 : tq_D cX12_quakes 49 (.iload 5) 2 51 := ⟨by decide +kernel, rfl⟩
theorem rX12_quakes_51 : tq_D cX12_quakes 51 (.ishr) 1 52 := ⟨by decide +kernel, rfl⟩
theorem rX12_quakes_52 : tq_D cX12_quakes 52 (.iconst 1) 1 53 := ⟨by decide +kernel, rfl⟩
theorem rX12_quakes_53 : tq_D cX12_quakes 53 (.iand) 1 54 := ⟨by decide +kernel, rfl⟩
theorem rX12_quakes_54 : tq_D cX12_quakes 54 (.iconst 1) 1 55 := ⟨by decide +kernel, rfl⟩
theorem rX12_quakes_55 : tq_J cX12_quakes 55 (.if_icmp .ne) 62 58 := ⟨7, by decide +kernel, by decide, rfl⟩
theorem rX12_quakes_58 : tq_D cX12_quakes 58 (.lconst 0) 1 59 := ⟨by decide +kernel, rfl⟩
theorem rX12_quakes_59 : tq_J cX12_quakes 59 .goto 63 62 := ⟨4, by decide +kernel, by decide, rfl⟩
theorem rX12_quakes_62 : tq_D cX12_quakes 62 (.lconst 1) 1 63 := ⟨by decide +kernel, rfl⟩
theorem rX12_quakes_63 : tq_D cX12_quakes 63 (.lmul) 1 64 := ⟨by decide +kernel, rfl⟩
theorem rX12_quakes_64 : tq_D cX12_quakes 64 (.lstore_n 3) 1 65 := ⟨by decide +kernel, rfl⟩
theorem rX12_quakes_65 : tq_J cX12_quakes 65 .goto 109 68 := ⟨44, by decide +kernel, by decide, rfl⟩
theorem rX12_quakes_68 : tq_D cX12_quakes 68 (.lload_n 3) 1 69 := ⟨by decide +kernel, rfl⟩
theorem rX12_quakes_69 : tq_D cX12_quakes 69 (.iload_n 1) 1 70 := ⟨by decide +kernel, rfl⟩
theorem rX12_quakes_70 : tq_D cX12_quakes 70 (.iload 5) 2 72 := ⟨by decide +kernel, rfl⟩
theorem rX12_quakes_72 : tq_D cX12_quakes 72 (.ishr) 1 73 := ⟨by decide +kernel, rfl⟩
theorem rX12_quakes_73 : tq_D cX12_quakes 73 (.iconst 1) 1 74 := ⟨by decide +kernel, rfl⟩
theorem rX12_quakes_74 : tq_D cX12_quakes 74 (.iand) 1 75 := ⟨by decide +kernel, rfl⟩
theorem rX12_quakes_75 : tq_D cX12_quakes 75 (.iconst 1) 1 76 := ⟨by decide +kernel, rfl⟩
theorem rX12_quakes_76 : tq_J cX12_quakes 76 (.if_icmp .ne) 84 79 := ⟨8, by decide +kernel, by decide, rfl⟩
theorem rX12_quakes_79 : tq_D cX12_quakes 79 (.iload_n 2) 1 80 := ⟨by decide +kernel, rfl⟩
theorem rX12_quakes_80 : tq_D cX12_quakes 80 (.i2l) 1 81 := ⟨by decide +kernel, rfl⟩
theorem rX12_quakes_81 : tq_J cX12_quakes 81 .goto 89 84 := ⟨8, by decide +kernel, by decide, rfl⟩
theorem rX12_quakes_84 : tq_D cX12_quakes 84 (.bipush 10) 2 86 := ⟨by decide +kernel, rfl⟩
theorem rX12_quakes_86 : tq_D cX12_quakes 86 (.iload_n 2) 1 87 := ⟨by decide +kernel, rfl⟩
theorem rX12_quakes_87 : tq_D cX12_quakes 87 (.isub) 1 88 := ⟨by decide +kernel, rfl⟩
theorem rX12_quakes_88 : tq_D cX12_quakes 88 (.i2l) 1 89 := ⟨by decide +kernel, rfl⟩
theorem rX12_quakes_89 : tq_D cX12_quakes 89 (.lmul) 1 90 := ⟨by decide +kernel, rfl⟩
theorem rX12_quakes_90 : tq_D cX12_quakes 90 (.lstore_n 3) 1 91 := ⟨by decide +kernel, rfl⟩
theorem rX12_quakes_91 : tq_D cX12_quakes 91 (.iload_n 1) 1 92 := ⟨by decide +kernel, rfl⟩
theorem rX12_quakes_92 : tq_D cX12_quakes 92 (.iload 5) 2 94 := ⟨by decide +kernel, rfl⟩
theorem rX12_quakes_94 : tq_D cX12_quakes 94 (.ishr) 1 95 := ⟨by decide +kernel, rfl⟩
theorem rX12_quakes_95 : tq_D cX12_quakes 95 (.iconst 1) 1 96 := ⟨by decide +kernel, rfl⟩
theorem rX12_quakes_96 : tq_D cX12_quakes 96 (.iand) 1 97 := ⟨by decide +kernel, rfl⟩
theorem rX12_quakes_97 : tq_D cX12_quakes 97 (.iconst 1) 1 98 := ⟨by decide +kernel, rfl⟩
theorem rX12_quakes_98 : tq_J cX12_quakes 98 (.if_icmp .ne) 109 101 := ⟨11, by decide +kernel, by decide, rfl⟩
theorem rX12_quakes_101 : tq_D cX12_quakes 101 (.aload_n 0) 1 102 := ⟨by decide +kernel, rfl⟩
theorem rX12_quakes_102 : tq_D cX12_quakes 102 (.getfield 20) 3 105 := ⟨by decide +kernel, rfl⟩
theorem rX12_quakes_105 : tq_D cX12_quakes 105 (.iload 6) 2 107 := ⟨by decide +kernel, rfl⟩
theorem rX12_quakes_107 : tq_D cX12_quakes 107 (.iconst 0) 1 108 := ⟨by decide +kernel, rfl⟩
theorem rX12_quakes_108 : tq_D cX12_quakes 108 (.iastore) 1 109 := ⟨by decide +kernel, rfl⟩
theorem rX12_quakes_109 : tq_D cX12_quakes 109 (.iinc 5 1) 3 112 := ⟨by decide +kernel, rfl⟩
theorem rX12_quakes_112 : tq_J cX12_quakes 112 .goto 9 115 := ⟨(-103), by decide +kernel, by decide, rfl⟩
theorem rX12_quakes_115 : tq_D cX12_quakes 115 (.lload_n 3) 1 116 := ⟨by decide +kernel, rfl⟩
theorem rX12_quakes_116 : tq_D cX12_quakes 116 (.lconst 0) 1 117 := ⟨by decide +kernel, rfl⟩
theorem rX12_quakes_117 : tq_D cX12_quakes 117 (.lcmp) 1 118 := ⟨by decide +kernel, rfl⟩
theorem rX12_quakes_118 : tq_J cX12_quakes 118 (.ifCond .ne) 125 121 := ⟨7, by decide +kernel, by decide, rfl⟩
theorem rX12_quakes_121 : tq_D cX12_quakes 121 (.lconst 0) 1 122 := ⟨by decide +kernel, rfl⟩
theorem rX12_quakes_122 : tq_J cX12_quakes 122 .goto 133 125 := ⟨11, by decide +kernel, by decide, rfl⟩
theorem rX12_quakes_125 : tq_D cX12_quakes 125 (.lload_n 3) 1 126 := ⟨by decide +kernel, rfl⟩
theorem rX12_quakes_126 : tq_D cX12_quakes 126 (.aload_n 0) 1 127 := ⟨by decide +kernel, rfl⟩
theorem rX12_quakes_127 : tq_D cX12_quakes 127 (.iconst 0) 1 128 := ⟨by decide +kernel, rfl⟩
theorem rX12_quakes_128 : tq_D cX12_quakes 128 (.invokevirtual 199) 3 131 := ⟨by decide +kernel, rfl⟩
theorem rX12_quakes_131 : tq_D cX12_quakes 131 (.i2l) 1 132 := ⟨by decide +kernel, rfl⟩
theorem rX12_quakes_132 : tq_D cX12_quakes 132 (.lmul) 1 133 := ⟨by decide +kernel, rfl⟩
theorem rX12_quakes_133 : decode cX12_quakes 133 = .ok (.lreturn, 1) := by decide +kernel
noncomputable def FX12_quakes_j109L9 (I : tq_PI) (L : tq_PL) (a0 : Nat) (a1 : Int32) (a2 : Int32) (a3 : Int64) (a5 : Int32) : Option ((Int64 × Int32 × tq_PI) ⊕ (Int64 × tq_PI)) :=
  some (.inl (a3, (a5 + 1), I))
noncomputable def FX12_quakes_j89L9 (I : tq_PI) (L : tq_PL) (a0 : Nat) (a1 : Int32) (a2 : Int32) (a5 : Int32) (a6 : Int32) (b0 : Int64) (b1 : Int64) : Option ((Int64 × Int32 × tq_PI) ⊕ (Int64 × tq_PI)) :=
  (if ((a1 >>> (a5 &&& 31)) &&& (1 : Int32)) = (1 : Int32) then (if 0 ≤ a6 ∧ a6 < 192 then (FX12_quakes_j109L9 ((tq_up2 I (tq_rg a0 15) a6.toNatClampNeg (0 : Int32))) L a0 a1 a2 ((b1 * b0)) a5) else none) else (FX12_quakes_j109L9 I L a0 a1 a2 ((b1 * b0)) a5))
noncomputable def FX12_quakes_j63L9 (I : tq_PI) (L : tq_PL) (a0 : Nat) (a1 : Int32) (a2 : Int32) (a5 : Int32) (b0 : Int64) (b1 : Int64) : Option ((Int64 × Int32 × tq_PI) ⊕ (Int64 × tq_PI)) :=
  (FX12_quakes_j109L9 I L a0 a1 a2 ((b1 * b0)) a5)
noncomputable def FX12_quakes_s9 (I : tq_PI) (L : tq_PL) (a0 : Nat) (a1 : Int32) (a2 : Int32) (a3 : Int64) (a5 : Int32) : Option ((Int64 × Int32 × tq_PI) ⊕ (Int64 × tq_PI)) :=
  (if (I a0 13) ≤ a5 then some (.inr (a3, I)) else ((FX12_kindOf I L a0 ((0 : Int32)) ((((I a0 13) * ((I a0 14) - (1 : Int32))) + a5))).bind fun p3 => (tq_let (FX12_isStone I L p3) fun p4 => (if (tq_b p4) = 0 then (if ((a1 >>> (a5 &&& 31)) &&& (1 : Int32)) = (1 : Int32) then (FX12_quakes_j63L9 I L a0 a1 a2 a5 ((0 : Int64)) a3) else (FX12_quakes_j63L9 I L a0 a1 a2 a5 ((1 : Int64)) a3)) else (if ((a1 >>> (a5 &&& 31)) &&& (1 : Int32)) = (1 : Int32) then (FX12_quakes_j89L9 I L a0 a1 a2 a5 ((((I a0 13) * ((I a0 14) - (1 : Int32))) + a5)) ((Int32.toInt64 a2)) a3) else (FX12_quakes_j89L9 I L a0 a1 a2 a5 ((((I a0 13) * ((I a0 14) - (1 : Int32))) + a5)) ((Int32.toInt64 ((10 : Int32) - a2))) a3))))))
noncomputable def FX12_quakes (I : tq_PI) (L : tq_PL) (a0 : Nat) (a1 : Int32) (a2 : Int32) : Option (Int64 × tq_PI) :=
  ((FX12_asTold I L a0).bind fun p1 => ((tq_it (fun p : Int64 × Int32 × tq_PI => FX12_quakes_s9 p.2.2 L a0 a1 a2 p.1 p.2.1) tq_N ((1 : Int64), (0 : Int32), p1)).bind fun p10 => (if (lg_cmp p10.1 (0 : Int64)) = 0 then some ((0 : Int64), p10.2) else ((FX12_falls p10.2 L a0 ((0 : Int32))).bind fun p12 => some ((p10.1 * (Int32.toInt64 p12.1)), p12.2)))))
set_option maxRecDepth 100000 in
set_option maxHeartbeats 4000000 in
theorem FX12_quakes_j109L9_x {S : Nat × (Nat → Int32)} {d : Nat} {I : tq_PI} {L : tq_PL} {a0 : Nat} {a1 : Int32} {a2 : Int32} {a3 : Int64} {a5 : Int32} (h0 : tq_sh0 a0 = 12) {q0 : Option Value → tq_PI → tq_PL → Prop} {out : (Int64 × Int32 × tq_PI) ⊕ (Int64 × tq_PI)} (hf : FX12_quakes_j109L9 I L a0 a1 a2 a3 a5 = some out) (hk : Sum.elim (fun p : Int64 × Int32 × tq_PI => tq_X S mX12_quakes (d + 4) tq_k0 9 ([.ref a0, .int a1, .int a2, .long p.1, tq_u, .int p.2.1, tq_u]) [] (tq_st p.2.2 L) (tq_Q q0)) (fun p : Int64 × tq_PI => tq_X S mX12_quakes (d + 4) tq_k0 115 ([.ref a0, tq_u, tq_u, .long p.1, tq_u, tq_u, tq_u]) [] (tq_st p.2 L) (tq_Q q0)) out) : tq_X S mX12_quakes (d + 4) tq_k0 109 ([.ref a0, .int a1, .int a2, .long a3, tq_u, .int a5, tq_u]) ([]) (tq_st I L) (tq_Q q0) := by
  unfold FX12_quakes_j109L9 at hf
  refine tq_iinc (a5 + 1) ([.ref a0, .int a1, .int a2, .long a3, tq_u, .int (a5 + 1), tq_u]) rX12_quakes_109 rfl (tq_inc (by decide)) (Nat.le_of_ble_eq_true rfl) rfl ?_
  refine tq_goto rX12_quakes_112 ?_
  have hf := Option.some.inj hf
  subst hf
  exact tq_forget _ (tq_le_s (tq_le_s (tq_le_s (tq_le_s (tq_le_u (tq_le_s (tq_le_u tq_le_n))))))) hk

set_option maxRecDepth 100000 in
set_option maxHeartbeats 4000000 in
theorem FX12_quakes_j89L9_x {S : Nat × (Nat → Int32)} {d : Nat} {I : tq_PI} {L : tq_PL} {a0 : Nat} {a1 : Int32} {a2 : Int32} {a5 : Int32} {a6 : Int32} {b0 : Int64} {b1 : Int64} (h0 : tq_sh0 a0 = 12) {q0 : Option Value → tq_PI → tq_PL → Prop} {out : (Int64 × Int32 × tq_PI) ⊕ (Int64 × tq_PI)} (hf : FX12_quakes_j89L9 I L a0 a1 a2 a5 a6 b0 b1 = some out) (hk : Sum.elim (fun p : Int64 × Int32 × tq_PI => tq_X S mX12_quakes (d + 4) tq_k0 9 ([.ref a0, .int a1, .int a2, .long p.1, tq_u, .int p.2.1, tq_u]) [] (tq_st p.2.2 L) (tq_Q q0)) (fun p : Int64 × tq_PI => tq_X S mX12_quakes (d + 4) tq_k0 115 ([.ref a0, tq_u, tq_u, .long p.1, tq_u, tq_u, tq_u]) [] (tq_st p.2 L) (tq_Q q0)) out) : tq_X S mX12_quakes (d + 4) tq_k0 89 ([.ref a0, .int a1, .int a2, tq_u, tq_u, .int a5, .int a6]) ([.long b0, .long b1]) (tq_st I L) (tq_Q q0) := by
  unfold FX12_quakes_j89L9 at hf
  refine tq_lmul rX12_quakes_89 ?_
  refine tq_lstore_n ([.ref a0, .int a1, .int a2, .long (b1 * b0), tq_u, .int a5, .int a6]) rX12_quakes_90 (Nat.le_of_ble_eq_true rfl) rfl ?_
  refine tq_iload_n rX12_quakes_91 rfl ?_
  refine tq_iload rX12_quakes_92 rfl ?_
  refine tq_ishr rX12_quakes_94 ?_
  refine tq_iconst (1 : Int32) rX12_quakes_95 (by decide) ?_
  refine tq_iand rX12_quakes_96 ?_
  refine tq_iconst (1 : Int32) rX12_quakes_97 (by decide) ?_
  refine tq_icmp_ne rX12_quakes_98 (fun c7 => ?_) (fun c7 => ?_)
  · rw [if_neg c7] at hf
    exact tq_forget _ (tq_le_s (tq_le_s (tq_le_s (tq_le_s (tq_le_u (tq_le_s (tq_le_u tq_le_n))))))) (FX12_quakes_j109L9_x  h0 hf hk)
  · rw [if_pos c7] at hf
    refine tq_aload_n rX12_quakes_101 rfl ?_
    refine ty_getR rX12_quakes_102 f_X12_20 rfl h0 (hp_12_15 h0).1 ?_
    refine tq_iload rX12_quakes_105 rfl ?_
    refine tq_iconst (0 : Int32) rX12_quakes_107 (by decide) ?_
    obtain ⟨g8, hf⟩ := tq_chk hf
    refine ty_iast (v := 192) rX12_quakes_108 (hp_12_15 h0).2.1 (hp_12_15 h0).2.2 rfl (by decide) g8 ?_
    exact tq_forget _ (tq_le_s (tq_le_s (tq_le_s (tq_le_s (tq_le_u (tq_le_s (tq_le_u tq_le_n))))))) (FX12_quakes_j109L9_x  h0 hf hk)

set_option maxRecDepth 100000 in
set_option maxHeartbeats 4000000 in
theorem FX12_quakes_j63L9_x {S : Nat × (Nat → Int32)} {d : Nat} {I : tq_PI} {L : tq_PL} {a0 : Nat} {a1 : Int32} {a2 : Int32} {a5 : Int32} {b0 : Int64} {b1 : Int64} (h0 : tq_sh0 a0 = 12) {q0 : Option Value → tq_PI → tq_PL → Prop} {out : (Int64 × Int32 × tq_PI) ⊕ (Int64 × tq_PI)} (hf : FX12_quakes_j63L9 I L a0 a1 a2 a5 b0 b1 = some out) (hk : Sum.elim (fun p : Int64 × Int32 × tq_PI => tq_X S mX12_quakes (d + 4) tq_k0 9 ([.ref a0, .int a1, .int a2, .long p.1, tq_u, .int p.2.1, tq_u]) [] (tq_st p.2.2 L) (tq_Q q0)) (fun p : Int64 × tq_PI => tq_X S mX12_quakes (d + 4) tq_k0 115 ([.ref a0, tq_u, tq_u, .long p.1, tq_u, tq_u, tq_u]) [] (tq_st p.2 L) (tq_Q q0)) out) : tq_X S mX12_quakes (d + 4) tq_k0 63 ([.ref a0, .int a1, .int a2, tq_u, tq_u, .int a5, tq_u]) ([.long b0, .long b1]) (tq_st I L) (tq_Q q0) := by
  unfold FX12_quakes_j63L9 at hf
  refine tq_lmul rX12_quakes_63 ?_
  refine tq_lstore_n ([.ref a0, .int a1, .int a2, .long (b1 * b0), tq_u, .int a5, tq_u]) rX12_quakes_64 (Nat.le_of_ble_eq_true rfl) rfl ?_
  refine tq_goto rX12_quakes_65 ?_
  exact tq_forget _ (tq_le_s (tq_le_s (tq_le_s (tq_le_s (tq_le_u (tq_le_s (tq_le_u tq_le_n))))))) (FX12_quakes_j109L9_x  h0 hf hk)

set_option maxRecDepth 100000 in
set_option maxHeartbeats 4000000 in
theorem FX12_quakes_s9_x {S : Nat × (Nat → Int32)} {d : Nat} {I : tq_PI} {L : tq_PL} {a0 : Nat} {a1 : Int32} {a2 : Int32} {a3 : Int64} {a5 : Int32} (h0 : tq_sh0 a0 = 12) {q0 : Option Value → tq_PI → tq_PL → Prop} {out : (Int64 × Int32 × tq_PI) ⊕ (Int64 × tq_PI)} (hf : FX12_quakes_s9 I L a0 a1 a2 a3 a5 = some out) (hk : Sum.elim (fun p : Int64 × Int32 × tq_PI => tq_X S mX12_quakes (d + 4) tq_k0 9 ([.ref a0, .int a1, .int a2, .long p.1, tq_u, .int p.2.1, tq_u]) [] (tq_st p.2.2 L) (tq_Q q0)) (fun p : Int64 × tq_PI => tq_X S mX12_quakes (d + 4) tq_k0 115 ([.ref a0, tq_u, tq_u, .long p.1, tq_u, tq_u, tq_u]) [] (tq_st p.2 L) (tq_Q q0)) out) : tq_X S mX12_quakes (d + 4) tq_k0 9 ([.ref a0, .int a1, .int a2, .long a3, tq_u, .int a5, tq_u]) [] (tq_st I L) (tq_Q q0) := by
  unfold FX12_quakes_s9 at hf
  refine tq_iload rX12_quakes_9 rfl ?_
  refine tq_aload_n rX12_quakes_11 rfl ?_
  refine ty_getI rX12_quakes_12 f_X12_148 rfl h0 ?_
  refine tq_icmp_ge rX12_quakes_15 (fun c2 => ?_) (fun c2 => ?_)
  · rw [if_pos c2] at hf
    have hf := Option.some.inj hf
    subst hf
    exact tq_forget _ (tq_le_s (tq_le_u (tq_le_u (tq_le_s (tq_le_u (tq_le_u (tq_le_u tq_le_n))))))) hk
  · rw [if_neg c2] at hf
    refine tq_aload_n rX12_quakes_18 rfl ?_
    refine ty_getI rX12_quakes_19 f_X12_148 rfl h0 ?_
    refine tq_aload_n rX12_quakes_22 rfl ?_
    refine ty_getI rX12_quakes_23 f_X12_151 rfl h0 ?_
    refine tq_iconst (1 : Int32) rX12_quakes_26 (by decide) ?_
    refine tq_isub rX12_quakes_27 ?_
    refine tq_imul rX12_quakes_28 ?_
    refine tq_iload rX12_quakes_29 rfl ?_
    refine tq_iadd rX12_quakes_31 ?_
    refine tq_istore ([.ref a0, .int a1, .int a2, .long a3, tq_u, .int a5, .int (((I a0 13) * ((I a0 14) - (1 : Int32))) + a5)]) rX12_quakes_32 (Nat.le_of_ble_eq_true rfl) rfl ?_
    refine tq_aload_n rX12_quakes_34 rfl ?_
    refine tq_iconst (0 : Int32) rX12_quakes_35 (by decide) ?_
    refine tq_iload rX12_quakes_36 rfl ?_
    obtain ⟨p3, e3, hf⟩ := Option.bind_eq_some_iff.mp hf
    refine ty_callVI p3 ([.int (0 : Int32), .int (((I a0 13) * ((I a0 14) - (1 : Int32))) + a5)]) ([]) rX12_quakes_38 l_X12_193 moX12_kindOf mvX12_kindOf h0 rfl rfl (Nat.le_of_ble_eq_true rfl) ⟨rfl, rfl⟩ (CX12_kindOf h0 e3) ?_
    obtain ⟨p4, e4, hf⟩ := tq_let_elim hf
    refine ty_callSI (tq_b p4) ([.int p3]) ([]) rX12_quakes_41 l_X12_208 moX12_isStone msX12_isStone rfl rfl (Nat.le_of_ble_eq_true rfl) ⟨rfl, rfl⟩ (CX12_isStone  e4) ?_
    refine tq_if_ne rX12_quakes_44 (fun c5 => ?_) (fun c5 => ?_)
    · rw [if_neg c5] at hf
      refine tq_lload_n rX12_quakes_68 rfl ?_
      refine tq_iload_n rX12_quakes_69 rfl ?_
      refine tq_iload rX12_quakes_70 rfl ?_
      refine tq_ishr rX12_quakes_72 ?_
      refine tq_iconst (1 : Int32) rX12_quakes_73 (by decide) ?_
      refine tq_iand rX12_quakes_74 ?_
      refine tq_iconst (1 : Int32) rX12_quakes_75 (by decide) ?_
      refine tq_icmp_ne rX12_quakes_76 (fun c6 => ?_) (fun c6 => ?_)
      · rw [if_neg c6] at hf
        refine tq_bipush (10 : Int32) rX12_quakes_84 (by decide) ?_
        refine tq_iload_n rX12_quakes_86 rfl ?_
        refine tq_isub rX12_quakes_87 ?_
        refine tq_i2l rX12_quakes_88 ?_
        exact tq_forget _ (tq_le_s (tq_le_s (tq_le_s (tq_le_u (tq_le_u (tq_le_s (tq_le_s tq_le_n))))))) (FX12_quakes_j89L9_x  h0 hf hk)
      · rw [if_pos c6] at hf
        refine tq_iload_n rX12_quakes_79 rfl ?_
        refine tq_i2l rX12_quakes_80 ?_
        refine tq_goto rX12_quakes_81 ?_
        exact tq_forget _ (tq_le_s (tq_le_s (tq_le_s (tq_le_u (tq_le_u (tq_le_s (tq_le_s tq_le_n))))))) (FX12_quakes_j89L9_x  h0 hf hk)
    · rw [if_pos c5] at hf
      refine tq_lload_n rX12_quakes_47 rfl ?_
      refine tq_iload_n rX12_quakes_48 rfl ?_
      refine tq_iload rX12_quakes_49 rfl ?_
      refine tq_ishr rX12_quakes_51 ?_
      refine tq_iconst (1 : Int32) rX12_quakes_52 (by decide) ?_
      refine tq_iand rX12_quakes_53 ?_
      refine tq_iconst (1 : Int32) rX12_quakes_54 (by decide) ?_
      refine tq_icmp_ne rX12_quakes_55 (fun c9 => ?_) (fun c9 => ?_)
      · rw [if_neg c9] at hf
        refine tq_lconst (1 : Int64) rX12_quakes_62 (by decide) ?_
        exact tq_forget _ (tq_le_s (tq_le_s (tq_le_s (tq_le_u (tq_le_u (tq_le_s (tq_le_u tq_le_n))))))) (FX12_quakes_j63L9_x  h0 hf hk)
      · rw [if_pos c9] at hf
        refine tq_lconst (0 : Int64) rX12_quakes_58 (by decide) ?_
        refine tq_goto rX12_quakes_59 ?_
        exact tq_forget _ (tq_le_s (tq_le_s (tq_le_s (tq_le_u (tq_le_u (tq_le_s (tq_le_u tq_le_n))))))) (FX12_quakes_j63L9_x  h0 hf hk)

set_option maxRecDepth 100000 in
set_option maxHeartbeats 4000000 in
theorem CX12_quakes {S : Nat × (Nat → Int32)} {d : Nat} {I : tq_PI} {L : tq_PL} {a0 : Nat} {a1 : Int32} {a2 : Int32} (h0 : tq_sh0 a0 = 12) {out : Int64 × tq_PI} (hf : FX12_quakes I L a0 a1 a2 = some out) : tq_K S mX12_quakes (d + 4) [.ref a0, .int a1, .int a2] I L (tq_one2 (some (.long out.1)) out.2 L) := by
  unfold FX12_quakes at hf
  refine tq_K_of (by decide) (Nat.le_of_ble_eq_true rfl) (ls := [.ref a0, .int a1, .int a2, tq_u, tq_u, tq_u, tq_u]) rfl ?_
  refine tq_aload_n rX12_quakes_0 rfl ?_
  obtain ⟨p1, e1, hf⟩ := Option.bind_eq_some_iff.mp hf
  refine ty_callVV ([]) ([]) rX12_quakes_1 l_X12_224 moX12_asTold mvX12_asTold h0 rfl rfl (Nat.le_of_ble_eq_true rfl) ⟨rfl, rfl⟩ (CX12_asTold h0 e1) ?_
  refine tq_lconst (1 : Int64) rX12_quakes_4 (by decide) ?_
  refine tq_lstore_n ([.ref a0, .int a1, .int a2, .long (1 : Int64), tq_u, tq_u, tq_u]) rX12_quakes_5 (Nat.le_of_ble_eq_true rfl) rfl ?_
  refine tq_iconst (0 : Int32) rX12_quakes_6 (by decide) ?_
  refine tq_istore ([.ref a0, .int a1, .int a2, .long (1 : Int64), tq_u, .int (0 : Int32), tq_u]) rX12_quakes_7 (Nat.le_of_ble_eq_true rfl) rfl ?_
  obtain ⟨p10, e10, hf⟩ := Option.bind_eq_some_iff.mp hf
  refine tq_forget _ (tq_le_s (tq_le_s (tq_le_s (tq_le_s (tq_le_u (tq_le_s (tq_le_u tq_le_n))))))) ?_
  refine tq_it_elim (P := fun p : Int64 × Int32 × tq_PI => tq_X S mX12_quakes (d + 4) tq_k0 9 ([.ref a0, .int a1, .int a2, .long p.1, tq_u, .int p.2.1, tq_u]) [] (tq_st p.2.2 L) (tq_Q (tq_one2 (some (.long out.1)) out.2 L))) (R := fun p : Int64 × tq_PI => tq_X S mX12_quakes (d + 4) tq_k0 115 ([.ref a0, tq_u, tq_u, .long p.1, tq_u, tq_u, tq_u]) [] (tq_st p.2 L) (tq_Q (tq_one2 (some (.long out.1)) out.2 L))) (fun p o hp hk => FX12_quakes_s9_x  h0 hp hk) _ (((1 : Int64), (0 : Int32), p1)) _ e10 ?_
  show tq_X _ _ _ _ _ _ _ _ _
  refine tq_lload_n rX12_quakes_115 rfl ?_
  refine tq_lconst (0 : Int64) rX12_quakes_116 (by decide) ?_
  refine tq_lcmp rX12_quakes_117 ?_
  refine tq_if_ne rX12_quakes_118 (fun c11 => ?_) (fun c11 => ?_)
  · rw [if_neg c11] at hf
    refine tq_lload_n rX12_quakes_125 rfl ?_
    refine tq_aload_n rX12_quakes_126 rfl ?_
    refine tq_iconst (0 : Int32) rX12_quakes_127 (by decide) ?_
    obtain ⟨p12, e12, hf⟩ := Option.bind_eq_some_iff.mp hf
    refine ty_callVI p12.1 ([.int (0 : Int32)]) ([.long p10.1]) rX12_quakes_128 l_X12_199 moX12_falls mvX12_falls h0 rfl rfl (Nat.le_of_ble_eq_true rfl) ⟨rfl, rfl⟩ (CX12_falls h0 e12) ?_
    refine tq_i2l rX12_quakes_131 ?_
    refine tq_lmul rX12_quakes_132 ?_
    refine ty_lret rX12_quakes_133 rfl rfl ?_
    have hf := Option.some.inj hf
    subst hf
    exact ⟨rfl, rfl, rfl⟩
  · rw [if_pos c11] at hf
    refine tq_lconst (0 : Int64) rX12_quakes_121 (by decide) ?_
    refine tq_goto rX12_quakes_122 ?_
    refine ty_lret rX12_quakes_133 rfl rfl ?_
    have hf := Option.some.inj hf
    subst hf
    exact ⟨rfl, rfl, rfl⟩

abbrev mX12_quake : tq_M := (yX12_quake, cX12_quake, 9, (Option.some Jvm.ClassFile.FieldType.long), 0, 0)
theorem moX12_common : tq_mok mX12_common 2 := ⟨tq_sg1 _ (List.mem_of_getElem? (i := 13) rfl), tq_sg8 _ (List.mem_of_getElem? (i := 115) rfl), ⟨by decide, by decide, by decide +kernel⟩, by decide⟩
theorem msX12_common : Cond.static mX12_common.1 ∈ lw_tbl := tq_sg8 _ (List.mem_of_getElem? (i := 114) rfl)
theorem moX12_quakes : tq_mok mX12_quakes 2 := ⟨tq_sg1 _ (List.mem_of_getElem? (i := 13) rfl), tq_sg8 _ (List.mem_of_getElem? (i := 112) rfl), ⟨by decide, by decide, by decide +kernel⟩, by decide⟩
theorem mvX12_quakes : 12 < 13 ∧ (tq_cl 12).1 = mX12_quakes.1.cls ∧ Cond.instanceMethod mX12_quakes.1 ∈ lw_tbl ∧ Cond.selects mX12_quakes.1.cls mX12_quakes.1 mX12_quakes.1 ∈ lw_tbl := ⟨by decide, rfl, tq_sg8 _ (List.mem_of_getElem? (i := 111) rfl), List.mem_append_left _ (List.mem_map.mpr ⟨_, List.mem_of_getElem? (i := 103) rfl, rfl⟩)⟩
theorem k_X12_366 : Cond.constantLong RX12 366 (-1) ∈ lw_tbl := tq_sg8 _ (List.mem_of_getElem? (i := 107) rfl)
theorem k_X12_368 : Cond.constantLong RX12 368 (10) ∈ lw_tbl := tq_sg8 _ (List.mem_of_getElem? (i := 108) rfl)
theorem l_X12_370 : tq_lok RX12 370 mX12_quakes.1 := Or.inl (tq_sg8 _ (List.mem_of_getElem? (i := 109) rfl))
theorem l_X12_374 : tq_lok RX12 374 mX12_common.1 := Or.inl (tq_sg8 _ (List.mem_of_getElem? (i := 113) rfl))
theorem rX12_quake_0 : tq_D cX12_quake 0 (.aload_n 0) 1 1 := ⟨by decide +kernel, rfl⟩
theorem rX12_quake_1 : tq_D cX12_quake 1 (.iload_n 1) 1 2 := ⟨by decide +kernel, rfl⟩
theorem rX12_quake_2 : tq_D cX12_quake 2 (.invokevirtual 221) 3 5 := ⟨by decide +kernel, rfl⟩
theorem rX12_quake_5 : tq_J cX12_quake 5 (.ifCond .eq) 18 8 := ⟨13, by decide +kernel, by decide, rfl⟩
theorem rX12_quake_8 : tq_D cX12_quake 8 (.iload_n 2) 1 9 := ⟨by decide +kernel, rfl⟩
theorem rX12_quake_9 : tq_D cX12_quake 9 (.iconst 0) 1 10 := ⟨by decide +kernel, rfl⟩
theorem rX12_quake_10 : tq_D cX12_quake 10 (.bipush 10) 2 12 := ⟨by decide +kernel, rfl⟩
theorem rX12_quake_12 : tq_D cX12_quake 12 (.invokestatic 118) 3 15 := ⟨by decide +kernel, rfl⟩
theorem rX12_quake_15 : tq_J cX12_quake 15 (.ifCond .ne) 22 18 := ⟨7, by decide +kernel, by decide, rfl⟩
theorem rX12_quake_18 : tq_D cX12_quake 18 (.ldc2_w 366) 3 21 := ⟨by decide +kernel, rfl⟩
theorem rX12_quake_21 : decode cX12_quake 21 = .ok (.lreturn, 1) := by decide +kernel
theorem rX12_quake_22 : tq_D cX12_quake 22 (.aload_n 0) 1 23 := ⟨by decide +kernel, rfl⟩
theorem rX12_quake_23 : tq_D cX12_quake 23 (.invokevirtual 224) 3 26 := ⟨by decide +kernel, rfl⟩
theorem rX12_quake_26 : tq_D cX12_quake 26 (.lconst 1) 1 27 := ⟨by decide +kernel, rfl⟩
theorem rX12_quake_27 : tq_D cX12_quake 27 (.lstore 4) 2 29 := ⟨by decide +kernel, rfl⟩
theorem rX12_quake_29 : tq_D cX12_quake 29 (.iconst 0) 1 30 := ⟨by decide +kernel, rfl⟩
theorem rX12_quake_30 : tq_D cX12_quake 30 (.istore 6) 2 32 := ⟨by decide +kernel, rfl⟩
theorem rX12_quake_32 : tq_D cX12_quake 32 (.iload 6) 2 34 := ⟨by decide +kernel, rfl⟩
theorem rX12_quake_34 : tq_D cX12_quake 34 (.aload_n 0) 1 35 := ⟨by decide +kernel, rfl⟩
theorem rX12_quake_35 : tq_D cX12_quake 35 (.getfield 148) 3 38 := ⟨by decide +kernel, rfl⟩
theorem rX12_quake_38 : tq_J cX12_quake 38 (.if_icmp .ge) 84 41 := ⟨46, by decide +kernel, by decide, rfl⟩
theorem rX12_quake_41 : tq_D cX12_quake 41 (.lload 4) 2 43 := ⟨by decide +kernel, rfl⟩
theorem rX12_quake_43 : tq_D cX12_quake 43 (.aload_n 0) 1 44 := ⟨by decide +kernel, rfl⟩
theorem rX12_quake_44 : tq_D cX12_quake 44 (.iconst 0) 1 45 := ⟨by decide +kernel, rfl⟩
theorem rX12_quake_45 : tq_D cX12_quake 45 (.aload_n 0) 1 46 := ⟨by decide +kernel, rfl⟩
theorem rX12_quake_46 : tq_D cX12_quake 46 (.getfield 148) 3 49 := ⟨by decide +kernel, rfl⟩
theorem rX12_quake_49 : tq_D cX12_quake 49 (.aload_n 0) 1 50 := ⟨by decide +kernel, rfl⟩
theorem rX12_quake_50 : tq_D cX12_quake 50 (.getfield 151) 3 53 := ⟨by decide +kernel, rfl⟩
theorem rX12_quake_53 : tq_D cX12_quake 53 (.iconst 1) 1 54 := ⟨by decide +kernel, rfl⟩
theorem rX12_quake_54 : tq_D cX12_quake 54 (.isub) 1 55 := ⟨by decide +kernel, rfl⟩
theorem rX12_quake_55 : tq_D cX12_quake 55 (.imul) 1 56 := ⟨by decide +kernel, rfl⟩
theorem rX12_quake_56 : tq_D cX12_quake 56 (.iload 6) 2 58 := ⟨by decide +kernel, rfl⟩
theorem rX12_quake_58 : tq_D cX12_quake 58 (.iadd) 1 59 := ⟨by decide +kernel, rfl⟩
theorem rX12_quake_59 : tq_D cX12_quake 59 (.invokevirtual 193) 3 62 := ⟨by decide +kernel, rfl⟩
theorem rX12_quake_62 : tq_D cX12_quake 62 (.invokestatic 208) 3 65 := ⟨by decide +kernel, rfl⟩
theorem rX12_quake_65 : tq_J cX12_quake 65 (.ifCond .eq) 74 68 := ⟨9, by decide +kernel, by decide, rfl⟩
theorem rX12_quake_68 : tq_D cX12_quake 68 (.ldc2_w 368) 3 71 := ⟨by decide +kernel, rfl⟩
theorem rX12_quake_71 : tq_J cX12_quake 71 .goto 75 74 := ⟨4, by decide +kernel, by decide, rfl⟩
theorem rX12_quake_74 : tq_D cX12_quake 74 (.lconst 1) 1 75 := ⟨by decide +kernel, rfl⟩
theorem rX12_quake_75 : tq_D cX12_quake 75 (.lmul) 1 76 := ⟨by decide +kernel, rfl⟩
theorem rX12_quake_76 : tq_D cX12_quake 76 (.lstore 4) 2 78 := ⟨by decide +kernel, rfl⟩
theorem rX12_quake_78 : tq_D cX12_quake 78 (.iinc 6 1) 3 81 := ⟨by decide +kernel, rfl⟩
theorem rX12_quake_81 : tq_J cX12_quake 81 .goto 32 84 := ⟨(-49), by decide +kernel, by decide, rfl⟩
theorem rX12_quake_84 : tq_D cX12_quake 84 (.lconst 0) 1 85 := ⟨by decide +kernel, rfl⟩
theorem rX12_quake_85 : tq_D cX12_quake 85 (.lstore 6) 2 87 := ⟨by decide +kernel, rfl⟩
theorem rX12_quake_87 : tq_D cX12_quake 87 (.iconst 0) 1 88 := ⟨by decide +kernel, rfl⟩
theorem rX12_quake_88 : tq_D cX12_quake 88 (.istore 8) 2 90 := ⟨by decide +kernel, rfl⟩
theorem rX12_quake_90 : tq_D cX12_quake 90 (.iload 8) 2 92 := ⟨by decide +kernel, rfl⟩
theorem rX12_quake_92 : tq_D cX12_quake 92 (.iconst 1) 1 93 := ⟨by decide +kernel, rfl⟩
theorem rX12_quake_93 : tq_D cX12_quake 93 (.aload_n 0) 1 94 := ⟨by decide +kernel, rfl⟩
theorem rX12_quake_94 : tq_D cX12_quake 94 (.getfield 148) 3 97 := ⟨by decide +kernel, rfl⟩
theorem rX12_quake_97 : tq_D cX12_quake 97 (.ishl) 1 98 := ⟨by decide +kernel, rfl⟩
theorem rX12_quake_98 : tq_J cX12_quake 98 (.if_icmp .ge) 119 101 := ⟨21, by decide +kernel, by decide, rfl⟩
theorem rX12_quake_101 : tq_D cX12_quake 101 (.lload 6) 2 103 := ⟨by decide +kernel, rfl⟩
theorem rX12_quake_103 : tq_D cX12_quake 103 (.aload_n 0) 1 104 := ⟨by decide +kernel, rfl⟩
theorem rX12_quake_104 : tq_D cX12_quake 104 (.iload 8) 2 106 := ⟨by decide +kernel, rfl⟩
theorem rX12_quake_106 : tq_D cX12_quake 106 (.iload_n 2) 1 107 := ⟨by decide +kernel, rfl⟩
theorem rX12_quake_107 : tq_D cX12_quake 107 (.invokevirtual 370) 3 110 := ⟨by decide +kernel, rfl⟩
theorem rX12_quake_110 : tq_D cX12_quake 110 (.ladd) 1 111 := ⟨by decide +kernel, rfl⟩
theorem rX12_quake_111 : tq_D cX12_quake 111 (.lstore 6) 2 113 := ⟨by decide +kernel, rfl⟩
theorem rX12_quake_113 : tq_D cX12_quake 113 (.iinc 8 1) 3 116 := ⟨by decide +kernel, rfl⟩
theorem rX12_quake_116 : tq_J cX12_quake 116 .goto 90 119 := ⟨(-26), by decide +kernel, by decide, rfl⟩
theorem rX12_quake_119 : tq_D cX12_quake 119 (.iload_n 3) 1 120 := ⟨by decide +kernel, rfl⟩
theorem rX12_quake_120 : tq_J cX12_quake 120 (.ifCond .eq) 128 123 := ⟨8, by decide +kernel, by decide, rfl⟩
theorem rX12_quake_123 : tq_D cX12_quake 123 (.lload 4) 2 125 := ⟨by decide +kernel, rfl⟩
theorem rX12_quake_125 : tq_J cX12_quake 125 .goto 130 128 := ⟨5, by decide +kernel, by decide, rfl⟩
theorem rX12_quake_128 : tq_D cX12_quake 128 (.lload 6) 2 130 := ⟨by decide +kernel, rfl⟩
theorem rX12_quake_130 : tq_D cX12_quake 130 (.lload 6) 2 132 := ⟨by decide +kernel, rfl⟩
theorem rX12_quake_132 : tq_D cX12_quake 132 (.lload 4) 2 134 := ⟨by decide +kernel, rfl⟩
theorem rX12_quake_134 : tq_D cX12_quake 134 (.invokestatic 374) 3 137 := ⟨by decide +kernel, rfl⟩
theorem rX12_quake_137 : tq_D cX12_quake 137 (.ldiv) 1 138 := ⟨by decide +kernel, rfl⟩
theorem rX12_quake_138 : decode cX12_quake 138 = .ok (.lreturn, 1) := by decide +kernel
noncomputable def FX12_quake_j18 (I : tq_PI) (L : tq_PL)  : Option (Int64 × tq_PI) :=
  some ((-1 : Int64), I)
noncomputable def FX12_quake_j75L32 (I : tq_PI) (L : tq_PL) (a0 : Nat) (a2 : Int32) (a3 : Int32) (a6 : Int32) (b0 : Int64) (b1 : Int64) : Option ((Int64 × Int32) ⊕ (Int64)) :=
  some (.inl ((b1 * b0), (a6 + 1)))
noncomputable def FX12_quake_s32 (I : tq_PI) (L : tq_PL) (a0 : Nat) (a2 : Int32) (a3 : Int32) (a4 : Int64) (a6 : Int32) : Option ((Int64 × Int32) ⊕ (Int64)) :=
  (if (I a0 13) ≤ a6 then some (.inr a4) else ((FX12_kindOf I L a0 ((0 : Int32)) ((((I a0 13) * ((I a0 14) - (1 : Int32))) + a6))).bind fun p7 => (tq_let (FX12_isStone I L p7) fun p8 => (if (tq_b p8) = 0 then (FX12_quake_j75L32 I L a0 a2 a3 a6 ((1 : Int64)) a4) else (FX12_quake_j75L32 I L a0 a2 a3 a6 ((10 : Int64)) a4)))))
noncomputable def FX12_quake_s90 (I : tq_PI) (L : tq_PL) (a0 : Nat) (a2 : Int32) (a3 : Int32) (a4 : Int64) (a6 : Int64) (a8 : Int32) : Option ((Int64 × Int32 × tq_PI) ⊕ (Int64 × tq_PI)) :=
  (if ((1 : Int32) <<< ((I a0 13) &&& 31)) ≤ a8 then some (.inr (a6, I)) else ((FX12_quakes I L a0 a8 a2).bind fun p12 => some (.inl ((a6 + p12.1), (a8 + 1), p12.2))))
noncomputable def FX12_quake_j130 (I : tq_PI) (L : tq_PL) (a4 : Int64) (a6 : Int64) (b0 : Int64) : Option (Int64 × tq_PI) :=
  ((FX12_common I L a6 a4).bind fun p15 => (if ¬ p15 = 0 then some ((b0 / p15), I) else none))
noncomputable def FX12_quake (I : tq_PI) (L : tq_PL) (a0 : Nat) (a1 : Int32) (a2 : Int32) (a3 : Int32) : Option (Int64 × tq_PI) :=
  ((FX12_isHill I L a0 a1).bind fun p1 => (if (tq_b p1.1) = 0 then (FX12_quake_j18 p1.2 L ) else (tq_let (FX12_isIn p1.2 L a2 ((0 : Int32)) ((10 : Int32))) fun p3 => (if (tq_b p3) = 0 then (FX12_quake_j18 p1.2 L ) else ((FX12_asTold p1.2 L a0).bind fun p5 => ((tq_it (fun p : Int64 × Int32 => FX12_quake_s32 p5 L a0 a2 a3 p.1 p.2) tq_N ((1 : Int64), (0 : Int32))).bind fun p10 => ((tq_it (fun p : Int64 × Int32 × tq_PI => FX12_quake_s90 p.2.2 L a0 a2 a3 p10 p.1 p.2.1) tq_N ((0 : Int64), (0 : Int32), p5)).bind fun p13 => (if a3 = 0 then (FX12_quake_j130 p13.2 L p10 p13.1 p13.1) else (FX12_quake_j130 p13.2 L p10 p13.1 p10)))))))))
set_option maxRecDepth 100000 in
set_option maxHeartbeats 4000000 in
theorem FX12_quake_j18_x {S : Nat × (Nat → Int32)} {d : Nat} {I : tq_PI} {L : tq_PL}   {q0 : Option Value → tq_PI → tq_PL → Prop} {out : Int64 × tq_PI} (hf : FX12_quake_j18 I L = some out) (hk : q0 (some (.long out.1)) out.2 L) : tq_X S mX12_quake (d + 5) tq_k0 18 ([tq_u, tq_u, tq_u, tq_u, tq_u, tq_u, tq_u, tq_u, tq_u]) ([]) (tq_st I L) (tq_Q q0) := by
  unfold FX12_quake_j18 at hf
  refine tq_ldc2 rX12_quake_18 (k_X12_366) ?_
  refine ty_lret rX12_quake_21 rfl rfl ?_
  have hf := Option.some.inj hf
  subst hf
  exact hk

set_option maxRecDepth 100000 in
set_option maxHeartbeats 4000000 in
theorem FX12_quake_j75L32_x {S : Nat × (Nat → Int32)} {d : Nat} {I : tq_PI} {L : tq_PL} {a0 : Nat} {a2 : Int32} {a3 : Int32} {a6 : Int32} {b0 : Int64} {b1 : Int64} (h0 : tq_sh0 a0 = 12) {q0 : Option Value → tq_PI → tq_PL → Prop} {out : (Int64 × Int32) ⊕ (Int64)} (hf : FX12_quake_j75L32 I L a0 a2 a3 a6 b0 b1 = some out) (hk : Sum.elim (fun p : Int64 × Int32 => tq_X S mX12_quake (d + 5) tq_k0 32 ([.ref a0, tq_u, .int a2, .int a3, .long p.1, tq_u, .int p.2, tq_u, tq_u]) [] (tq_st I L) (tq_Q q0)) (fun p : Int64 => tq_X S mX12_quake (d + 5) tq_k0 84 ([.ref a0, tq_u, .int a2, .int a3, .long p, tq_u, tq_u, tq_u, tq_u]) [] (tq_st I L) (tq_Q q0)) out) : tq_X S mX12_quake (d + 5) tq_k0 75 ([.ref a0, tq_u, .int a2, .int a3, tq_u, tq_u, .int a6, tq_u, tq_u]) ([.long b0, .long b1]) (tq_st I L) (tq_Q q0) := by
  unfold FX12_quake_j75L32 at hf
  refine tq_lmul rX12_quake_75 ?_
  refine tq_lstore ([.ref a0, tq_u, .int a2, .int a3, .long (b1 * b0), tq_u, .int a6, tq_u, tq_u]) rX12_quake_76 (Nat.le_of_ble_eq_true rfl) rfl ?_
  refine tq_iinc (a6 + 1) ([.ref a0, tq_u, .int a2, .int a3, .long (b1 * b0), tq_u, .int (a6 + 1), tq_u, tq_u]) rX12_quake_78 rfl (tq_inc (by decide)) (Nat.le_of_ble_eq_true rfl) rfl ?_
  refine tq_goto rX12_quake_81 ?_
  have hf := Option.some.inj hf
  subst hf
  exact tq_forget _ (tq_le_s (tq_le_u (tq_le_s (tq_le_s (tq_le_s (tq_le_u (tq_le_s (tq_le_u (tq_le_u tq_le_n))))))))) hk

set_option maxRecDepth 100000 in
set_option maxHeartbeats 4000000 in
theorem FX12_quake_s32_x {S : Nat × (Nat → Int32)} {d : Nat} {I : tq_PI} {L : tq_PL} {a0 : Nat} {a2 : Int32} {a3 : Int32} {a4 : Int64} {a6 : Int32} (h0 : tq_sh0 a0 = 12) {q0 : Option Value → tq_PI → tq_PL → Prop} {out : (Int64 × Int32) ⊕ (Int64)} (hf : FX12_quake_s32 I L a0 a2 a3 a4 a6 = some out) (hk : Sum.elim (fun p : Int64 × Int32 => tq_X S mX12_quake (d + 5) tq_k0 32 ([.ref a0, tq_u, .int a2, .int a3, .long p.1, tq_u, .int p.2, tq_u, tq_u]) [] (tq_st I L) (tq_Q q0)) (fun p : Int64 => tq_X S mX12_quake (d + 5) tq_k0 84 ([.ref a0, tq_u, .int a2, .int a3, .long p, tq_u, tq_u, tq_u, tq_u]) [] (tq_st I L) (tq_Q q0)) out) : tq_X S mX12_quake (d + 5) tq_k0 32 ([.ref a0, tq_u, .int a2, .int a3, .long a4, tq_u, .int a6, tq_u, tq_u]) [] (tq_st I L) (tq_Q q0) := by
  unfold FX12_quake_s32 at hf
  refine tq_iload rX12_quake_32 rfl ?_
  refine tq_aload_n rX12_quake_34 rfl ?_
  refine ty_getI rX12_quake_35 f_X12_148 rfl h0 ?_
  refine tq_icmp_ge rX12_quake_38 (fun c6 => ?_) (fun c6 => ?_)
  · rw [if_pos c6] at hf
    have hf := Option.some.inj hf
    subst hf
    exact tq_forget _ (tq_le_s (tq_le_u (tq_le_s (tq_le_s (tq_le_s (tq_le_u (tq_le_u (tq_le_u (tq_le_u tq_le_n))))))))) hk
  · rw [if_neg c6] at hf
    refine tq_lload rX12_quake_41 rfl ?_
    refine tq_aload_n rX12_quake_43 rfl ?_
    refine tq_iconst (0 : Int32) rX12_quake_44 (by decide) ?_
    refine tq_aload_n rX12_quake_45 rfl ?_
    refine ty_getI rX12_quake_46 f_X12_148 rfl h0 ?_
    refine tq_aload_n rX12_quake_49 rfl ?_
    refine ty_getI rX12_quake_50 f_X12_151 rfl h0 ?_
    refine tq_iconst (1 : Int32) rX12_quake_53 (by decide) ?_
    refine tq_isub rX12_quake_54 ?_
    refine tq_imul rX12_quake_55 ?_
    refine tq_iload rX12_quake_56 rfl ?_
    refine tq_iadd rX12_quake_58 ?_
    obtain ⟨p7, e7, hf⟩ := Option.bind_eq_some_iff.mp hf
    refine ty_callVI p7 ([.int (0 : Int32), .int (((I a0 13) * ((I a0 14) - (1 : Int32))) + a6)]) ([.long a4]) rX12_quake_59 l_X12_193 moX12_kindOf mvX12_kindOf h0 rfl rfl (Nat.le_of_ble_eq_true rfl) ⟨rfl, rfl⟩ (CX12_kindOf h0 e7) ?_
    obtain ⟨p8, e8, hf⟩ := tq_let_elim hf
    refine ty_callSI (tq_b p8) ([.int p7]) ([.long a4]) rX12_quake_62 l_X12_208 moX12_isStone msX12_isStone rfl rfl (Nat.le_of_ble_eq_true rfl) ⟨rfl, rfl⟩ (CX12_isStone  e8) ?_
    refine tq_if_eq rX12_quake_65 (fun c9 => ?_) (fun c9 => ?_)
    · rw [if_pos c9] at hf
      refine tq_lconst (1 : Int64) rX12_quake_74 (by decide) ?_
      exact tq_forget _ (tq_le_s (tq_le_u (tq_le_s (tq_le_s (tq_le_u (tq_le_u (tq_le_s (tq_le_u (tq_le_u tq_le_n))))))))) (FX12_quake_j75L32_x  h0 hf hk)
    · rw [if_neg c9] at hf
      refine tq_ldc2 rX12_quake_68 (k_X12_368) ?_
      refine tq_goto rX12_quake_71 ?_
      exact tq_forget _ (tq_le_s (tq_le_u (tq_le_s (tq_le_s (tq_le_u (tq_le_u (tq_le_s (tq_le_u (tq_le_u tq_le_n))))))))) (FX12_quake_j75L32_x  h0 hf hk)

set_option maxRecDepth 100000 in
set_option maxHeartbeats 4000000 in
theorem FX12_quake_s90_x {S : Nat × (Nat → Int32)} {d : Nat} {I : tq_PI} {L : tq_PL} {a0 : Nat} {a2 : Int32} {a3 : Int32} {a4 : Int64} {a6 : Int64} {a8 : Int32} (h0 : tq_sh0 a0 = 12) {q0 : Option Value → tq_PI → tq_PL → Prop} {out : (Int64 × Int32 × tq_PI) ⊕ (Int64 × tq_PI)} (hf : FX12_quake_s90 I L a0 a2 a3 a4 a6 a8 = some out) (hk : Sum.elim (fun p : Int64 × Int32 × tq_PI => tq_X S mX12_quake (d + 5) tq_k0 90 ([.ref a0, tq_u, .int a2, .int a3, .long a4, tq_u, .long p.1, tq_u, .int p.2.1]) [] (tq_st p.2.2 L) (tq_Q q0)) (fun p : Int64 × tq_PI => tq_X S mX12_quake (d + 5) tq_k0 119 ([tq_u, tq_u, tq_u, .int a3, .long a4, tq_u, .long p.1, tq_u, tq_u]) [] (tq_st p.2 L) (tq_Q q0)) out) : tq_X S mX12_quake (d + 5) tq_k0 90 ([.ref a0, tq_u, .int a2, .int a3, .long a4, tq_u, .long a6, tq_u, .int a8]) [] (tq_st I L) (tq_Q q0) := by
  unfold FX12_quake_s90 at hf
  refine tq_iload rX12_quake_90 rfl ?_
  refine tq_iconst (1 : Int32) rX12_quake_92 (by decide) ?_
  refine tq_aload_n rX12_quake_93 rfl ?_
  refine ty_getI rX12_quake_94 f_X12_148 rfl h0 ?_
  refine tq_ishl rX12_quake_97 ?_
  refine tq_icmp_ge rX12_quake_98 (fun c11 => ?_) (fun c11 => ?_)
  · rw [if_pos c11] at hf
    have hf := Option.some.inj hf
    subst hf
    exact tq_forget _ (tq_le_u (tq_le_u (tq_le_u (tq_le_s (tq_le_s (tq_le_u (tq_le_s (tq_le_u (tq_le_u tq_le_n))))))))) hk
  · rw [if_neg c11] at hf
    refine tq_lload rX12_quake_101 rfl ?_
    refine tq_aload_n rX12_quake_103 rfl ?_
    refine tq_iload rX12_quake_104 rfl ?_
    refine tq_iload_n rX12_quake_106 rfl ?_
    obtain ⟨p12, e12, hf⟩ := Option.bind_eq_some_iff.mp hf
    refine ty_callVJ p12.1 ([.int a8, .int a2]) ([.long a6]) rX12_quake_107 l_X12_370 moX12_quakes mvX12_quakes h0 rfl rfl (Nat.le_of_ble_eq_true rfl) ⟨rfl, rfl⟩ (CX12_quakes h0 e12) ?_
    refine tq_ladd rX12_quake_110 ?_
    refine tq_lstore ([.ref a0, tq_u, .int a2, .int a3, .long a4, tq_u, .long (a6 + p12.1), tq_u, .int a8]) rX12_quake_111 (Nat.le_of_ble_eq_true rfl) rfl ?_
    refine tq_iinc (a8 + 1) ([.ref a0, tq_u, .int a2, .int a3, .long a4, tq_u, .long (a6 + p12.1), tq_u, .int (a8 + 1)]) rX12_quake_113 rfl (tq_inc (by decide)) (Nat.le_of_ble_eq_true rfl) rfl ?_
    refine tq_goto rX12_quake_116 ?_
    have hf := Option.some.inj hf
    subst hf
    exact tq_forget _ (tq_le_s (tq_le_u (tq_le_s (tq_le_s (tq_le_s (tq_le_u (tq_le_s (tq_le_u (tq_le_s tq_le_n))))))))) hk

set_option maxRecDepth 100000 in
set_option maxHeartbeats 4000000 in
theorem FX12_quake_j130_x {S : Nat × (Nat → Int32)} {d : Nat} {I : tq_PI} {L : tq_PL} {a4 : Int64} {a6 : Int64} {b0 : Int64}  {q0 : Option Value → tq_PI → tq_PL → Prop} {out : Int64 × tq_PI} (hf : FX12_quake_j130 I L a4 a6 b0 = some out) (hk : q0 (some (.long out.1)) out.2 L) : tq_X S mX12_quake (d + 5) tq_k0 130 ([tq_u, tq_u, tq_u, tq_u, .long a4, tq_u, .long a6, tq_u, tq_u]) ([.long b0]) (tq_st I L) (tq_Q q0) := by
  unfold FX12_quake_j130 at hf
  refine tq_lload rX12_quake_130 rfl ?_
  refine tq_lload rX12_quake_132 rfl ?_
  obtain ⟨p15, e15, hf⟩ := Option.bind_eq_some_iff.mp hf
  refine ty_callSJ p15 ([.long a6, .long a4]) ([.long b0]) rX12_quake_134 l_X12_374 moX12_common msX12_common rfl rfl (Nat.le_of_ble_eq_true rfl) ⟨rfl, rfl⟩ (CX12_common  e15) ?_
  obtain ⟨g16, hf⟩ := tq_chk hf
  refine tq_ldiv rX12_quake_137 g16 ?_
  refine ty_lret rX12_quake_138 rfl rfl ?_
  have hf := Option.some.inj hf
  subst hf
  exact hk

set_option maxRecDepth 100000 in
set_option maxHeartbeats 4000000 in
theorem CX12_quake {S : Nat × (Nat → Int32)} {d : Nat} {I : tq_PI} {L : tq_PL} {a0 : Nat} {a1 : Int32} {a2 : Int32} {a3 : Int32} (h0 : tq_sh0 a0 = 12) {out : Int64 × tq_PI} (hf : FX12_quake I L a0 a1 a2 a3 = some out) : tq_K S mX12_quake (d + 5) [.ref a0, .int a1, .int a2, .int a3] I L (tq_one2 (some (.long out.1)) out.2 L) := by
  unfold FX12_quake at hf
  refine tq_K_of (by decide) (Nat.le_of_ble_eq_true rfl) (ls := [.ref a0, .int a1, .int a2, .int a3, tq_u, tq_u, tq_u, tq_u, tq_u]) rfl ?_
  refine tq_aload_n rX12_quake_0 rfl ?_
  refine tq_iload_n rX12_quake_1 rfl ?_
  obtain ⟨p1, e1, hf⟩ := Option.bind_eq_some_iff.mp hf
  refine ty_callVI (tq_b p1.1) ([.int a1]) ([]) rX12_quake_2 l_X12_221 moX12_isHill mvX12_isHill h0 rfl rfl (Nat.le_of_ble_eq_true rfl) ⟨rfl, rfl⟩ (CX12_isHill h0 e1) ?_
  refine tq_if_eq rX12_quake_5 (fun c2 => ?_) (fun c2 => ?_)
  · rw [if_pos c2] at hf
    exact tq_forget _ (tq_le_u (tq_le_u (tq_le_u (tq_le_u (tq_le_u (tq_le_u (tq_le_u (tq_le_u (tq_le_u tq_le_n))))))))) (FX12_quake_j18_x   hf ⟨rfl, rfl, rfl⟩)
  · rw [if_neg c2] at hf
    refine tq_iload_n rX12_quake_8 rfl ?_
    refine tq_iconst (0 : Int32) rX12_quake_9 (by decide) ?_
    refine tq_bipush (10 : Int32) rX12_quake_10 (by decide) ?_
    obtain ⟨p3, e3, hf⟩ := tq_let_elim hf
    refine ty_callSI (tq_b p3) ([.int a2, .int (0 : Int32), .int (10 : Int32)]) ([]) rX12_quake_12 l_X12_118 moX12_isIn msX12_isIn rfl rfl (Nat.le_of_ble_eq_true rfl) ⟨rfl, rfl⟩ (CX12_isIn  e3) ?_
    refine tq_if_ne rX12_quake_15 (fun c4 => ?_) (fun c4 => ?_)
    · rw [if_neg c4] at hf
      refine tq_aload_n rX12_quake_22 rfl ?_
      obtain ⟨p5, e5, hf⟩ := Option.bind_eq_some_iff.mp hf
      refine ty_callVV ([]) ([]) rX12_quake_23 l_X12_224 moX12_asTold mvX12_asTold h0 rfl rfl (Nat.le_of_ble_eq_true rfl) ⟨rfl, rfl⟩ (CX12_asTold h0 e5) ?_
      refine tq_lconst (1 : Int64) rX12_quake_26 (by decide) ?_
      refine tq_lstore ([.ref a0, .int a1, .int a2, .int a3, .long (1 : Int64), tq_u, tq_u, tq_u, tq_u]) rX12_quake_27 (Nat.le_of_ble_eq_true rfl) rfl ?_
      refine tq_iconst (0 : Int32) rX12_quake_29 (by decide) ?_
      refine tq_istore ([.ref a0, .int a1, .int a2, .int a3, .long (1 : Int64), tq_u, .int (0 : Int32), tq_u, tq_u]) rX12_quake_30 (Nat.le_of_ble_eq_true rfl) rfl ?_
      obtain ⟨p10, e10, hf⟩ := Option.bind_eq_some_iff.mp hf
      refine tq_forget _ (tq_le_s (tq_le_u (tq_le_s (tq_le_s (tq_le_s (tq_le_u (tq_le_s (tq_le_u (tq_le_u tq_le_n))))))))) ?_
      refine tq_it_elim (P := fun p : Int64 × Int32 => tq_X S mX12_quake (d + 5) tq_k0 32 ([.ref a0, tq_u, .int a2, .int a3, .long p.1, tq_u, .int p.2, tq_u, tq_u]) [] (tq_st p5 L) (tq_Q (tq_one2 (some (.long out.1)) out.2 L))) (R := fun p : Int64 => tq_X S mX12_quake (d + 5) tq_k0 84 ([.ref a0, tq_u, .int a2, .int a3, .long p, tq_u, tq_u, tq_u, tq_u]) [] (tq_st p5 L) (tq_Q (tq_one2 (some (.long out.1)) out.2 L))) (fun p o hp hk => FX12_quake_s32_x  h0 hp hk) _ (((1 : Int64), (0 : Int32))) _ e10 ?_
      show tq_X _ _ _ _ _ _ _ _ _
      refine tq_lconst (0 : Int64) rX12_quake_84 (by decide) ?_
      refine tq_lstore ([.ref a0, tq_u, .int a2, .int a3, .long p10, tq_u, .long (0 : Int64), tq_u, tq_u]) rX12_quake_85 (Nat.le_of_ble_eq_true rfl) rfl ?_
      refine tq_iconst (0 : Int32) rX12_quake_87 (by decide) ?_
      refine tq_istore ([.ref a0, tq_u, .int a2, .int a3, .long p10, tq_u, .long (0 : Int64), tq_u, .int (0 : Int32)]) rX12_quake_88 (Nat.le_of_ble_eq_true rfl) rfl ?_
      obtain ⟨p13, e13, hf⟩ := Option.bind_eq_some_iff.mp hf
      refine tq_forget _ (tq_le_s (tq_le_u (tq_le_s (tq_le_s (tq_le_s (tq_le_u (tq_le_s (tq_le_u (tq_le_s tq_le_n))))))))) ?_
      refine tq_it_elim (P := fun p : Int64 × Int32 × tq_PI => tq_X S mX12_quake (d + 5) tq_k0 90 ([.ref a0, tq_u, .int a2, .int a3, .long p10, tq_u, .long p.1, tq_u, .int p.2.1]) [] (tq_st p.2.2 L) (tq_Q (tq_one2 (some (.long out.1)) out.2 L))) (R := fun p : Int64 × tq_PI => tq_X S mX12_quake (d + 5) tq_k0 119 ([tq_u, tq_u, tq_u, .int a3, .long p10, tq_u, .long p.1, tq_u, tq_u]) [] (tq_st p.2 L) (tq_Q (tq_one2 (some (.long out.1)) out.2 L))) (fun p o hp hk => FX12_quake_s90_x  h0 hp hk) _ (((0 : Int64), (0 : Int32), p5)) _ e13 ?_
      show tq_X _ _ _ _ _ _ _ _ _
      refine tq_iload_n rX12_quake_119 rfl ?_
      refine tq_if_eq rX12_quake_120 (fun c14 => ?_) (fun c14 => ?_)
      · rw [if_pos c14] at hf
        refine tq_lload rX12_quake_128 rfl ?_
        exact tq_forget _ (tq_le_u (tq_le_u (tq_le_u (tq_le_u (tq_le_s (tq_le_u (tq_le_s (tq_le_u (tq_le_u tq_le_n))))))))) (FX12_quake_j130_x   hf ⟨rfl, rfl, rfl⟩)
      · rw [if_neg c14] at hf
        refine tq_lload rX12_quake_123 rfl ?_
        refine tq_goto rX12_quake_125 ?_
        exact tq_forget _ (tq_le_u (tq_le_u (tq_le_u (tq_le_u (tq_le_s (tq_le_u (tq_le_s (tq_le_u (tq_le_u tq_le_n))))))))) (FX12_quake_j130_x   hf ⟨rfl, rfl, rfl⟩)
    · rw [if_pos c4] at hf
      exact tq_forget _ (tq_le_u (tq_le_u (tq_le_u (tq_le_u (tq_le_u (tq_le_u (tq_le_u (tq_le_u (tq_le_u tq_le_n))))))))) (FX12_quake_j18_x   hf ⟨rfl, rfl, rfl⟩)

abbrev mX12_isLog : tq_M := (yX12_isLog, cX12_isLog, 2, (Option.some Jvm.ClassFile.FieldType.boolean), 0, 0)
theorem f_X12_378 : tq_fok RX12 378 12 33 := ⟨by decide, by decide, Or.inl (tq_sg6 _ (List.mem_of_getElem? (i := 106) rfl))⟩
theorem rX12_isLog_0 : tq_D cX12_isLog 0 (.aload_n 0) 1 1 := ⟨by decide +kernel, rfl⟩
theorem rX12_isLog_1 : tq_D cX12_isLog 1 (.iconst 2) 1 2 := ⟨by decide +kernel, rfl⟩
theorem rX12_isLog_2 : tq_D cX12_isLog 2 (.iload_n 1) 1 3 := ⟨by decide +kernel, rfl⟩
theorem rX12_isLog_3 : tq_D cX12_isLog 3 (.invokevirtual 157) 3 6 := ⟨by decide +kernel, rfl⟩
theorem rX12_isLog_6 : tq_J cX12_isLog 6 (.ifCond .ne) 11 9 := ⟨5, by decide +kernel, by decide, rfl⟩
theorem rX12_isLog_9 : tq_D cX12_isLog 9 (.iconst 0) 1 10 := ⟨by decide +kernel, rfl⟩
theorem rX12_isLog_10 : decode cX12_isLog 10 = .ok (.ireturn, 1) := by decide +kernel
theorem rX12_isLog_11 : tq_D cX12_isLog 11 (.aload_n 0) 1 12 := ⟨by decide +kernel, rfl⟩
theorem rX12_isLog_12 : tq_D cX12_isLog 12 (.iconst 2) 1 13 := ⟨by decide +kernel, rfl⟩
theorem rX12_isLog_13 : tq_D cX12_isLog 13 (.iload_n 1) 1 14 := ⟨by decide +kernel, rfl⟩
theorem rX12_isLog_14 : tq_D cX12_isLog 14 (.invokestatic 184) 3 17 := ⟨by decide +kernel, rfl⟩
theorem rX12_isLog_17 : tq_D cX12_isLog 17 (.putfield 378) 3 20 := ⟨by decide +kernel, rfl⟩
theorem rX12_isLog_20 : tq_D cX12_isLog 20 (.iconst 1) 1 21 := ⟨by decide +kernel, rfl⟩
theorem rX12_isLog_21 : decode cX12_isLog 21 = .ok (.ireturn, 1) := by decide +kernel
noncomputable def FX12_isLog (I : tq_PI) (L : tq_PL) (a0 : Nat) (a1 : Int32) : Option (Bool × tq_PI) :=
  ((FX12_isOf I L a0 ((2 : Int32)) a1).bind fun p1 => (if (tq_b p1) = 0 then some (false, I) else (tq_let (FX12_placeOf I L ((2 : Int32)) a1) fun p3 => some (true, (tq_up2 I a0 33 p3)))))
set_option maxRecDepth 100000 in
set_option maxHeartbeats 4000000 in
theorem CX12_isLog {S : Nat × (Nat → Int32)} {d : Nat} {I : tq_PI} {L : tq_PL} {a0 : Nat} {a1 : Int32} (h0 : tq_sh0 a0 = 12) {out : Bool × tq_PI} (hf : FX12_isLog I L a0 a1 = some out) : tq_K S mX12_isLog (d + 2) [.ref a0, .int a1] I L (tq_one2 (some (.int (tq_b out.1))) out.2 L) := by
  unfold FX12_isLog at hf
  refine tq_K_of (by decide) (Nat.le_of_ble_eq_true rfl) (ls := [.ref a0, .int a1]) rfl ?_
  refine tq_aload_n rX12_isLog_0 rfl ?_
  refine tq_iconst (2 : Int32) rX12_isLog_1 (by decide) ?_
  refine tq_iload_n rX12_isLog_2 rfl ?_
  obtain ⟨p1, e1, hf⟩ := Option.bind_eq_some_iff.mp hf
  refine ty_callVI (tq_b p1) ([.int (2 : Int32), .int a1]) ([]) rX12_isLog_3 l_X12_157 moX12_isOf mvX12_isOf h0 rfl rfl (Nat.le_of_ble_eq_true rfl) ⟨rfl, rfl⟩ (CX12_isOf h0 e1) ?_
  refine tq_if_ne rX12_isLog_6 (fun c2 => ?_) (fun c2 => ?_)
  · rw [if_neg c2] at hf
    refine tq_aload_n rX12_isLog_11 rfl ?_
    refine tq_iconst (2 : Int32) rX12_isLog_12 (by decide) ?_
    refine tq_iload_n rX12_isLog_13 rfl ?_
    obtain ⟨p3, e3, hf⟩ := tq_let_elim hf
    refine ty_callSI p3 ([.int (2 : Int32), .int a1]) ([.ref a0]) rX12_isLog_14 l_X12_184 moX12_placeOf msX12_placeOf rfl rfl (Nat.le_of_ble_eq_true rfl) ⟨rfl, rfl⟩ (CX12_placeOf  e3) ?_
    refine ty_putI rX12_isLog_17 f_X12_378 rfl h0 rfl ?_
    refine tq_iconst (1 : Int32) rX12_isLog_20 (by decide) ?_
    refine ty_zret (ty := .boolean) rX12_isLog_21 rfl rfl rfl ?_
    have hf := Option.some.inj hf
    subst hf
    exact ⟨rfl, rfl, rfl⟩
  · rw [if_pos c2] at hf
    refine tq_iconst (0 : Int32) rX12_isLog_9 (by decide) ?_
    refine ty_zret (ty := .boolean) rX12_isLog_10 rfl rfl rfl ?_
    have hf := Option.some.inj hf
    subst hf
    exact ⟨rfl, rfl, rfl⟩

abbrev mX12_fact : tq_M := (yX12_fact, cX12_fact, 4, (Option.some Jvm.ClassFile.FieldType.int), 0, 0)
theorem moX12_isLog : tq_mok mX12_isLog 1 := ⟨tq_sg1 _ (List.mem_of_getElem? (i := 13) rfl), tq_sg8 _ (List.mem_of_getElem? (i := 123) rfl), ⟨by decide, by decide, by decide +kernel⟩, by decide⟩
theorem mvX12_isLog : 12 < 13 ∧ (tq_cl 12).1 = mX12_isLog.1.cls ∧ Cond.instanceMethod mX12_isLog.1 ∈ lw_tbl ∧ Cond.selects mX12_isLog.1.cls mX12_isLog.1 mX12_isLog.1 ∈ lw_tbl := ⟨by decide, rfl, tq_sg8 _ (List.mem_of_getElem? (i := 122) rfl), List.mem_append_left _ (List.mem_map.mpr ⟨_, List.mem_of_getElem? (i := 104) rfl, rfl⟩)⟩
theorem l_X12_381 : tq_lok RX12 381 mX12_isLog.1 := Or.inl (tq_sg8 _ (List.mem_of_getElem? (i := 120) rfl))
theorem rX12_fact_0 : tq_D cX12_fact 0 (.aload_n 0) 1 1 := ⟨by decide +kernel, rfl⟩
theorem rX12_fact_1 : tq_D cX12_fact 1 (.iload_n 1) 1 2 := ⟨by decide +kernel, rfl⟩
theorem rX12_fact_2 : tq_D cX12_fact 2 (.invokevirtual 381) 3 5 := ⟨by decide +kernel, rfl⟩
theorem rX12_fact_5 : tq_J cX12_fact 5 (.ifCond .ne) 11 8 := ⟨6, by decide +kernel, by decide, rfl⟩
theorem rX12_fact_8 : tq_D cX12_fact 8 (.bipush (-2)) 2 10 := ⟨by decide +kernel, rfl⟩
theorem rX12_fact_10 : decode cX12_fact 10 = .ok (.ireturn, 1) := by decide +kernel
theorem rX12_fact_11 : tq_D cX12_fact 11 (.iload_n 2) 1 12 := ⟨by decide +kernel, rfl⟩
theorem rX12_fact_12 : tq_D cX12_fact 12 (.iconst (-1)) 1 13 := ⟨by decide +kernel, rfl⟩
theorem rX12_fact_13 : tq_J cX12_fact 13 (.if_icmp .ne) 35 16 := ⟨22, by decide +kernel, by decide, rfl⟩
theorem rX12_fact_16 : tq_D cX12_fact 16 (.iload_n 3) 1 17 := ⟨by decide +kernel, rfl⟩
theorem rX12_fact_17 : tq_J cX12_fact 17 (.ifCond .ne) 32 20 := ⟨15, by decide +kernel, by decide, rfl⟩
theorem rX12_fact_20 : tq_D cX12_fact 20 (.aload_n 0) 1 21 := ⟨by decide +kernel, rfl⟩
theorem rX12_fact_21 : tq_D cX12_fact 21 (.getfield 7) 3 24 := ⟨by decide +kernel, rfl⟩
theorem rX12_fact_24 : tq_D cX12_fact 24 (.aload_n 0) 1 25 := ⟨by decide +kernel, rfl⟩
theorem rX12_fact_25 : tq_D cX12_fact 25 (.getfield 378) 3 28 := ⟨by decide +kernel, rfl⟩
theorem rX12_fact_28 : tq_D cX12_fact 28 (.iaload) 1 29 := ⟨by decide +kernel, rfl⟩
theorem rX12_fact_29 : tq_J cX12_fact 29 .goto 34 32 := ⟨5, by decide +kernel, by decide, rfl⟩
theorem rX12_fact_32 : tq_D cX12_fact 32 (.bipush (-2)) 2 34 := ⟨by decide +kernel, rfl⟩
theorem rX12_fact_34 : decode cX12_fact 34 = .ok (.ireturn, 1) := by decide +kernel
theorem rX12_fact_35 : tq_D cX12_fact 35 (.iload_n 2) 1 36 := ⟨by decide +kernel, rfl⟩
theorem rX12_fact_36 : tq_D cX12_fact 36 (.iconst 0) 1 37 := ⟨by decide +kernel, rfl⟩
theorem rX12_fact_37 : tq_D cX12_fact 37 (.aload_n 0) 1 38 := ⟨by decide +kernel, rfl⟩
theorem rX12_fact_38 : tq_D cX12_fact 38 (.getfield 7) 3 41 := ⟨by decide +kernel, rfl⟩
theorem rX12_fact_41 : tq_D cX12_fact 41 (.aload_n 0) 1 42 := ⟨by decide +kernel, rfl⟩
theorem rX12_fact_42 : tq_D cX12_fact 42 (.getfield 378) 3 45 := ⟨by decide +kernel, rfl⟩
theorem rX12_fact_45 : tq_D cX12_fact 45 (.iaload) 1 46 := ⟨by decide +kernel, rfl⟩
theorem rX12_fact_46 : tq_D cX12_fact 46 (.iconst 1) 1 47 := ⟨by decide +kernel, rfl⟩
theorem rX12_fact_47 : tq_D cX12_fact 47 (.isub) 1 48 := ⟨by decide +kernel, rfl⟩
theorem rX12_fact_48 : tq_D cX12_fact 48 (.invokestatic 118) 3 51 := ⟨by decide +kernel, rfl⟩
theorem rX12_fact_51 : tq_J cX12_fact 51 (.ifCond .eq) 83 54 := ⟨32, by decide +kernel, by decide, rfl⟩
theorem rX12_fact_54 : tq_D cX12_fact 54 (.iload_n 3) 1 55 := ⟨by decide +kernel, rfl⟩
theorem rX12_fact_55 : tq_D cX12_fact 55 (.iconst 0) 1 56 := ⟨by decide +kernel, rfl⟩
theorem rX12_fact_56 : tq_D cX12_fact 56 (.iconst 1) 1 57 := ⟨by decide +kernel, rfl⟩
theorem rX12_fact_57 : tq_D cX12_fact 57 (.invokestatic 118) 3 60 := ⟨by decide +kernel, rfl⟩
theorem rX12_fact_60 : tq_J cX12_fact 60 (.ifCond .eq) 83 63 := ⟨23, by decide +kernel, by decide, rfl⟩
theorem rX12_fact_63 : tq_D cX12_fact 63 (.aload_n 0) 1 64 := ⟨by decide +kernel, rfl⟩
theorem rX12_fact_64 : tq_D cX12_fact 64 (.getfield 7) 3 67 := ⟨by decide +kernel, rfl⟩
theorem rX12_fact_67 : tq_D cX12_fact 67 (.aload_n 0) 1 68 := ⟨by decide +kernel, rfl⟩
theorem rX12_fact_68 : tq_D cX12_fact 68 (.getfield 378) 3 71 := ⟨by decide +kernel, rfl⟩
theorem rX12_fact_71 : tq_D cX12_fact 71 (.iconst 1) 1 72 := ⟨by decide +kernel, rfl⟩
theorem rX12_fact_72 : tq_D cX12_fact 72 (.iadd) 1 73 := ⟨by decide +kernel, rfl⟩
theorem rX12_fact_73 : tq_D cX12_fact 73 (.iconst 2) 1 74 := ⟨by decide +kernel, rfl⟩
theorem rX12_fact_74 : tq_D cX12_fact 74 (.iload_n 2) 1 75 := ⟨by decide +kernel, rfl⟩
theorem rX12_fact_75 : tq_D cX12_fact 75 (.imul) 1 76 := ⟨by decide +kernel, rfl⟩
theorem rX12_fact_76 : tq_D cX12_fact 76 (.iadd) 1 77 := ⟨by decide +kernel, rfl⟩
theorem rX12_fact_77 : tq_D cX12_fact 77 (.iload_n 3) 1 78 := ⟨by decide +kernel, rfl⟩
theorem rX12_fact_78 : tq_D cX12_fact 78 (.iadd) 1 79 := ⟨by decide +kernel, rfl⟩
theorem rX12_fact_79 : tq_D cX12_fact 79 (.iaload) 1 80 := ⟨by decide +kernel, rfl⟩
theorem rX12_fact_80 : tq_J cX12_fact 80 .goto 85 83 := ⟨5, by decide +kernel, by decide, rfl⟩
theorem rX12_fact_83 : tq_D cX12_fact 83 (.bipush (-2)) 2 85 := ⟨by decide +kernel, rfl⟩
theorem rX12_fact_85 : decode cX12_fact 85 = .ok (.ireturn, 1) := by decide +kernel
noncomputable def FX12_fact_j83 (I : tq_PI) (L : tq_PL)  : Option (Int32 × tq_PI) :=
  some ((-2 : Int32), I)
noncomputable def FX12_fact (I : tq_PI) (L : tq_PL) (a0 : Nat) (a1 : Int32) (a2 : Int32) (a3 : Int32) : Option (Int32 × tq_PI) :=
  ((FX12_isLog I L a0 a1).bind fun p1 => (if (tq_b p1.1) = 0 then some ((-2 : Int32), p1.2) else (if a2 = (-1 : Int32) then (if a3 = 0 then (if 0 ≤ (p1.2 a0 33) ∧ (p1.2 a0 33) < 4016 then some ((p1.2 (tq_rg a0 0) ((p1.2 a0 33)).toNatClampNeg), p1.2) else none) else some ((-2 : Int32), p1.2)) else (if 0 ≤ (p1.2 a0 33) ∧ (p1.2 a0 33) < 4016 then (tq_let (FX12_isIn p1.2 L a2 ((0 : Int32)) (((p1.2 (tq_rg a0 0) ((p1.2 a0 33)).toNatClampNeg) - (1 : Int32)))) fun p5 => (if (tq_b p5) = 0 then (FX12_fact_j83 p1.2 L ) else (tq_let (FX12_isIn p1.2 L a3 ((0 : Int32)) ((1 : Int32))) fun p7 => (if (tq_b p7) = 0 then (FX12_fact_j83 p1.2 L ) else (if 0 ≤ ((((p1.2 a0 33) + (1 : Int32)) + ((2 : Int32) * a2)) + a3) ∧ ((((p1.2 a0 33) + (1 : Int32)) + ((2 : Int32) * a2)) + a3) < 4016 then some ((p1.2 (tq_rg a0 0) (((((p1.2 a0 33) + (1 : Int32)) + ((2 : Int32) * a2)) + a3)).toNatClampNeg), p1.2) else none))))) else none))))
set_option maxRecDepth 100000 in
set_option maxHeartbeats 4000000 in
theorem FX12_fact_j83_x {S : Nat × (Nat → Int32)} {d : Nat} {I : tq_PI} {L : tq_PL}   {q0 : Option Value → tq_PI → tq_PL → Prop} {out : Int32 × tq_PI} (hf : FX12_fact_j83 I L = some out) (hk : q0 (some (.int out.1)) out.2 L) : tq_X S mX12_fact (d + 3) tq_k0 83 ([tq_u, tq_u, tq_u, tq_u]) ([]) (tq_st I L) (tq_Q q0) := by
  unfold FX12_fact_j83 at hf
  refine tq_bipush (-2 : Int32) rX12_fact_83 (by decide) ?_
  refine ty_iret rX12_fact_85 rfl rfl ?_
  have hf := Option.some.inj hf
  subst hf
  exact hk

set_option maxRecDepth 100000 in
set_option maxHeartbeats 4000000 in
theorem CX12_fact {S : Nat × (Nat → Int32)} {d : Nat} {I : tq_PI} {L : tq_PL} {a0 : Nat} {a1 : Int32} {a2 : Int32} {a3 : Int32} (h0 : tq_sh0 a0 = 12) {out : Int32 × tq_PI} (hf : FX12_fact I L a0 a1 a2 a3 = some out) : tq_K S mX12_fact (d + 3) [.ref a0, .int a1, .int a2, .int a3] I L (tq_one2 (some (.int out.1)) out.2 L) := by
  unfold FX12_fact at hf
  refine tq_K_of (by decide) (Nat.le_of_ble_eq_true rfl) (ls := [.ref a0, .int a1, .int a2, .int a3]) rfl ?_
  refine tq_aload_n rX12_fact_0 rfl ?_
  refine tq_iload_n rX12_fact_1 rfl ?_
  obtain ⟨p1, e1, hf⟩ := Option.bind_eq_some_iff.mp hf
  refine ty_callVI (tq_b p1.1) ([.int a1]) ([]) rX12_fact_2 l_X12_381 moX12_isLog mvX12_isLog h0 rfl rfl (Nat.le_of_ble_eq_true rfl) ⟨rfl, rfl⟩ (CX12_isLog h0 e1) ?_
  refine tq_if_ne rX12_fact_5 (fun c2 => ?_) (fun c2 => ?_)
  · rw [if_neg c2] at hf
    refine tq_iload_n rX12_fact_11 rfl ?_
    refine tq_iconst (-1 : Int32) rX12_fact_12 (by decide) ?_
    refine tq_icmp_ne rX12_fact_13 (fun c3 => ?_) (fun c3 => ?_)
    · rw [if_neg c3] at hf
      refine tq_iload_n rX12_fact_35 rfl ?_
      refine tq_iconst (0 : Int32) rX12_fact_36 (by decide) ?_
      refine tq_aload_n rX12_fact_37 rfl ?_
      refine ty_getR rX12_fact_38 f_X12_7 rfl h0 (hp_12_0 h0).1 ?_
      refine tq_aload_n rX12_fact_41 rfl ?_
      refine ty_getI rX12_fact_42 f_X12_378 rfl h0 ?_
      obtain ⟨g4, hf⟩ := tq_chk hf
      refine ty_iald (v := 4016) rX12_fact_45 (hp_12_0 h0).2.1 (hp_12_0 h0).2.2 rfl (by decide) g4 ?_
      refine tq_iconst (1 : Int32) rX12_fact_46 (by decide) ?_
      refine tq_isub rX12_fact_47 ?_
      obtain ⟨p5, e5, hf⟩ := tq_let_elim hf
      refine ty_callSI (tq_b p5) ([.int a2, .int (0 : Int32), .int ((p1.2 (tq_rg a0 0) ((p1.2 a0 33)).toNatClampNeg) - (1 : Int32))]) ([]) rX12_fact_48 l_X12_118 moX12_isIn msX12_isIn rfl rfl (Nat.le_of_ble_eq_true rfl) ⟨rfl, rfl⟩ (CX12_isIn  e5) ?_
      refine tq_if_eq rX12_fact_51 (fun c6 => ?_) (fun c6 => ?_)
      · rw [if_pos c6] at hf
        exact tq_forget _ (tq_le_u (tq_le_u (tq_le_u (tq_le_u tq_le_n)))) (FX12_fact_j83_x   hf ⟨rfl, rfl, rfl⟩)
      · rw [if_neg c6] at hf
        refine tq_iload_n rX12_fact_54 rfl ?_
        refine tq_iconst (0 : Int32) rX12_fact_55 (by decide) ?_
        refine tq_iconst (1 : Int32) rX12_fact_56 (by decide) ?_
        obtain ⟨p7, e7, hf⟩ := tq_let_elim hf
        refine ty_callSI (tq_b p7) ([.int a3, .int (0 : Int32), .int (1 : Int32)]) ([]) rX12_fact_57 l_X12_118 moX12_isIn msX12_isIn rfl rfl (Nat.le_of_ble_eq_true rfl) ⟨rfl, rfl⟩ (CX12_isIn  e7) ?_
        refine tq_if_eq rX12_fact_60 (fun c8 => ?_) (fun c8 => ?_)
        · rw [if_pos c8] at hf
          exact tq_forget _ (tq_le_u (tq_le_u (tq_le_u (tq_le_u tq_le_n)))) (FX12_fact_j83_x   hf ⟨rfl, rfl, rfl⟩)
        · rw [if_neg c8] at hf
          refine tq_aload_n rX12_fact_63 rfl ?_
          refine ty_getR rX12_fact_64 f_X12_7 rfl h0 (hp_12_0 h0).1 ?_
          refine tq_aload_n rX12_fact_67 rfl ?_
          refine ty_getI rX12_fact_68 f_X12_378 rfl h0 ?_
          refine tq_iconst (1 : Int32) rX12_fact_71 (by decide) ?_
          refine tq_iadd rX12_fact_72 ?_
          refine tq_iconst (2 : Int32) rX12_fact_73 (by decide) ?_
          refine tq_iload_n rX12_fact_74 rfl ?_
          refine tq_imul rX12_fact_75 ?_
          refine tq_iadd rX12_fact_76 ?_
          refine tq_iload_n rX12_fact_77 rfl ?_
          refine tq_iadd rX12_fact_78 ?_
          obtain ⟨g9, hf⟩ := tq_chk hf
          refine ty_iald (v := 4016) rX12_fact_79 (hp_12_0 h0).2.1 (hp_12_0 h0).2.2 rfl (by decide) g9 ?_
          refine tq_goto rX12_fact_80 ?_
          refine ty_iret rX12_fact_85 rfl rfl ?_
          have hf := Option.some.inj hf
          subst hf
          exact ⟨rfl, rfl, rfl⟩
    · rw [if_pos c3] at hf
      refine tq_iload_n rX12_fact_16 rfl ?_
      refine tq_if_ne rX12_fact_17 (fun c10 => ?_) (fun c10 => ?_)
      · rw [if_neg c10] at hf
        refine tq_bipush (-2 : Int32) rX12_fact_32 (by decide) ?_
        refine ty_iret rX12_fact_34 rfl rfl ?_
        have hf := Option.some.inj hf
        subst hf
        exact ⟨rfl, rfl, rfl⟩
      · rw [if_pos c10] at hf
        refine tq_aload_n rX12_fact_20 rfl ?_
        refine ty_getR rX12_fact_21 f_X12_7 rfl h0 (hp_12_0 h0).1 ?_
        refine tq_aload_n rX12_fact_24 rfl ?_
        refine ty_getI rX12_fact_25 f_X12_378 rfl h0 ?_
        obtain ⟨g11, hf⟩ := tq_chk hf
        refine ty_iald (v := 4016) rX12_fact_28 (hp_12_0 h0).2.1 (hp_12_0 h0).2.2 rfl (by decide) g11 ?_
        refine tq_goto rX12_fact_29 ?_
        refine ty_iret rX12_fact_34 rfl rfl ?_
        have hf := Option.some.inj hf
        subst hf
        exact ⟨rfl, rfl, rfl⟩
  · rw [if_pos c2] at hf
    refine tq_bipush (-2 : Int32) rX12_fact_8 (by decide) ?_
    refine ty_iret rX12_fact_10 rfl rfl ?_
    have hf := Option.some.inj hf
    subst hf
    exact ⟨rfl, rfl, rfl⟩

abbrev mX12_far : tq_M := (yX12_far, cX12_far, 4, (Option.some Jvm.ClassFile.FieldType.int), 0, 0)
theorem rX12_far_0 : tq_D cX12_far 0 (.iload_n 0) 1 1 := ⟨by decide +kernel, rfl⟩
theorem rX12_far_1 : tq_D cX12_far 1 (.bipush 8) 2 3 := ⟨by decide +kernel, rfl⟩
theorem rX12_far_3 : tq_D cX12_far 3 (.irem) 1 4 := ⟨by decide +kernel, rfl⟩
theorem rX12_far_4 : tq_D cX12_far 4 (.iload_n 1) 1 5 := ⟨by decide +kernel, rfl⟩
theorem rX12_far_5 : tq_D cX12_far 5 (.bipush 8) 2 7 := ⟨by decide +kernel, rfl⟩
theorem rX12_far_7 : tq_D cX12_far 7 (.irem) 1 8 := ⟨by decide +kernel, rfl⟩
theorem rX12_far_8 : tq_D cX12_far 8 (.isub) 1 9 := ⟨by decide +kernel, rfl⟩
theorem rX12_far_9 : tq_D cX12_far 9 (.istore_n 2) 1 10 := ⟨by decide +kernel, rfl⟩
theorem rX12_far_10 : tq_D cX12_far 10 (.iload_n 0) 1 11 := ⟨by decide +kernel, rfl⟩
theorem rX12_far_11 : tq_D cX12_far 11 (.bipush 8) 2 13 := ⟨by decide +kernel, rfl⟩
theorem rX12_far_13 : tq_D cX12_far 13 (.idiv) 1 14 := ⟨by decide +kernel, rfl⟩
theorem rX12_far_14 : tq_D cX12_far 14 (.iload_n 1) 1 15 := ⟨by decide +kernel, rfl⟩
theorem rX12_far_15 : tq_D cX12_far 15 (.bipush 8) 2 17 := ⟨by decide +kernel, rfl⟩
theorem rX12_far_17 : tq_D cX12_far 17 (.idiv) 1 18 := ⟨by decide +kernel, rfl⟩
theorem rX12_far_18 : tq_D cX12_far 18 (.isub) 1 19 := ⟨by decide +kernel, rfl⟩
theorem rX12_far_19 : tq_D cX12_far 19 (.istore_n 3) 1 20 := ⟨by decide +kernel, rfl⟩
theorem rX12_far_20 : tq_D cX12_far 20 (.iload_n 2) 1 21 := ⟨by decide +kernel, rfl⟩
theorem rX12_far_21 : tq_J cX12_far 21 (.ifCond .ge) 29 24 := ⟨8, by decide +kernel, by decide, rfl⟩
theorem rX12_far_24 : tq_D cX12_far 24 (.iload_n 2) 1 25 := ⟨by decide +kernel, rfl⟩
theorem rX12_far_25 : tq_D cX12_far 25 (.ineg) 1 26 := ⟨by decide +kernel, rfl⟩
theorem rX12_far_26 : tq_J cX12_far 26 .goto 30 29 := ⟨4, by decide +kernel, by decide, rfl⟩
theorem rX12_far_29 : tq_D cX12_far 29 (.iload_n 2) 1 30 := ⟨by decide +kernel, rfl⟩
theorem rX12_far_30 : tq_D cX12_far 30 (.iload_n 3) 1 31 := ⟨by decide +kernel, rfl⟩
theorem rX12_far_31 : tq_J cX12_far 31 (.ifCond .ge) 39 34 := ⟨8, by decide +kernel, by decide, rfl⟩
theorem rX12_far_34 : tq_D cX12_far 34 (.iload_n 3) 1 35 := ⟨by decide +kernel, rfl⟩
theorem rX12_far_35 : tq_D cX12_far 35 (.ineg) 1 36 := ⟨by decide +kernel, rfl⟩
theorem rX12_far_36 : tq_J cX12_far 36 .goto 40 39 := ⟨4, by decide +kernel, by decide, rfl⟩
theorem rX12_far_39 : tq_D cX12_far 39 (.iload_n 3) 1 40 := ⟨by decide +kernel, rfl⟩
theorem rX12_far_40 : tq_D cX12_far 40 (.iadd) 1 41 := ⟨by decide +kernel, rfl⟩
theorem rX12_far_41 : decode cX12_far 41 = .ok (.ireturn, 1) := by decide +kernel
noncomputable def FX12_far_j40 (I : tq_PI) (L : tq_PL) (b0 : Int32) (b1 : Int32) : Option (Int32) :=
  some (b1 + b0)
noncomputable def FX12_far_j30 (I : tq_PI) (L : tq_PL) (a3 : Int32) (b0 : Int32) : Option (Int32) :=
  (if 0 ≤ a3 then (FX12_far_j40 I L a3 b0) else (FX12_far_j40 I L ((-a3)) b0))
noncomputable def FX12_far (I : tq_PI) (L : tq_PL) (a0 : Int32) (a1 : Int32) : Option (Int32) :=
  (if ¬ (8 : Int32) = 0 then (if ¬ (8 : Int32) = 0 then (if ¬ (8 : Int32) = 0 then (if ¬ (8 : Int32) = 0 then (if 0 ≤ ((a0 - a0 / (8 : Int32) * (8 : Int32)) - (a1 - a1 / (8 : Int32) * (8 : Int32))) then (FX12_far_j30 I L (((a0 / (8 : Int32)) - (a1 / (8 : Int32)))) (((a0 - a0 / (8 : Int32) * (8 : Int32)) - (a1 - a1 / (8 : Int32) * (8 : Int32))))) else (FX12_far_j30 I L (((a0 / (8 : Int32)) - (a1 / (8 : Int32)))) ((-((a0 - a0 / (8 : Int32) * (8 : Int32)) - (a1 - a1 / (8 : Int32) * (8 : Int32))))))) else none) else none) else none) else none)
set_option maxRecDepth 100000 in
set_option maxHeartbeats 4000000 in
theorem FX12_far_j40_x {S : Nat × (Nat → Int32)} {d : Nat} {I : tq_PI} {L : tq_PL} {b0 : Int32} {b1 : Int32}  {q0 : Option Value → tq_PI → tq_PL → Prop} {out : Int32} (hf : FX12_far_j40 I L b0 b1 = some out) (hk : q0 (some (.int out)) I L) : tq_X S mX12_far d tq_k0 40 ([tq_u, tq_u, tq_u, tq_u]) ([.int b0, .int b1]) (tq_st I L) (tq_Q q0) := by
  unfold FX12_far_j40 at hf
  refine tq_iadd rX12_far_40 ?_
  refine ty_iret rX12_far_41 rfl rfl ?_
  have hf := Option.some.inj hf
  subst hf
  exact hk

set_option maxRecDepth 100000 in
set_option maxHeartbeats 4000000 in
theorem FX12_far_j30_x {S : Nat × (Nat → Int32)} {d : Nat} {I : tq_PI} {L : tq_PL} {a3 : Int32} {b0 : Int32}  {q0 : Option Value → tq_PI → tq_PL → Prop} {out : Int32} (hf : FX12_far_j30 I L a3 b0 = some out) (hk : q0 (some (.int out)) I L) : tq_X S mX12_far d tq_k0 30 ([tq_u, tq_u, tq_u, .int a3]) ([.int b0]) (tq_st I L) (tq_Q q0) := by
  unfold FX12_far_j30 at hf
  refine tq_iload_n rX12_far_30 rfl ?_
  refine tq_if_ge rX12_far_31 (fun c6 => ?_) (fun c6 => ?_)
  · rw [if_pos c6] at hf
    refine tq_iload_n rX12_far_39 rfl ?_
    exact tq_forget _ (tq_le_u (tq_le_u (tq_le_u (tq_le_u tq_le_n)))) (FX12_far_j40_x   hf hk)
  · rw [if_neg c6] at hf
    refine tq_iload_n rX12_far_34 rfl ?_
    refine tq_ineg rX12_far_35 ?_
    refine tq_goto rX12_far_36 ?_
    exact tq_forget _ (tq_le_u (tq_le_u (tq_le_u (tq_le_u tq_le_n)))) (FX12_far_j40_x   hf hk)

set_option maxRecDepth 100000 in
set_option maxHeartbeats 4000000 in
theorem CX12_far {S : Nat × (Nat → Int32)} {d : Nat} {I : tq_PI} {L : tq_PL} {a0 : Int32} {a1 : Int32}  {out : Int32} (hf : FX12_far I L a0 a1 = some out) : tq_K S mX12_far d [.int a0, .int a1] I L (tq_one2 (some (.int out)) I L) := by
  unfold FX12_far at hf
  refine tq_K_of (by decide) (Nat.le_of_ble_eq_true rfl) (ls := [.int a0, .int a1, tq_u, tq_u]) rfl ?_
  refine tq_iload_n rX12_far_0 rfl ?_
  refine tq_bipush (8 : Int32) rX12_far_1 (by decide) ?_
  obtain ⟨g1, hf⟩ := tq_chk hf
  refine tq_irem rX12_far_3 g1 ?_
  refine tq_iload_n rX12_far_4 rfl ?_
  refine tq_bipush (8 : Int32) rX12_far_5 (by decide) ?_
  obtain ⟨g2, hf⟩ := tq_chk hf
  refine tq_irem rX12_far_7 g2 ?_
  refine tq_isub rX12_far_8 ?_
  refine tq_istore_n ([.int a0, .int a1, .int ((a0 - a0 / (8 : Int32) * (8 : Int32)) - (a1 - a1 / (8 : Int32) * (8 : Int32))), tq_u]) rX12_far_9 (Nat.le_of_ble_eq_true rfl) rfl ?_
  refine tq_iload_n rX12_far_10 rfl ?_
  refine tq_bipush (8 : Int32) rX12_far_11 (by decide) ?_
  obtain ⟨g3, hf⟩ := tq_chk hf
  refine tq_idiv rX12_far_13 g3 ?_
  refine tq_iload_n rX12_far_14 rfl ?_
  refine tq_bipush (8 : Int32) rX12_far_15 (by decide) ?_
  obtain ⟨g4, hf⟩ := tq_chk hf
  refine tq_idiv rX12_far_17 g4 ?_
  refine tq_isub rX12_far_18 ?_
  refine tq_istore_n ([.int a0, .int a1, .int ((a0 - a0 / (8 : Int32) * (8 : Int32)) - (a1 - a1 / (8 : Int32) * (8 : Int32))), .int ((a0 / (8 : Int32)) - (a1 / (8 : Int32)))]) rX12_far_19 (Nat.le_of_ble_eq_true rfl) rfl ?_
  refine tq_iload_n rX12_far_20 rfl ?_
  refine tq_if_ge rX12_far_21 (fun c5 => ?_) (fun c5 => ?_)
  · rw [if_pos c5] at hf
    refine tq_iload_n rX12_far_29 rfl ?_
    exact tq_forget _ (tq_le_u (tq_le_u (tq_le_u (tq_le_s tq_le_n)))) (FX12_far_j30_x   hf ⟨rfl, rfl, rfl⟩)
  · rw [if_neg c5] at hf
    refine tq_iload_n rX12_far_24 rfl ?_
    refine tq_ineg rX12_far_25 ?_
    refine tq_goto rX12_far_26 ?_
    exact tq_forget _ (tq_le_u (tq_le_u (tq_le_u (tq_le_s tq_le_n)))) (FX12_far_j30_x   hf ⟨rfl, rfl, rfl⟩)

abbrev mX12_hears : tq_M := (yX12_hears, cX12_hears, 3, (Option.some Jvm.ClassFile.FieldType.int), 0, 0)
theorem moX12_far : tq_mok mX12_far 2 := ⟨tq_sg1 _ (List.mem_of_getElem? (i := 13) rfl), tq_sg8 _ (List.mem_of_getElem? (i := 137) rfl), ⟨by decide, by decide, by decide +kernel⟩, by decide⟩
theorem msX12_far : Cond.static mX12_far.1 ∈ lw_tbl := tq_sg8 _ (List.mem_of_getElem? (i := 136) rfl)
theorem l_X12_384 : tq_lok RX12 384 mX12_far.1 := Or.inl (tq_sg8 _ (List.mem_of_getElem? (i := 135) rfl))
theorem rX12_hears_0 : tq_D cX12_hears 0 (.iload_n 0) 1 1 := ⟨by decide +kernel, rfl⟩
theorem rX12_hears_1 : tq_D cX12_hears 1 (.bipush 9) 2 3 := ⟨by decide +kernel, rfl⟩
theorem rX12_hears_3 : tq_D cX12_hears 3 (.irem) 1 4 := ⟨by decide +kernel, rfl⟩
theorem rX12_hears_4 : tq_D cX12_hears 4 (.iconst 1) 1 5 := ⟨by decide +kernel, rfl⟩
theorem rX12_hears_5 : tq_D cX12_hears 5 (.iadd) 1 6 := ⟨by decide +kernel, rfl⟩
theorem rX12_hears_6 : tq_D cX12_hears 6 (.iload_n 0) 1 7 := ⟨by decide +kernel, rfl⟩
theorem rX12_hears_7 : tq_D cX12_hears 7 (.bipush 9) 2 9 := ⟨by decide +kernel, rfl⟩
theorem rX12_hears_9 : tq_D cX12_hears 9 (.idiv) 1 10 := ⟨by decide +kernel, rfl⟩
theorem rX12_hears_10 : tq_D cX12_hears 10 (.iload_n 1) 1 11 := ⟨by decide +kernel, rfl⟩
theorem rX12_hears_11 : tq_D cX12_hears 11 (.invokestatic 384) 3 14 := ⟨by decide +kernel, rfl⟩
theorem rX12_hears_14 : tq_D cX12_hears 14 (.isub) 1 15 := ⟨by decide +kernel, rfl⟩
theorem rX12_hears_15 : tq_D cX12_hears 15 (.istore_n 2) 1 16 := ⟨by decide +kernel, rfl⟩
theorem rX12_hears_16 : tq_D cX12_hears 16 (.iload_n 2) 1 17 := ⟨by decide +kernel, rfl⟩
theorem rX12_hears_17 : tq_J cX12_hears 17 (.ifCond .le) 24 20 := ⟨7, by decide +kernel, by decide, rfl⟩
theorem rX12_hears_20 : tq_D cX12_hears 20 (.iload_n 2) 1 21 := ⟨by decide +kernel, rfl⟩
theorem rX12_hears_21 : tq_J cX12_hears 21 .goto 25 24 := ⟨4, by decide +kernel, by decide, rfl⟩
theorem rX12_hears_24 : tq_D cX12_hears 24 (.iconst 0) 1 25 := ⟨by decide +kernel, rfl⟩
theorem rX12_hears_25 : decode cX12_hears 25 = .ok (.ireturn, 1) := by decide +kernel
noncomputable def FX12_hears (I : tq_PI) (L : tq_PL) (a0 : Int32) (a1 : Int32) : Option (Int32) :=
  (if ¬ (9 : Int32) = 0 then (if ¬ (9 : Int32) = 0 then ((FX12_far I L ((a0 / (9 : Int32))) a1).bind fun p3 => (if (((a0 - a0 / (9 : Int32) * (9 : Int32)) + (1 : Int32)) - p3) ≤ 0 then some (0 : Int32) else some (((a0 - a0 / (9 : Int32) * (9 : Int32)) + (1 : Int32)) - p3))) else none) else none)
set_option maxRecDepth 100000 in
set_option maxHeartbeats 4000000 in
theorem CX12_hears {S : Nat × (Nat → Int32)} {d : Nat} {I : tq_PI} {L : tq_PL} {a0 : Int32} {a1 : Int32}  {out : Int32} (hf : FX12_hears I L a0 a1 = some out) : tq_K S mX12_hears (d + 1) [.int a0, .int a1] I L (tq_one2 (some (.int out)) I L) := by
  unfold FX12_hears at hf
  refine tq_K_of (by decide) (Nat.le_of_ble_eq_true rfl) (ls := [.int a0, .int a1, tq_u]) rfl ?_
  refine tq_iload_n rX12_hears_0 rfl ?_
  refine tq_bipush (9 : Int32) rX12_hears_1 (by decide) ?_
  obtain ⟨g1, hf⟩ := tq_chk hf
  refine tq_irem rX12_hears_3 g1 ?_
  refine tq_iconst (1 : Int32) rX12_hears_4 (by decide) ?_
  refine tq_iadd rX12_hears_5 ?_
  refine tq_iload_n rX12_hears_6 rfl ?_
  refine tq_bipush (9 : Int32) rX12_hears_7 (by decide) ?_
  obtain ⟨g2, hf⟩ := tq_chk hf
  refine tq_idiv rX12_hears_9 g2 ?_
  refine tq_iload_n rX12_hears_10 rfl ?_
  obtain ⟨p3, e3, hf⟩ := Option.bind_eq_some_iff.mp hf
  refine ty_callSI p3 ([.int (a0 / (9 : Int32)), .int a1]) ([.int ((a0 - a0 / (9 : Int32) * (9 : Int32)) + (1 : Int32))]) rX12_hears_11 l_X12_384 moX12_far msX12_far rfl rfl (Nat.le_of_ble_eq_true rfl) ⟨rfl, rfl⟩ (CX12_far  e3) ?_
  refine tq_isub rX12_hears_14 ?_
  refine tq_istore_n ([.int a0, .int a1, .int (((a0 - a0 / (9 : Int32) * (9 : Int32)) + (1 : Int32)) - p3)]) rX12_hears_15 (Nat.le_of_ble_eq_true rfl) rfl ?_
  refine tq_iload_n rX12_hears_16 rfl ?_
  refine tq_if_le rX12_hears_17 (fun c4 => ?_) (fun c4 => ?_)
  · rw [if_pos c4] at hf
    refine tq_iconst (0 : Int32) rX12_hears_24 (by decide) ?_
    refine ty_iret rX12_hears_25 rfl rfl ?_
    have hf := Option.some.inj hf
    subst hf
    exact ⟨rfl, rfl, rfl⟩
  · rw [if_neg c4] at hf
    refine tq_iload_n rX12_hears_20 rfl ?_
    refine tq_goto rX12_hears_21 ?_
    refine ty_iret rX12_hears_25 rfl rfl ?_
    have hf := Option.some.inj hf
    subst hf
    exact ⟨rfl, rfl, rfl⟩

abbrev mX12_isSo : tq_M := (yX12_isSo, cX12_isSo, 4, (Option.some Jvm.ClassFile.FieldType.boolean), 0, 0)
theorem moX12_hears : tq_mok mX12_hears 2 := ⟨tq_sg1 _ (List.mem_of_getElem? (i := 13) rfl), tq_sg8 _ (List.mem_of_getElem? (i := 134) rfl), ⟨by decide, by decide, by decide +kernel⟩, by decide⟩
theorem msX12_hears : Cond.static mX12_hears.1 ∈ lw_tbl := tq_sg8 _ (List.mem_of_getElem? (i := 133) rfl)
theorem l_X12_387 : tq_lok RX12 387 mX12_hears.1 := Or.inl (tq_sg8 _ (List.mem_of_getElem? (i := 132) rfl))
theorem rX12_isSo_0 : tq_D cX12_isSo 0 (.iconst 1) 1 1 := ⟨by decide +kernel, rfl⟩
theorem rX12_isSo_1 : tq_D cX12_isSo 1 (.istore_n 2) 1 2 := ⟨by decide +kernel, rfl⟩
theorem rX12_isSo_2 : tq_D cX12_isSo 2 (.iconst 0) 1 3 := ⟨by decide +kernel, rfl⟩
theorem rX12_isSo_3 : tq_D cX12_isSo 3 (.istore_n 3) 1 4 := ⟨by decide +kernel, rfl⟩
theorem rX12_isSo_4 : tq_D cX12_isSo 4 (.iload_n 3) 1 5 := ⟨by decide +kernel, rfl⟩
theorem rX12_isSo_5 : tq_D cX12_isSo 5 (.aload_n 0) 1 6 := ⟨by decide +kernel, rfl⟩
theorem rX12_isSo_6 : tq_D cX12_isSo 6 (.getfield 7) 3 9 := ⟨by decide +kernel, rfl⟩
theorem rX12_isSo_9 : tq_D cX12_isSo 9 (.aload_n 0) 1 10 := ⟨by decide +kernel, rfl⟩
theorem rX12_isSo_10 : tq_D cX12_isSo 10 (.getfield 378) 3 13 := ⟨by decide +kernel, rfl⟩
theorem rX12_isSo_13 : tq_D cX12_isSo 13 (.iaload) 1 14 := ⟨by decide +kernel, rfl⟩
theorem rX12_isSo_14 : tq_J cX12_isSo 14 (.if_icmp .ge) 70 17 := ⟨56, by decide +kernel, by decide, rfl⟩
theorem rX12_isSo_17 : tq_D cX12_isSo 17 (.iload_n 2) 1 18 := ⟨by decide +kernel, rfl⟩
theorem rX12_isSo_18 : tq_J cX12_isSo 18 (.ifCond .eq) 62 21 := ⟨44, by decide +kernel, by decide, rfl⟩
theorem rX12_isSo_21 : tq_D cX12_isSo 21 (.iload_n 1) 1 22 := ⟨by decide +kernel, rfl⟩
theorem rX12_isSo_22 : tq_D cX12_isSo 22 (.aload_n 0) 1 23 := ⟨by decide +kernel, rfl⟩
theorem rX12_isSo_23 : tq_D cX12_isSo 23 (.getfield 7) 3 26 := ⟨by decide +kernel, rfl⟩
theorem rX12_isSo_26 : tq_D cX12_isSo 26 (.aload_n 0) 1 27 := ⟨by decide +kernel, rfl⟩
theorem rX12_isSo_27 : tq_D cX12_isSo 27 (.getfield 378) 3 30 := ⟨by decide +kernel, rfl⟩
theorem rX12_isSo_30 : tq_D cX12_isSo 30 (.iconst 1) 1 31 := ⟨by decide +kernel, rfl⟩
theorem rX12_isSo_31 : tq_D cX12_isSo 31 (.iadd) 1 32 := ⟨by decide +kernel, rfl⟩
theorem rX12_isSo_32 : tq_D cX12_isSo 32 (.iconst 2) 1 33 := ⟨by decide +kernel, rfl⟩
theorem rX12_isSo_33 : tq_D cX12_isSo 33 (.iload_n 3) 1 34 := ⟨by decide +kernel, rfl⟩
theorem rX12_isSo_34 : tq_D cX12_isSo 34 (.imul) 1 35 := ⟨by decide +kernel, rfl⟩
theorem rX12_isSo_35 : tq_D cX12_isSo 35 (.iadd) 1 36 := ⟨by decide +kernel, rfl⟩
theorem rX12_isSo_36 : tq_D cX12_isSo 36 (.iaload) 1 37 := ⟨by decide +kernel, rfl⟩
theorem rX12_isSo_37 : tq_D cX12_isSo 37 (.invokestatic 387) 3 40 := ⟨by decide +kernel, rfl⟩
theorem rX12_isSo_40 : tq_D cX12_isSo 40 (.aload_n 0) 1 41 := ⟨by decide +kernel, rfl⟩
theorem rX12_isSo_41 : tq_D cX12_isSo 41 (.getfield 7) 3 44 := ⟨by decide +kernel, rfl⟩
theorem rX12_isSo_44 : tq_D cX12_isSo 44 (.aload_n 0) 1 45 := ⟨by decide +kernel, rfl⟩
theorem rX12_isSo_45 : tq_D cX12_isSo 45 (.getfield 378) 3 48 := ⟨by decide +kernel, rfl⟩
theorem rX12_isSo_48 : tq_D cX12_isSo 48 (.iconst 2) 1 49 := ⟨by decide +kernel, rfl⟩
theorem rX12_isSo_49 : tq_D cX12_isSo 49 (.iadd) 1 50 := ⟨by decide +kernel, rfl⟩
theorem rX12_isSo_50 : tq_D cX12_isSo 50 (.iconst 2) 1 51 := ⟨by decide +kernel, rfl⟩
theorem rX12_isSo_51 : tq_D cX12_isSo 51 (.iload_n 3) 1 52 := ⟨by decide +kernel, rfl⟩
theorem rX12_isSo_52 : tq_D cX12_isSo 52 (.imul) 1 53 := ⟨by decide +kernel, rfl⟩
theorem rX12_isSo_53 : tq_D cX12_isSo 53 (.iadd) 1 54 := ⟨by decide +kernel, rfl⟩
theorem rX12_isSo_54 : tq_D cX12_isSo 54 (.iaload) 1 55 := ⟨by decide +kernel, rfl⟩
theorem rX12_isSo_55 : tq_J cX12_isSo 55 (.if_icmp .ne) 62 58 := ⟨7, by decide +kernel, by decide, rfl⟩
theorem rX12_isSo_58 : tq_D cX12_isSo 58 (.iconst 1) 1 59 := ⟨by decide +kernel, rfl⟩
theorem rX12_isSo_59 : tq_J cX12_isSo 59 .goto 63 62 := ⟨4, by decide +kernel, by decide, rfl⟩
theorem rX12_isSo_62 : tq_D cX12_isSo 62 (.iconst 0) 1 63 := ⟨by decide +kernel, rfl⟩
theorem rX12_isSo_63 : tq_D cX12_isSo 63 (.istore_n 2) 1 64 := ⟨by decide +kernel, rfl⟩
theorem rX12_isSo_64 : tq_D cX12_isSo 64 (.iinc 3 1) 3 67 := ⟨by decide +kernel, rfl⟩
theorem rX12_isSo_67 : tq_J cX12_isSo 67 .goto 4 70 := ⟨(-63), by decide +kernel, by decide, rfl⟩
theorem rX12_isSo_70 : tq_D cX12_isSo 70 (.iload_n 2) 1 71 := ⟨by decide +kernel, rfl⟩
theorem rX12_isSo_71 : decode cX12_isSo 71 = .ok (.ireturn, 1) := by decide +kernel
noncomputable def FX12_isSo_j63L4 (I : tq_PI) (L : tq_PL) (a0 : Nat) (a1 : Int32) (a3 : Int32) (b0 : Int32) : Option ((Int32 × Int32) ⊕ (Int32)) :=
  some (.inl (b0, (a3 + 1)))
noncomputable def FX12_isSo_j62L4 (I : tq_PI) (L : tq_PL) (a0 : Nat) (a1 : Int32) (a3 : Int32) : Option ((Int32 × Int32) ⊕ (Int32)) :=
  (FX12_isSo_j63L4 I L a0 a1 a3 ((0 : Int32)))
noncomputable def FX12_isSo_s4 (I : tq_PI) (L : tq_PL) (a0 : Nat) (a1 : Int32) (a2 : Int32) (a3 : Int32) : Option ((Int32 × Int32) ⊕ (Int32)) :=
  (if 0 ≤ (I a0 33) ∧ (I a0 33) < 4016 then (if (I (tq_rg a0 0) ((I a0 33)).toNatClampNeg) ≤ a3 then some (.inr a2) else (if a2 = 0 then (FX12_isSo_j62L4 I L a0 a1 a3) else (if 0 ≤ (((I a0 33) + (1 : Int32)) + ((2 : Int32) * a3)) ∧ (((I a0 33) + (1 : Int32)) + ((2 : Int32) * a3)) < 4016 then ((FX12_hears I L a1 ((I (tq_rg a0 0) ((((I a0 33) + (1 : Int32)) + ((2 : Int32) * a3))).toNatClampNeg))).bind fun p5 => (if 0 ≤ (((I a0 33) + (2 : Int32)) + ((2 : Int32) * a3)) ∧ (((I a0 33) + (2 : Int32)) + ((2 : Int32) * a3)) < 4016 then (if p5 = (I (tq_rg a0 0) ((((I a0 33) + (2 : Int32)) + ((2 : Int32) * a3))).toNatClampNeg) then (FX12_isSo_j63L4 I L a0 a1 a3 ((1 : Int32))) else (FX12_isSo_j62L4 I L a0 a1 a3)) else none)) else none))) else none)
noncomputable def FX12_isSo (I : tq_PI) (L : tq_PL) (a0 : Nat) (a1 : Int32) : Option (Bool) :=
  ((tq_it (fun p : Int32 × Int32 => FX12_isSo_s4 I L a0 a1 p.1 p.2) tq_N ((1 : Int32), (0 : Int32))).bind fun p8 => (if p8 = 0 ∨ p8 = 1 then some (decide (p8 = 1)) else none))
set_option maxRecDepth 100000 in
set_option maxHeartbeats 4000000 in
theorem FX12_isSo_j63L4_x {S : Nat × (Nat → Int32)} {d : Nat} {I : tq_PI} {L : tq_PL} {a0 : Nat} {a1 : Int32} {a3 : Int32} {b0 : Int32} (h0 : tq_sh0 a0 = 12) {q0 : Option Value → tq_PI → tq_PL → Prop} {out : (Int32 × Int32) ⊕ (Int32)} (hf : FX12_isSo_j63L4 I L a0 a1 a3 b0 = some out) (hk : Sum.elim (fun p : Int32 × Int32 => tq_X S mX12_isSo (d + 2) tq_k0 4 ([.ref a0, .int a1, .int p.1, .int p.2]) [] (tq_st I L) (tq_Q q0)) (fun p : Int32 => tq_X S mX12_isSo (d + 2) tq_k0 70 ([tq_u, tq_u, .int p, tq_u]) [] (tq_st I L) (tq_Q q0)) out) : tq_X S mX12_isSo (d + 2) tq_k0 63 ([.ref a0, .int a1, tq_u, .int a3]) ([.int b0]) (tq_st I L) (tq_Q q0) := by
  unfold FX12_isSo_j63L4 at hf
  refine tq_istore_n ([.ref a0, .int a1, .int b0, .int a3]) rX12_isSo_63 (Nat.le_of_ble_eq_true rfl) rfl ?_
  refine tq_iinc (a3 + 1) ([.ref a0, .int a1, .int b0, .int (a3 + 1)]) rX12_isSo_64 rfl (tq_inc (by decide)) (Nat.le_of_ble_eq_true rfl) rfl ?_
  refine tq_goto rX12_isSo_67 ?_
  have hf := Option.some.inj hf
  subst hf
  exact tq_forget _ (tq_le_s (tq_le_s (tq_le_s (tq_le_s tq_le_n)))) hk

set_option maxRecDepth 100000 in
set_option maxHeartbeats 4000000 in
theorem FX12_isSo_j62L4_x {S : Nat × (Nat → Int32)} {d : Nat} {I : tq_PI} {L : tq_PL} {a0 : Nat} {a1 : Int32} {a3 : Int32} (h0 : tq_sh0 a0 = 12) {q0 : Option Value → tq_PI → tq_PL → Prop} {out : (Int32 × Int32) ⊕ (Int32)} (hf : FX12_isSo_j62L4 I L a0 a1 a3 = some out) (hk : Sum.elim (fun p : Int32 × Int32 => tq_X S mX12_isSo (d + 2) tq_k0 4 ([.ref a0, .int a1, .int p.1, .int p.2]) [] (tq_st I L) (tq_Q q0)) (fun p : Int32 => tq_X S mX12_isSo (d + 2) tq_k0 70 ([tq_u, tq_u, .int p, tq_u]) [] (tq_st I L) (tq_Q q0)) out) : tq_X S mX12_isSo (d + 2) tq_k0 62 ([.ref a0, .int a1, tq_u, .int a3]) ([]) (tq_st I L) (tq_Q q0) := by
  unfold FX12_isSo_j62L4 at hf
  refine tq_iconst (0 : Int32) rX12_isSo_62 (by decide) ?_
  exact tq_forget _ (tq_le_s (tq_le_s (tq_le_u (tq_le_s tq_le_n)))) (FX12_isSo_j63L4_x  h0 hf hk)

set_option maxRecDepth 100000 in
set_option maxHeartbeats 4000000 in
theorem FX12_isSo_s4_x {S : Nat × (Nat → Int32)} {d : Nat} {I : tq_PI} {L : tq_PL} {a0 : Nat} {a1 : Int32} {a2 : Int32} {a3 : Int32} (h0 : tq_sh0 a0 = 12) {q0 : Option Value → tq_PI → tq_PL → Prop} {out : (Int32 × Int32) ⊕ (Int32)} (hf : FX12_isSo_s4 I L a0 a1 a2 a3 = some out) (hk : Sum.elim (fun p : Int32 × Int32 => tq_X S mX12_isSo (d + 2) tq_k0 4 ([.ref a0, .int a1, .int p.1, .int p.2]) [] (tq_st I L) (tq_Q q0)) (fun p : Int32 => tq_X S mX12_isSo (d + 2) tq_k0 70 ([tq_u, tq_u, .int p, tq_u]) [] (tq_st I L) (tq_Q q0)) out) : tq_X S mX12_isSo (d + 2) tq_k0 4 ([.ref a0, .int a1, .int a2, .int a3]) [] (tq_st I L) (tq_Q q0) := by
  unfold FX12_isSo_s4 at hf
  refine tq_iload_n rX12_isSo_4 rfl ?_
  refine tq_aload_n rX12_isSo_5 rfl ?_
  refine ty_getR rX12_isSo_6 f_X12_7 rfl h0 (hp_12_0 h0).1 ?_
  refine tq_aload_n rX12_isSo_9 rfl ?_
  refine ty_getI rX12_isSo_10 f_X12_378 rfl h0 ?_
  obtain ⟨g1, hf⟩ := tq_chk hf
  refine ty_iald (v := 4016) rX12_isSo_13 (hp_12_0 h0).2.1 (hp_12_0 h0).2.2 rfl (by decide) g1 ?_
  refine tq_icmp_ge rX12_isSo_14 (fun c2 => ?_) (fun c2 => ?_)
  · rw [if_pos c2] at hf
    have hf := Option.some.inj hf
    subst hf
    exact tq_forget _ (tq_le_u (tq_le_u (tq_le_s (tq_le_u tq_le_n)))) hk
  · rw [if_neg c2] at hf
    refine tq_iload_n rX12_isSo_17 rfl ?_
    refine tq_if_eq rX12_isSo_18 (fun c3 => ?_) (fun c3 => ?_)
    · rw [if_pos c3] at hf
      exact tq_forget _ (tq_le_s (tq_le_s (tq_le_u (tq_le_s tq_le_n)))) (FX12_isSo_j62L4_x  h0 hf hk)
    · rw [if_neg c3] at hf
      refine tq_iload_n rX12_isSo_21 rfl ?_
      refine tq_aload_n rX12_isSo_22 rfl ?_
      refine ty_getR rX12_isSo_23 f_X12_7 rfl h0 (hp_12_0 h0).1 ?_
      refine tq_aload_n rX12_isSo_26 rfl ?_
      refine ty_getI rX12_isSo_27 f_X12_378 rfl h0 ?_
      refine tq_iconst (1 : Int32) rX12_isSo_30 (by decide) ?_
      refine tq_iadd rX12_isSo_31 ?_
      refine tq_iconst (2 : Int32) rX12_isSo_32 (by decide) ?_
      refine tq_iload_n rX12_isSo_33 rfl ?_
      refine tq_imul rX12_isSo_34 ?_
      refine tq_iadd rX12_isSo_35 ?_
      obtain ⟨g4, hf⟩ := tq_chk hf
      refine ty_iald (v := 4016) rX12_isSo_36 (hp_12_0 h0).2.1 (hp_12_0 h0).2.2 rfl (by decide) g4 ?_
      obtain ⟨p5, e5, hf⟩ := Option.bind_eq_some_iff.mp hf
      refine ty_callSI p5 ([.int a1, .int (I (tq_rg a0 0) ((((I a0 33) + (1 : Int32)) + ((2 : Int32) * a3))).toNatClampNeg)]) ([]) rX12_isSo_37 l_X12_387 moX12_hears msX12_hears rfl rfl (Nat.le_of_ble_eq_true rfl) ⟨rfl, rfl⟩ (CX12_hears  e5) ?_
      refine tq_aload_n rX12_isSo_40 rfl ?_
      refine ty_getR rX12_isSo_41 f_X12_7 rfl h0 (hp_12_0 h0).1 ?_
      refine tq_aload_n rX12_isSo_44 rfl ?_
      refine ty_getI rX12_isSo_45 f_X12_378 rfl h0 ?_
      refine tq_iconst (2 : Int32) rX12_isSo_48 (by decide) ?_
      refine tq_iadd rX12_isSo_49 ?_
      refine tq_iconst (2 : Int32) rX12_isSo_50 (by decide) ?_
      refine tq_iload_n rX12_isSo_51 rfl ?_
      refine tq_imul rX12_isSo_52 ?_
      refine tq_iadd rX12_isSo_53 ?_
      obtain ⟨g6, hf⟩ := tq_chk hf
      refine ty_iald (v := 4016) rX12_isSo_54 (hp_12_0 h0).2.1 (hp_12_0 h0).2.2 rfl (by decide) g6 ?_
      refine tq_icmp_ne rX12_isSo_55 (fun c7 => ?_) (fun c7 => ?_)
      · rw [if_neg c7] at hf
        exact tq_forget _ (tq_le_s (tq_le_s (tq_le_u (tq_le_s tq_le_n)))) (FX12_isSo_j62L4_x  h0 hf hk)
      · rw [if_pos c7] at hf
        refine tq_iconst (1 : Int32) rX12_isSo_58 (by decide) ?_
        refine tq_goto rX12_isSo_59 ?_
        exact tq_forget _ (tq_le_s (tq_le_s (tq_le_u (tq_le_s tq_le_n)))) (FX12_isSo_j63L4_x  h0 hf hk)

set_option maxRecDepth 100000 in
set_option maxHeartbeats 4000000 in
theorem CX12_isSo {S : Nat × (Nat → Int32)} {d : Nat} {I : tq_PI} {L : tq_PL} {a0 : Nat} {a1 : Int32} (h0 : tq_sh0 a0 = 12) {out : Bool} (hf : FX12_isSo I L a0 a1 = some out) : tq_K S mX12_isSo (d + 2) [.ref a0, .int a1] I L (tq_one2 (some (.int (tq_b out))) I L) := by
  unfold FX12_isSo at hf
  refine tq_K_of (by decide) (Nat.le_of_ble_eq_true rfl) (ls := [.ref a0, .int a1, tq_u, tq_u]) rfl ?_
  refine tq_iconst (1 : Int32) rX12_isSo_0 (by decide) ?_
  refine tq_istore_n ([.ref a0, .int a1, .int (1 : Int32), tq_u]) rX12_isSo_1 (Nat.le_of_ble_eq_true rfl) rfl ?_
  refine tq_iconst (0 : Int32) rX12_isSo_2 (by decide) ?_
  refine tq_istore_n ([.ref a0, .int a1, .int (1 : Int32), .int (0 : Int32)]) rX12_isSo_3 (Nat.le_of_ble_eq_true rfl) rfl ?_
  obtain ⟨p8, e8, hf⟩ := Option.bind_eq_some_iff.mp hf
  refine tq_forget _ (tq_le_s (tq_le_s (tq_le_s (tq_le_s tq_le_n)))) ?_
  refine tq_it_elim (P := fun p : Int32 × Int32 => tq_X S mX12_isSo (d + 2) tq_k0 4 ([.ref a0, .int a1, .int p.1, .int p.2]) [] (tq_st I L) (tq_Q (tq_one2 (some (.int (tq_b out))) I L))) (R := fun p : Int32 => tq_X S mX12_isSo (d + 2) tq_k0 70 ([tq_u, tq_u, .int p, tq_u]) [] (tq_st I L) (tq_Q (tq_one2 (some (.int (tq_b out))) I L))) (fun p o hp hk => FX12_isSo_s4_x  h0 hp hk) _ (((1 : Int32), (0 : Int32))) _ e8 ?_
  show tq_X _ _ _ _ _ _ _ _ _
  refine tq_iload_n rX12_isSo_70 rfl ?_
  obtain ⟨g9, hf⟩ := tq_chk hf
  refine ty_zret (ty := .boolean) rX12_isSo_71 rfl (tq_fitZ g9).1 rfl ?_
  have hf := Option.some.inj hf
  subst hf
  have e9 : tq_b (decide (p8 = 1)) = p8 := by rcases g9 with g9 | g9 <;> rw [g9] <;> rfl
  exact ⟨by rw [e9], rfl, rfl⟩

abbrev mX12_greatestOf : tq_M := (yX12_greatestOf, cX12_greatestOf, 4, (Option.some Jvm.ClassFile.FieldType.int), 0, 0)
theorem moX12_isSo : tq_mok mX12_isSo 1 := ⟨tq_sg1 _ (List.mem_of_getElem? (i := 13) rfl), tq_sg8 _ (List.mem_of_getElem? (i := 131) rfl), ⟨by decide, by decide, by decide +kernel⟩, by decide⟩
theorem mvX12_isSo : 12 < 13 ∧ (tq_cl 12).1 = mX12_isSo.1.cls ∧ Cond.instanceMethod mX12_isSo.1 ∈ lw_tbl ∧ Cond.selects mX12_isSo.1.cls mX12_isSo.1 mX12_isSo.1 ∈ lw_tbl := ⟨by decide, rfl, tq_sg8 _ (List.mem_of_getElem? (i := 130) rfl), List.mem_append_left _ (List.mem_map.mpr ⟨_, List.mem_of_getElem? (i := 105) rfl, rfl⟩)⟩
theorem f_X12_54 : tq_fok RX12 54 12 34 := ⟨by decide, by decide, Or.inl (tq_sg6 _ (List.mem_of_getElem? (i := 107) rfl))⟩
theorem l_X12_390 : tq_lok RX12 390 mX12_isSo.1 := Or.inl (tq_sg8 _ (List.mem_of_getElem? (i := 128) rfl))
theorem rX12_greatestOf_0 : tq_D cX12_greatestOf 0 (.iconst 0) 1 1 := ⟨by decide +kernel, rfl⟩
theorem rX12_greatestOf_1 : tq_D cX12_greatestOf 1 (.istore_n 2) 1 2 := ⟨by decide +kernel, rfl⟩
theorem rX12_greatestOf_2 : tq_D cX12_greatestOf 2 (.iload_n 2) 1 3 := ⟨by decide +kernel, rfl⟩
theorem rX12_greatestOf_3 : tq_D cX12_greatestOf 3 (.bipush 10) 2 5 := ⟨by decide +kernel, rfl⟩
theorem rX12_greatestOf_5 : tq_J cX12_greatestOf 5 (.if_icmp .ge) 21 8 := ⟨16, by decide +kernel, by decide, rfl⟩
theorem rX12_greatestOf_8 : tq_D cX12_greatestOf 8 (.aload_n 0) 1 9 := ⟨by decide +kernel, rfl⟩
theorem rX12_greatestOf_9 : tq_D cX12_greatestOf 9 (.getfield 54) 3 12 := ⟨by decide +kernel, rfl⟩
theorem rX12_greatestOf_12 : tq_D cX12_greatestOf 12 (.iload_n 2) 1 13 := ⟨by decide +kernel, rfl⟩
theorem rX12_greatestOf_13 : tq_D cX12_greatestOf 13 (.iconst 0) 1 14 := ⟨by decide +kernel, rfl⟩
theorem rX12_greatestOf_14 : tq_D cX12_greatestOf 14 (.iastore) 1 15 := ⟨by decide +kernel, rfl⟩
theorem rX12_greatestOf_15 : tq_D cX12_greatestOf 15 (.iinc 2 1) 3 18 := ⟨by decide +kernel, rfl⟩
theorem rX12_greatestOf_18 : tq_J cX12_greatestOf 18 .goto 2 21 := ⟨(-16), by decide +kernel, by decide, rfl⟩
theorem rX12_greatestOf_21 : tq_D cX12_greatestOf 21 (.iconst 0) 1 22 := ⟨by decide +kernel, rfl⟩
theorem rX12_greatestOf_22 : tq_D cX12_greatestOf 22 (.istore_n 2) 1 23 := ⟨by decide +kernel, rfl⟩
theorem rX12_greatestOf_23 : tq_D cX12_greatestOf 23 (.iload_n 2) 1 24 := ⟨by decide +kernel, rfl⟩
theorem rX12_greatestOf_24 : tq_D cX12_greatestOf 24 (.sipush 432) 3 27 := ⟨by decide +kernel, rfl⟩
theorem rX12_greatestOf_27 : tq_J cX12_greatestOf 27 (.if_icmp .ge) 62 30 := ⟨35, by decide +kernel, by decide, rfl⟩
theorem rX12_greatestOf_30 : tq_D cX12_greatestOf 30 (.aload_n 0) 1 31 := ⟨by decide +kernel, rfl⟩
theorem rX12_greatestOf_31 : tq_D cX12_greatestOf 31 (.getfield 54) 3 34 := ⟨by decide +kernel, rfl⟩
theorem rX12_greatestOf_34 : tq_D cX12_greatestOf 34 (.iload_n 2) 1 35 := ⟨by decide +kernel, rfl⟩
theorem rX12_greatestOf_35 : tq_D cX12_greatestOf 35 (.iload_n 1) 1 36 := ⟨by decide +kernel, rfl⟩
theorem rX12_greatestOf_36 : tq_D cX12_greatestOf 36 (.invokestatic 387) 3 39 := ⟨by decide +kernel, rfl⟩
theorem rX12_greatestOf_39 : tq_D cX12_greatestOf 39 (.dup2) 1 40 := ⟨by decide +kernel, rfl⟩
theorem rX12_greatestOf_40 : tq_D cX12_greatestOf 40 (.iaload) 1 41 := ⟨by decide +kernel, rfl⟩
theorem rX12_greatestOf_41 : tq_D cX12_greatestOf 41 (.aload_n 0) 1 42 := ⟨by decide +kernel, rfl⟩
theorem rX12_greatestOf_42 : tq_D cX12_greatestOf 42 (.iload_n 2) 1 43 := ⟨by decide +kernel, rfl⟩
theorem rX12_greatestOf_43 : tq_D cX12_greatestOf 43 (.invokevirtual 390) 3 46 := ⟨by decide +kernel, rfl⟩
theorem rX12_greatestOf_46 : tq_J cX12_greatestOf 46 (.ifCond .eq) 53 49 := ⟨7, by decide +kernel, by decide, rfl⟩
theorem rX12_greatestOf_49 : tq_D cX12_greatestOf 49 (.iconst 1) 1 50 := ⟨by decide +kernel, rfl⟩
theorem rX12_greatestOf_50 : tq_J cX12_greatestOf 50 .goto 54 53 := ⟨4, by decide +kernel, by decide, rfl⟩
theorem rX12_greatestOf_53 : tq_D cX12_greatestOf 53 (.iconst 0) 1 54 := ⟨by decide +kernel, rfl⟩
theorem rX12_greatestOf_54 : tq_D cX12_greatestOf 54 (.iadd) 1 55 := ⟨by decide +kernel, rfl⟩
theorem rX12_greatestOf_55 : tq_D cX12_greatestOf 55 (.iastore) 1 56 := ⟨by decide +kernel, rfl⟩
theorem rX12_greatestOf_56 : tq_D cX12_greatestOf 56 (.iinc 2 1) 3 59 := ⟨by decide +kernel, rfl⟩
theorem rX12_greatestOf_59 : tq_J cX12_greatestOf 59 .goto 23 62 := ⟨(-36), by decide +kernel, by decide, rfl⟩
theorem rX12_greatestOf_62 : tq_D cX12_greatestOf 62 (.iconst 0) 1 63 := ⟨by decide +kernel, rfl⟩
theorem rX12_greatestOf_63 : tq_D cX12_greatestOf 63 (.istore_n 2) 1 64 := ⟨by decide +kernel, rfl⟩
theorem rX12_greatestOf_64 : tq_D cX12_greatestOf 64 (.iconst 0) 1 65 := ⟨by decide +kernel, rfl⟩
theorem rX12_greatestOf_65 : tq_D cX12_greatestOf 65 (.istore_n 3) 1 66 := ⟨by decide +kernel, rfl⟩
theorem rX12_greatestOf_66 : tq_D cX12_greatestOf 66 (.iload_n 3) 1 67 := ⟨by decide +kernel, rfl⟩
theorem rX12_greatestOf_67 : tq_D cX12_greatestOf 67 (.bipush 10) 2 69 := ⟨by decide +kernel, rfl⟩
theorem rX12_greatestOf_69 : tq_J cX12_greatestOf 69 (.if_icmp .ge) 99 72 := ⟨30, by decide +kernel, by decide, rfl⟩
theorem rX12_greatestOf_72 : tq_D cX12_greatestOf 72 (.aload_n 0) 1 73 := ⟨by decide +kernel, rfl⟩
theorem rX12_greatestOf_73 : tq_D cX12_greatestOf 73 (.getfield 54) 3 76 := ⟨by decide +kernel, rfl⟩
theorem rX12_greatestOf_76 : tq_D cX12_greatestOf 76 (.iload_n 3) 1 77 := ⟨by decide +kernel, rfl⟩
theorem rX12_greatestOf_77 : tq_D cX12_greatestOf 77 (.iaload) 1 78 := ⟨by decide +kernel, rfl⟩
theorem rX12_greatestOf_78 : tq_D cX12_greatestOf 78 (.iload_n 2) 1 79 := ⟨by decide +kernel, rfl⟩
theorem rX12_greatestOf_79 : tq_J cX12_greatestOf 79 (.if_icmp .le) 91 82 := ⟨12, by decide +kernel, by decide, rfl⟩
theorem rX12_greatestOf_82 : tq_D cX12_greatestOf 82 (.aload_n 0) 1 83 := ⟨by decide +kernel, rfl⟩
theorem rX12_greatestOf_83 : tq_D cX12_greatestOf 83 (.getfield 54) 3 86 := ⟨by decide +kernel, rfl⟩
theorem rX12_greatestOf_86 : tq_D cX12_greatestOf 86 (.iload_n 3) 1 87 := ⟨by decide +kernel, rfl⟩
theorem rX12_greatestOf_87 : tq_D cX12_greatestOf 87 (.iaload) 1 88 := ⟨by decide +kernel, rfl⟩
theorem rX12_greatestOf_88 : tq_J cX12_greatestOf 88 .goto 92 91 := ⟨4, by decide +kernel, by decide, rfl⟩
theorem rX12_greatestOf_91 : tq_D cX12_greatestOf 91 (.iload_n 2) 1 92 := ⟨by decide +kernel, rfl⟩
theorem rX12_greatestOf_92 : tq_D cX12_greatestOf 92 (.istore_n 2) 1 93 := ⟨by decide +kernel, rfl⟩
theorem rX12_greatestOf_93 : tq_D cX12_greatestOf 93 (.iinc 3 1) 3 96 := ⟨by decide +kernel, rfl⟩
theorem rX12_greatestOf_96 : tq_J cX12_greatestOf 96 .goto 66 99 := ⟨(-30), by decide +kernel, by decide, rfl⟩
theorem rX12_greatestOf_99 : tq_D cX12_greatestOf 99 (.iload_n 2) 1 100 := ⟨by decide +kernel, rfl⟩
theorem rX12_greatestOf_100 : decode cX12_greatestOf 100 = .ok (.ireturn, 1) := by decide +kernel
noncomputable def FX12_greatestOf_s2 (I : tq_PI) (L : tq_PL) (a0 : Nat) (a1 : Int32) (a2 : Int32) : Option ((Int32 × tq_PI) ⊕ (tq_PI)) :=
  (if (10 : Int32) ≤ a2 then some (.inr I) else (if 0 ≤ a2 ∧ a2 < 10 then some (.inl ((a2 + 1), (tq_up2 I (tq_rg a0 34) a2.toNatClampNeg (0 : Int32)))) else none))
noncomputable def FX12_greatestOf_j54L23 (I : tq_PI) (L : tq_PL) (a0 : Nat) (a1 : Int32) (a2 : Int32) (b0 : Int32) (b1 : Int32) (b2 : Int32) (b3 : Nat) : Option ((Int32 × tq_PI) ⊕ (tq_PI)) :=
  (if 0 ≤ b2 ∧ b2 < 10 then some (.inl ((a2 + 1), (tq_up2 I b3 b2.toNatClampNeg (b1 + b0)))) else none)
noncomputable def FX12_greatestOf_s23 (I : tq_PI) (L : tq_PL) (a0 : Nat) (a1 : Int32) (a2 : Int32) : Option ((Int32 × tq_PI) ⊕ (tq_PI)) :=
  (if (432 : Int32) ≤ a2 then some (.inr I) else ((FX12_hears I L a2 a1).bind fun p5 => (if 0 ≤ p5 ∧ p5 < 10 then ((FX12_isSo I L a0 a2).bind fun p7 => (if (tq_b p7) = 0 then (FX12_greatestOf_j54L23 I L a0 a1 a2 ((0 : Int32)) ((I (tq_rg a0 34) p5.toNatClampNeg)) p5 ((tq_rg a0 34))) else (FX12_greatestOf_j54L23 I L a0 a1 a2 ((1 : Int32)) ((I (tq_rg a0 34) p5.toNatClampNeg)) p5 ((tq_rg a0 34))))) else none)))
noncomputable def FX12_greatestOf_j92L66 (I : tq_PI) (L : tq_PL) (a0 : Nat) (a3 : Int32) (b0 : Int32) : Option ((Int32 × Int32) ⊕ (Int32)) :=
  some (.inl (b0, (a3 + 1)))
noncomputable def FX12_greatestOf_s66 (I : tq_PI) (L : tq_PL) (a0 : Nat) (a2 : Int32) (a3 : Int32) : Option ((Int32 × Int32) ⊕ (Int32)) :=
  (if (10 : Int32) ≤ a3 then some (.inr a2) else (if 0 ≤ a3 ∧ a3 < 10 then (if (I (tq_rg a0 34) a3.toNatClampNeg) ≤ a2 then (FX12_greatestOf_j92L66 I L a0 a3 a2) else (if 0 ≤ a3 ∧ a3 < 10 then (FX12_greatestOf_j92L66 I L a0 a3 ((I (tq_rg a0 34) a3.toNatClampNeg))) else none)) else none))
noncomputable def FX12_greatestOf (I : tq_PI) (L : tq_PL) (a0 : Nat) (a1 : Int32) : Option (Int32 × tq_PI) :=
  ((tq_it (fun p : Int32 × tq_PI => FX12_greatestOf_s2 p.2 L a0 a1 p.1) tq_N ((0 : Int32), I)).bind fun p3 => ((tq_it (fun p : Int32 × tq_PI => FX12_greatestOf_s23 p.2 L a0 a1 p.1) tq_N ((0 : Int32), p3)).bind fun p10 => ((tq_it (fun p : Int32 × Int32 => FX12_greatestOf_s66 p10 L a0 p.1 p.2) tq_N ((0 : Int32), (0 : Int32))).bind fun p15 => some (p15, p10))))
set_option maxRecDepth 100000 in
set_option maxHeartbeats 4000000 in
theorem FX12_greatestOf_s2_x {S : Nat × (Nat → Int32)} {d : Nat} {I : tq_PI} {L : tq_PL} {a0 : Nat} {a1 : Int32} {a2 : Int32} (h0 : tq_sh0 a0 = 12) {q0 : Option Value → tq_PI → tq_PL → Prop} {out : (Int32 × tq_PI) ⊕ (tq_PI)} (hf : FX12_greatestOf_s2 I L a0 a1 a2 = some out) (hk : Sum.elim (fun p : Int32 × tq_PI => tq_X S mX12_greatestOf (d + 3) tq_k0 2 ([.ref a0, .int a1, .int p.1, tq_u]) [] (tq_st p.2 L) (tq_Q q0)) (fun p : tq_PI => tq_X S mX12_greatestOf (d + 3) tq_k0 21 ([.ref a0, .int a1, tq_u, tq_u]) [] (tq_st p L) (tq_Q q0)) out) : tq_X S mX12_greatestOf (d + 3) tq_k0 2 ([.ref a0, .int a1, .int a2, tq_u]) [] (tq_st I L) (tq_Q q0) := by
  unfold FX12_greatestOf_s2 at hf
  refine tq_iload_n rX12_greatestOf_2 rfl ?_
  refine tq_bipush (10 : Int32) rX12_greatestOf_3 (by decide) ?_
  refine tq_icmp_ge rX12_greatestOf_5 (fun c1 => ?_) (fun c1 => ?_)
  · rw [if_pos c1] at hf
    have hf := Option.some.inj hf
    subst hf
    exact tq_forget _ (tq_le_s (tq_le_s (tq_le_u (tq_le_u tq_le_n)))) hk
  · rw [if_neg c1] at hf
    refine tq_aload_n rX12_greatestOf_8 rfl ?_
    refine ty_getR rX12_greatestOf_9 f_X12_54 rfl h0 (hp_12_34 h0).1 ?_
    refine tq_iload_n rX12_greatestOf_12 rfl ?_
    refine tq_iconst (0 : Int32) rX12_greatestOf_13 (by decide) ?_
    obtain ⟨g2, hf⟩ := tq_chk hf
    refine ty_iast (v := 10) rX12_greatestOf_14 (hp_12_34 h0).2.1 (hp_12_34 h0).2.2 rfl (by decide) g2 ?_
    refine tq_iinc (a2 + 1) ([.ref a0, .int a1, .int (a2 + 1), tq_u]) rX12_greatestOf_15 rfl (tq_inc (by decide)) (Nat.le_of_ble_eq_true rfl) rfl ?_
    refine tq_goto rX12_greatestOf_18 ?_
    have hf := Option.some.inj hf
    subst hf
    exact tq_forget _ (tq_le_s (tq_le_s (tq_le_s (tq_le_u tq_le_n)))) hk

set_option maxRecDepth 100000 in
set_option maxHeartbeats 4000000 in
theorem FX12_greatestOf_j54L23_x {S : Nat × (Nat → Int32)} {d : Nat} {I : tq_PI} {L : tq_PL} {a0 : Nat} {a1 : Int32} {a2 : Int32} {b0 : Int32} {b1 : Int32} {b2 : Int32} {b3 : Nat} (h0 : tq_sh0 a0 = 12) (k3 : tq_sh0 b3 = 100) (k3n : tq_ln0 b3 = 10) {q0 : Option Value → tq_PI → tq_PL → Prop} {out : (Int32 × tq_PI) ⊕ (tq_PI)} (hf : FX12_greatestOf_j54L23 I L a0 a1 a2 b0 b1 b2 b3 = some out) (hk : Sum.elim (fun p : Int32 × tq_PI => tq_X S mX12_greatestOf (d + 3) tq_k0 23 ([.ref a0, .int a1, .int p.1, tq_u]) [] (tq_st p.2 L) (tq_Q q0)) (fun p : tq_PI => tq_X S mX12_greatestOf (d + 3) tq_k0 62 ([.ref a0, tq_u, tq_u, tq_u]) [] (tq_st p L) (tq_Q q0)) out) : tq_X S mX12_greatestOf (d + 3) tq_k0 54 ([.ref a0, .int a1, .int a2, tq_u]) ([.int b0, .int b1, .int b2, .ref b3]) (tq_st I L) (tq_Q q0) := by
  unfold FX12_greatestOf_j54L23 at hf
  refine tq_iadd rX12_greatestOf_54 ?_
  obtain ⟨g9, hf⟩ := tq_chk hf
  refine ty_iast (v := 10) rX12_greatestOf_55 k3 k3n rfl (by decide) g9 ?_
  refine tq_iinc (a2 + 1) ([.ref a0, .int a1, .int (a2 + 1), tq_u]) rX12_greatestOf_56 rfl (tq_inc (by decide)) (Nat.le_of_ble_eq_true rfl) rfl ?_
  refine tq_goto rX12_greatestOf_59 ?_
  have hf := Option.some.inj hf
  subst hf
  exact tq_forget _ (tq_le_s (tq_le_s (tq_le_s (tq_le_u tq_le_n)))) hk

set_option maxRecDepth 100000 in
set_option maxHeartbeats 4000000 in
theorem FX12_greatestOf_s23_x {S : Nat × (Nat → Int32)} {d : Nat} {I : tq_PI} {L : tq_PL} {a0 : Nat} {a1 : Int32} {a2 : Int32} (h0 : tq_sh0 a0 = 12) {q0 : Option Value → tq_PI → tq_PL → Prop} {out : (Int32 × tq_PI) ⊕ (tq_PI)} (hf : FX12_greatestOf_s23 I L a0 a1 a2 = some out) (hk : Sum.elim (fun p : Int32 × tq_PI => tq_X S mX12_greatestOf (d + 3) tq_k0 23 ([.ref a0, .int a1, .int p.1, tq_u]) [] (tq_st p.2 L) (tq_Q q0)) (fun p : tq_PI => tq_X S mX12_greatestOf (d + 3) tq_k0 62 ([.ref a0, tq_u, tq_u, tq_u]) [] (tq_st p L) (tq_Q q0)) out) : tq_X S mX12_greatestOf (d + 3) tq_k0 23 ([.ref a0, .int a1, .int a2, tq_u]) [] (tq_st I L) (tq_Q q0) := by
  unfold FX12_greatestOf_s23 at hf
  refine tq_iload_n rX12_greatestOf_23 rfl ?_
  refine tq_sipush (432 : Int32) rX12_greatestOf_24 (by decide) ?_
  refine tq_icmp_ge rX12_greatestOf_27 (fun c4 => ?_) (fun c4 => ?_)
  · rw [if_pos c4] at hf
    have hf := Option.some.inj hf
    subst hf
    exact tq_forget _ (tq_le_s (tq_le_u (tq_le_u (tq_le_u tq_le_n)))) hk
  · rw [if_neg c4] at hf
    refine tq_aload_n rX12_greatestOf_30 rfl ?_
    refine ty_getR rX12_greatestOf_31 f_X12_54 rfl h0 (hp_12_34 h0).1 ?_
    refine tq_iload_n rX12_greatestOf_34 rfl ?_
    refine tq_iload_n rX12_greatestOf_35 rfl ?_
    obtain ⟨p5, e5, hf⟩ := Option.bind_eq_some_iff.mp hf
    refine ty_callSI p5 ([.int a2, .int a1]) ([.ref (tq_rg a0 34)]) rX12_greatestOf_36 l_X12_387 moX12_hears msX12_hears rfl rfl (Nat.le_of_ble_eq_true rfl) ⟨rfl, rfl⟩ (CX12_hears  e5) ?_
    refine tq_dup2 rX12_greatestOf_39 rfl rfl ?_
    obtain ⟨g6, hf⟩ := tq_chk hf
    refine ty_iald (v := 10) rX12_greatestOf_40 (hp_12_34 h0).2.1 (hp_12_34 h0).2.2 rfl (by decide) g6 ?_
    refine tq_aload_n rX12_greatestOf_41 rfl ?_
    refine tq_iload_n rX12_greatestOf_42 rfl ?_
    obtain ⟨p7, e7, hf⟩ := Option.bind_eq_some_iff.mp hf
    refine ty_callVI (tq_b p7) ([.int a2]) ([.int (I (tq_rg a0 34) p5.toNatClampNeg), .int p5, .ref (tq_rg a0 34)]) rX12_greatestOf_43 l_X12_390 moX12_isSo mvX12_isSo h0 rfl rfl (Nat.le_of_ble_eq_true rfl) ⟨rfl, rfl⟩ (CX12_isSo h0 e7) ?_
    refine tq_if_eq rX12_greatestOf_46 (fun c8 => ?_) (fun c8 => ?_)
    · rw [if_pos c8] at hf
      refine tq_iconst (0 : Int32) rX12_greatestOf_53 (by decide) ?_
      exact tq_forget _ (tq_le_s (tq_le_s (tq_le_s (tq_le_u tq_le_n)))) (FX12_greatestOf_j54L23_x  h0 (hp_12_34 h0).2.1 (hp_12_34 h0).2.2 hf hk)
    · rw [if_neg c8] at hf
      refine tq_iconst (1 : Int32) rX12_greatestOf_49 (by decide) ?_
      refine tq_goto rX12_greatestOf_50 ?_
      exact tq_forget _ (tq_le_s (tq_le_s (tq_le_s (tq_le_u tq_le_n)))) (FX12_greatestOf_j54L23_x  h0 (hp_12_34 h0).2.1 (hp_12_34 h0).2.2 hf hk)

set_option maxRecDepth 100000 in
set_option maxHeartbeats 4000000 in
theorem FX12_greatestOf_j92L66_x {S : Nat × (Nat → Int32)} {d : Nat} {I : tq_PI} {L : tq_PL} {a0 : Nat} {a3 : Int32} {b0 : Int32} (h0 : tq_sh0 a0 = 12) {q0 : Option Value → tq_PI → tq_PL → Prop} {out : (Int32 × Int32) ⊕ (Int32)} (hf : FX12_greatestOf_j92L66 I L a0 a3 b0 = some out) (hk : Sum.elim (fun p : Int32 × Int32 => tq_X S mX12_greatestOf (d + 3) tq_k0 66 ([.ref a0, tq_u, .int p.1, .int p.2]) [] (tq_st I L) (tq_Q q0)) (fun p : Int32 => tq_X S mX12_greatestOf (d + 3) tq_k0 99 ([tq_u, tq_u, .int p, tq_u]) [] (tq_st I L) (tq_Q q0)) out) : tq_X S mX12_greatestOf (d + 3) tq_k0 92 ([.ref a0, tq_u, tq_u, .int a3]) ([.int b0]) (tq_st I L) (tq_Q q0) := by
  unfold FX12_greatestOf_j92L66 at hf
  refine tq_istore_n ([.ref a0, tq_u, .int b0, .int a3]) rX12_greatestOf_92 (Nat.le_of_ble_eq_true rfl) rfl ?_
  refine tq_iinc (a3 + 1) ([.ref a0, tq_u, .int b0, .int (a3 + 1)]) rX12_greatestOf_93 rfl (tq_inc (by decide)) (Nat.le_of_ble_eq_true rfl) rfl ?_
  refine tq_goto rX12_greatestOf_96 ?_
  have hf := Option.some.inj hf
  subst hf
  exact tq_forget _ (tq_le_s (tq_le_u (tq_le_s (tq_le_s tq_le_n)))) hk

set_option maxRecDepth 100000 in
set_option maxHeartbeats 4000000 in
theorem FX12_greatestOf_s66_x {S : Nat × (Nat → Int32)} {d : Nat} {I : tq_PI} {L : tq_PL} {a0 : Nat} {a2 : Int32} {a3 : Int32} (h0 : tq_sh0 a0 = 12) {q0 : Option Value → tq_PI → tq_PL → Prop} {out : (Int32 × Int32) ⊕ (Int32)} (hf : FX12_greatestOf_s66 I L a0 a2 a3 = some out) (hk : Sum.elim (fun p : Int32 × Int32 => tq_X S mX12_greatestOf (d + 3) tq_k0 66 ([.ref a0, tq_u, .int p.1, .int p.2]) [] (tq_st I L) (tq_Q q0)) (fun p : Int32 => tq_X S mX12_greatestOf (d + 3) tq_k0 99 ([tq_u, tq_u, .int p, tq_u]) [] (tq_st I L) (tq_Q q0)) out) : tq_X S mX12_greatestOf (d + 3) tq_k0 66 ([.ref a0, tq_u, .int a2, .int a3]) [] (tq_st I L) (tq_Q q0) := by
  unfold FX12_greatestOf_s66 at hf
  refine tq_iload_n rX12_greatestOf_66 rfl ?_
  refine tq_bipush (10 : Int32) rX12_greatestOf_67 (by decide) ?_
  refine tq_icmp_ge rX12_greatestOf_69 (fun c11 => ?_) (fun c11 => ?_)
  · rw [if_pos c11] at hf
    have hf := Option.some.inj hf
    subst hf
    exact tq_forget _ (tq_le_u (tq_le_u (tq_le_s (tq_le_u tq_le_n)))) hk
  · rw [if_neg c11] at hf
    refine tq_aload_n rX12_greatestOf_72 rfl ?_
    refine ty_getR rX12_greatestOf_73 f_X12_54 rfl h0 (hp_12_34 h0).1 ?_
    refine tq_iload_n rX12_greatestOf_76 rfl ?_
    obtain ⟨g12, hf⟩ := tq_chk hf
    refine ty_iald (v := 10) rX12_greatestOf_77 (hp_12_34 h0).2.1 (hp_12_34 h0).2.2 rfl (by decide) g12 ?_
    refine tq_iload_n rX12_greatestOf_78 rfl ?_
    refine tq_icmp_le rX12_greatestOf_79 (fun c13 => ?_) (fun c13 => ?_)
    · rw [if_pos c13] at hf
      refine tq_iload_n rX12_greatestOf_91 rfl ?_
      exact tq_forget _ (tq_le_s (tq_le_u (tq_le_u (tq_le_s tq_le_n)))) (FX12_greatestOf_j92L66_x  h0 hf hk)
    · rw [if_neg c13] at hf
      refine tq_aload_n rX12_greatestOf_82 rfl ?_
      refine ty_getR rX12_greatestOf_83 f_X12_54 rfl h0 (hp_12_34 h0).1 ?_
      refine tq_iload_n rX12_greatestOf_86 rfl ?_
      obtain ⟨g14, hf⟩ := tq_chk hf
      refine ty_iald (v := 10) rX12_greatestOf_87 (hp_12_34 h0).2.1 (hp_12_34 h0).2.2 rfl (by decide) g14 ?_
      refine tq_goto rX12_greatestOf_88 ?_
      exact tq_forget _ (tq_le_s (tq_le_u (tq_le_u (tq_le_s tq_le_n)))) (FX12_greatestOf_j92L66_x  h0 hf hk)

set_option maxRecDepth 100000 in
set_option maxHeartbeats 4000000 in
theorem CX12_greatestOf {S : Nat × (Nat → Int32)} {d : Nat} {I : tq_PI} {L : tq_PL} {a0 : Nat} {a1 : Int32} (h0 : tq_sh0 a0 = 12) {out : Int32 × tq_PI} (hf : FX12_greatestOf I L a0 a1 = some out) : tq_K S mX12_greatestOf (d + 3) [.ref a0, .int a1] I L (tq_one2 (some (.int out.1)) out.2 L) := by
  unfold FX12_greatestOf at hf
  refine tq_K_of (by decide) (Nat.le_of_ble_eq_true rfl) (ls := [.ref a0, .int a1, tq_u, tq_u]) rfl ?_
  refine tq_iconst (0 : Int32) rX12_greatestOf_0 (by decide) ?_
  refine tq_istore_n ([.ref a0, .int a1, .int (0 : Int32), tq_u]) rX12_greatestOf_1 (Nat.le_of_ble_eq_true rfl) rfl ?_
  obtain ⟨p3, e3, hf⟩ := Option.bind_eq_some_iff.mp hf
  refine tq_forget _ (tq_le_s (tq_le_s (tq_le_s (tq_le_u tq_le_n)))) ?_
  refine tq_it_elim (P := fun p : Int32 × tq_PI => tq_X S mX12_greatestOf (d + 3) tq_k0 2 ([.ref a0, .int a1, .int p.1, tq_u]) [] (tq_st p.2 L) (tq_Q (tq_one2 (some (.int out.1)) out.2 L))) (R := fun p : tq_PI => tq_X S mX12_greatestOf (d + 3) tq_k0 21 ([.ref a0, .int a1, tq_u, tq_u]) [] (tq_st p L) (tq_Q (tq_one2 (some (.int out.1)) out.2 L))) (fun p o hp hk => FX12_greatestOf_s2_x  h0 hp hk) _ (((0 : Int32), I)) _ e3 ?_
  show tq_X _ _ _ _ _ _ _ _ _
  refine tq_iconst (0 : Int32) rX12_greatestOf_21 (by decide) ?_
  refine tq_istore_n ([.ref a0, .int a1, .int (0 : Int32), tq_u]) rX12_greatestOf_22 (Nat.le_of_ble_eq_true rfl) rfl ?_
  obtain ⟨p10, e10, hf⟩ := Option.bind_eq_some_iff.mp hf
  refine tq_forget _ (tq_le_s (tq_le_s (tq_le_s (tq_le_u tq_le_n)))) ?_
  refine tq_it_elim (P := fun p : Int32 × tq_PI => tq_X S mX12_greatestOf (d + 3) tq_k0 23 ([.ref a0, .int a1, .int p.1, tq_u]) [] (tq_st p.2 L) (tq_Q (tq_one2 (some (.int out.1)) out.2 L))) (R := fun p : tq_PI => tq_X S mX12_greatestOf (d + 3) tq_k0 62 ([.ref a0, tq_u, tq_u, tq_u]) [] (tq_st p L) (tq_Q (tq_one2 (some (.int out.1)) out.2 L))) (fun p o hp hk => FX12_greatestOf_s23_x  h0 hp hk) _ (((0 : Int32), p3)) _ e10 ?_
  show tq_X _ _ _ _ _ _ _ _ _
  refine tq_iconst (0 : Int32) rX12_greatestOf_62 (by decide) ?_
  refine tq_istore_n ([.ref a0, tq_u, .int (0 : Int32), tq_u]) rX12_greatestOf_63 (Nat.le_of_ble_eq_true rfl) rfl ?_
  refine tq_iconst (0 : Int32) rX12_greatestOf_64 (by decide) ?_
  refine tq_istore_n ([.ref a0, tq_u, .int (0 : Int32), .int (0 : Int32)]) rX12_greatestOf_65 (Nat.le_of_ble_eq_true rfl) rfl ?_
  obtain ⟨p15, e15, hf⟩ := Option.bind_eq_some_iff.mp hf
  refine tq_forget _ (tq_le_s (tq_le_u (tq_le_s (tq_le_s tq_le_n)))) ?_
  refine tq_it_elim (P := fun p : Int32 × Int32 => tq_X S mX12_greatestOf (d + 3) tq_k0 66 ([.ref a0, tq_u, .int p.1, .int p.2]) [] (tq_st p10 L) (tq_Q (tq_one2 (some (.int out.1)) out.2 L))) (R := fun p : Int32 => tq_X S mX12_greatestOf (d + 3) tq_k0 99 ([tq_u, tq_u, .int p, tq_u]) [] (tq_st p10 L) (tq_Q (tq_one2 (some (.int out.1)) out.2 L))) (fun p o hp hk => FX12_greatestOf_s66_x  h0 hp hk) _ (((0 : Int32), (0 : Int32))) _ e15 ?_
  show tq_X _ _ _ _ _ _ _ _ _
  refine tq_iload_n rX12_greatestOf_99 rfl ?_
  refine ty_iret rX12_greatestOf_100 rfl rfl ?_
  have hf := Option.some.inj hf
  subst hf
  exact ⟨rfl, rfl, rfl⟩

abbrev mX12_askOf : tq_M := (yX12_askOf, cX12_askOf, 5, (Option.some Jvm.ClassFile.FieldType.int), 0, 0)
theorem moX12_greatestOf : tq_mok mX12_greatestOf 1 := ⟨tq_sg1 _ (List.mem_of_getElem? (i := 13) rfl), tq_sg8 _ (List.mem_of_getElem? (i := 145) rfl), ⟨by decide, by decide, by decide +kernel⟩, by decide⟩
theorem mvX12_greatestOf : 12 < 13 ∧ (tq_cl 12).1 = mX12_greatestOf.1.cls ∧ Cond.instanceMethod mX12_greatestOf.1 ∈ lw_tbl ∧ Cond.selects mX12_greatestOf.1.cls mX12_greatestOf.1 mX12_greatestOf.1 ∈ lw_tbl := ⟨by decide, rfl, tq_sg8 _ (List.mem_of_getElem? (i := 144) rfl), List.mem_append_left _ (List.mem_map.mpr ⟨_, List.mem_of_getElem? (i := 107) rfl, rfl⟩)⟩
theorem l_X12_393 : tq_lok RX12 393 mX12_greatestOf.1 := Or.inl (tq_sg8 _ (List.mem_of_getElem? (i := 142) rfl))
theorem rX12_askOf_0 : tq_D cX12_askOf 0 (.iconst (-1)) 1 1 := ⟨by decide +kernel, rfl⟩
theorem rX12_askOf_1 : tq_D cX12_askOf 1 (.istore_n 1) 1 2 := ⟨by decide +kernel, rfl⟩
theorem rX12_askOf_2 : tq_D cX12_askOf 2 (.sipush 999) 3 5 := ⟨by decide +kernel, rfl⟩
theorem rX12_askOf_5 : tq_D cX12_askOf 5 (.istore_n 2) 1 6 := ⟨by decide +kernel, rfl⟩
theorem rX12_askOf_6 : tq_D cX12_askOf 6 (.iconst 0) 1 7 := ⟨by decide +kernel, rfl⟩
theorem rX12_askOf_7 : tq_D cX12_askOf 7 (.istore_n 3) 1 8 := ⟨by decide +kernel, rfl⟩
theorem rX12_askOf_8 : tq_D cX12_askOf 8 (.iload_n 3) 1 9 := ⟨by decide +kernel, rfl⟩
theorem rX12_askOf_9 : tq_D cX12_askOf 9 (.bipush 48) 2 11 := ⟨by decide +kernel, rfl⟩
theorem rX12_askOf_11 : tq_J cX12_askOf 11 (.if_icmp .ge) 41 14 := ⟨30, by decide +kernel, by decide, rfl⟩
theorem rX12_askOf_14 : tq_D cX12_askOf 14 (.aload_n 0) 1 15 := ⟨by decide +kernel, rfl⟩
theorem rX12_askOf_15 : tq_D cX12_askOf 15 (.iload_n 3) 1 16 := ⟨by decide +kernel, rfl⟩
theorem rX12_askOf_16 : tq_D cX12_askOf 16 (.invokevirtual 393) 3 19 := ⟨by decide +kernel, rfl⟩
theorem rX12_askOf_19 : tq_D cX12_askOf 19 (.istore 4) 2 21 := ⟨by decide +kernel, rfl⟩
theorem rX12_askOf_21 : tq_D cX12_askOf 21 (.iload 4) 2 23 := ⟨by decide +kernel, rfl⟩
theorem rX12_askOf_23 : tq_D cX12_askOf 23 (.iload_n 2) 1 24 := ⟨by decide +kernel, rfl⟩
theorem rX12_askOf_24 : tq_J cX12_askOf 24 (.if_icmp .lt) 30 27 := ⟨6, by decide +kernel, by decide, rfl⟩
theorem rX12_askOf_27 : tq_J cX12_askOf 27 .goto 35 30 := ⟨8, by decide +kernel, by decide, rfl⟩
theorem rX12_askOf_30 : tq_D cX12_askOf 30 (.iload_n 3) 1 31 := ⟨by decide +kernel, rfl⟩
theorem rX12_askOf_31 : tq_D cX12_askOf 31 (.istore_n 1) 1 32 := ⟨by decide +kernel, rfl⟩
theorem rX12_askOf_32 : tq_D cX12_askOf 32 (.iload 4) 2 34 := ⟨by decide +kernel, rfl⟩
theorem rX12_askOf_34 : tq_D cX12_askOf 34 (.istore_n 2) 1 35 := ⟨by decide +kernel, rfl⟩
theorem rX12_askOf_35 : tq_D cX12_askOf 35 (.iinc 3 1) 3 38 := ⟨by decide +kernel, rfl⟩
theorem rX12_askOf_38 : tq_J cX12_askOf 38 .goto 8 41 := ⟨(-30), by decide +kernel, by decide, rfl⟩
theorem rX12_askOf_41 : tq_D cX12_askOf 41 (.iload_n 1) 1 42 := ⟨by decide +kernel, rfl⟩
theorem rX12_askOf_42 : decode cX12_askOf 42 = .ok (.ireturn, 1) := by decide +kernel
noncomputable def FX12_askOf_j35L8 (I : tq_PI) (L : tq_PL) (a0 : Nat) (a1 : Int32) (a2 : Int32) (a3 : Int32) : Option ((Int32 × Int32 × Int32 × tq_PI) ⊕ (Int32 × tq_PI)) :=
  some (.inl (a1, a2, (a3 + 1), I))
noncomputable def FX12_askOf_s8 (I : tq_PI) (L : tq_PL) (a0 : Nat) (a1 : Int32) (a2 : Int32) (a3 : Int32) : Option ((Int32 × Int32 × Int32 × tq_PI) ⊕ (Int32 × tq_PI)) :=
  (if (48 : Int32) ≤ a3 then some (.inr (a1, I)) else ((FX12_greatestOf I L a0 a3).bind fun p2 => (if p2.1 < a2 then (FX12_askOf_j35L8 p2.2 L a0 a3 p2.1 a3) else (FX12_askOf_j35L8 p2.2 L a0 a1 a2 a3))))
noncomputable def FX12_askOf (I : tq_PI) (L : tq_PL) (a0 : Nat) : Option (Int32 × tq_PI) :=
  ((tq_it (fun p : Int32 × Int32 × Int32 × tq_PI => FX12_askOf_s8 p.2.2.2 L a0 p.1 p.2.1 p.2.2.1) tq_N ((-1 : Int32), (999 : Int32), (0 : Int32), I)).bind fun p4 => some (p4.1, p4.2))
set_option maxRecDepth 100000 in
set_option maxHeartbeats 4000000 in
theorem FX12_askOf_j35L8_x {S : Nat × (Nat → Int32)} {d : Nat} {I : tq_PI} {L : tq_PL} {a0 : Nat} {a1 : Int32} {a2 : Int32} {a3 : Int32} (h0 : tq_sh0 a0 = 12) {q0 : Option Value → tq_PI → tq_PL → Prop} {out : (Int32 × Int32 × Int32 × tq_PI) ⊕ (Int32 × tq_PI)} (hf : FX12_askOf_j35L8 I L a0 a1 a2 a3 = some out) (hk : Sum.elim (fun p : Int32 × Int32 × Int32 × tq_PI => tq_X S mX12_askOf (d + 4) tq_k0 8 ([.ref a0, .int p.1, .int p.2.1, .int p.2.2.1, tq_u]) [] (tq_st p.2.2.2 L) (tq_Q q0)) (fun p : Int32 × tq_PI => tq_X S mX12_askOf (d + 4) tq_k0 41 ([tq_u, .int p.1, tq_u, tq_u, tq_u]) [] (tq_st p.2 L) (tq_Q q0)) out) : tq_X S mX12_askOf (d + 4) tq_k0 35 ([.ref a0, .int a1, .int a2, .int a3, tq_u]) ([]) (tq_st I L) (tq_Q q0) := by
  unfold FX12_askOf_j35L8 at hf
  refine tq_iinc (a3 + 1) ([.ref a0, .int a1, .int a2, .int (a3 + 1), tq_u]) rX12_askOf_35 rfl (tq_inc (by decide)) (Nat.le_of_ble_eq_true rfl) rfl ?_
  refine tq_goto rX12_askOf_38 ?_
  have hf := Option.some.inj hf
  subst hf
  exact tq_forget _ (tq_le_s (tq_le_s (tq_le_s (tq_le_s (tq_le_u tq_le_n))))) hk

set_option maxRecDepth 100000 in
set_option maxHeartbeats 4000000 in
theorem FX12_askOf_s8_x {S : Nat × (Nat → Int32)} {d : Nat} {I : tq_PI} {L : tq_PL} {a0 : Nat} {a1 : Int32} {a2 : Int32} {a3 : Int32} (h0 : tq_sh0 a0 = 12) {q0 : Option Value → tq_PI → tq_PL → Prop} {out : (Int32 × Int32 × Int32 × tq_PI) ⊕ (Int32 × tq_PI)} (hf : FX12_askOf_s8 I L a0 a1 a2 a3 = some out) (hk : Sum.elim (fun p : Int32 × Int32 × Int32 × tq_PI => tq_X S mX12_askOf (d + 4) tq_k0 8 ([.ref a0, .int p.1, .int p.2.1, .int p.2.2.1, tq_u]) [] (tq_st p.2.2.2 L) (tq_Q q0)) (fun p : Int32 × tq_PI => tq_X S mX12_askOf (d + 4) tq_k0 41 ([tq_u, .int p.1, tq_u, tq_u, tq_u]) [] (tq_st p.2 L) (tq_Q q0)) out) : tq_X S mX12_askOf (d + 4) tq_k0 8 ([.ref a0, .int a1, .int a2, .int a3, tq_u]) [] (tq_st I L) (tq_Q q0) := by
  unfold FX12_askOf_s8 at hf
  refine tq_iload_n rX12_askOf_8 rfl ?_
  refine tq_bipush (48 : Int32) rX12_askOf_9 (by decide) ?_
  refine tq_icmp_ge rX12_askOf_11 (fun c1 => ?_) (fun c1 => ?_)
  · rw [if_pos c1] at hf
    have hf := Option.some.inj hf
    subst hf
    exact tq_forget _ (tq_le_u (tq_le_s (tq_le_u (tq_le_u (tq_le_u tq_le_n))))) hk
  · rw [if_neg c1] at hf
    refine tq_aload_n rX12_askOf_14 rfl ?_
    refine tq_iload_n rX12_askOf_15 rfl ?_
    obtain ⟨p2, e2, hf⟩ := Option.bind_eq_some_iff.mp hf
    refine ty_callVI p2.1 ([.int a3]) ([]) rX12_askOf_16 l_X12_393 moX12_greatestOf mvX12_greatestOf h0 rfl rfl (Nat.le_of_ble_eq_true rfl) ⟨rfl, rfl⟩ (CX12_greatestOf h0 e2) ?_
    refine tq_istore ([.ref a0, .int a1, .int a2, .int a3, .int p2.1]) rX12_askOf_19 (Nat.le_of_ble_eq_true rfl) rfl ?_
    refine tq_iload rX12_askOf_21 rfl ?_
    refine tq_iload_n rX12_askOf_23 rfl ?_
    refine tq_icmp_lt rX12_askOf_24 (fun c3 => ?_) (fun c3 => ?_)
    · rw [if_pos c3] at hf
      refine tq_iload_n rX12_askOf_30 rfl ?_
      refine tq_istore_n ([.ref a0, .int a3, .int a2, .int a3, .int p2.1]) rX12_askOf_31 (Nat.le_of_ble_eq_true rfl) rfl ?_
      refine tq_iload rX12_askOf_32 rfl ?_
      refine tq_istore_n ([.ref a0, .int a3, .int p2.1, .int a3, .int p2.1]) rX12_askOf_34 (Nat.le_of_ble_eq_true rfl) rfl ?_
      exact tq_forget _ (tq_le_s (tq_le_s (tq_le_s (tq_le_s (tq_le_u tq_le_n))))) (FX12_askOf_j35L8_x  h0 hf hk)
    · rw [if_neg c3] at hf
      refine tq_goto rX12_askOf_27 ?_
      exact tq_forget _ (tq_le_s (tq_le_s (tq_le_s (tq_le_s (tq_le_u tq_le_n))))) (FX12_askOf_j35L8_x  h0 hf hk)

set_option maxRecDepth 100000 in
set_option maxHeartbeats 4000000 in
theorem CX12_askOf {S : Nat × (Nat → Int32)} {d : Nat} {I : tq_PI} {L : tq_PL} {a0 : Nat} (h0 : tq_sh0 a0 = 12) {out : Int32 × tq_PI} (hf : FX12_askOf I L a0 = some out) : tq_K S mX12_askOf (d + 4) [.ref a0] I L (tq_one2 (some (.int out.1)) out.2 L) := by
  unfold FX12_askOf at hf
  refine tq_K_of (by decide) (Nat.le_of_ble_eq_true rfl) (ls := [.ref a0, tq_u, tq_u, tq_u, tq_u]) rfl ?_
  refine tq_iconst (-1 : Int32) rX12_askOf_0 (by decide) ?_
  refine tq_istore_n ([.ref a0, .int (-1 : Int32), tq_u, tq_u, tq_u]) rX12_askOf_1 (Nat.le_of_ble_eq_true rfl) rfl ?_
  refine tq_sipush (999 : Int32) rX12_askOf_2 (by decide) ?_
  refine tq_istore_n ([.ref a0, .int (-1 : Int32), .int (999 : Int32), tq_u, tq_u]) rX12_askOf_5 (Nat.le_of_ble_eq_true rfl) rfl ?_
  refine tq_iconst (0 : Int32) rX12_askOf_6 (by decide) ?_
  refine tq_istore_n ([.ref a0, .int (-1 : Int32), .int (999 : Int32), .int (0 : Int32), tq_u]) rX12_askOf_7 (Nat.le_of_ble_eq_true rfl) rfl ?_
  obtain ⟨p4, e4, hf⟩ := Option.bind_eq_some_iff.mp hf
  refine tq_forget _ (tq_le_s (tq_le_s (tq_le_s (tq_le_s (tq_le_u tq_le_n))))) ?_
  refine tq_it_elim (P := fun p : Int32 × Int32 × Int32 × tq_PI => tq_X S mX12_askOf (d + 4) tq_k0 8 ([.ref a0, .int p.1, .int p.2.1, .int p.2.2.1, tq_u]) [] (tq_st p.2.2.2 L) (tq_Q (tq_one2 (some (.int out.1)) out.2 L))) (R := fun p : Int32 × tq_PI => tq_X S mX12_askOf (d + 4) tq_k0 41 ([tq_u, .int p.1, tq_u, tq_u, tq_u]) [] (tq_st p.2 L) (tq_Q (tq_one2 (some (.int out.1)) out.2 L))) (fun p o hp hk => FX12_askOf_s8_x  h0 hp hk) _ (((-1 : Int32), (999 : Int32), (0 : Int32), I)) _ e4 ?_
  show tq_X _ _ _ _ _ _ _ _ _
  refine tq_iload_n rX12_askOf_41 rfl ?_
  refine ty_iret rX12_askOf_42 rfl rfl ?_
  have hf := Option.some.inj hf
  subst hf
  exact ⟨rfl, rfl, rfl⟩

abbrev mX12_fits : tq_M := (yX12_fits, cX12_fits, 7, (Option.some Jvm.ClassFile.FieldType.int), 0, 0)
theorem moX12_askOf : tq_mok mX12_askOf 0 := ⟨tq_sg1 _ (List.mem_of_getElem? (i := 13) rfl), tq_sg8 _ (List.mem_of_getElem? (i := 141) rfl), ⟨by decide, by decide, by decide +kernel⟩, by decide⟩
theorem mvX12_askOf : 12 < 13 ∧ (tq_cl 12).1 = mX12_askOf.1.cls ∧ Cond.instanceMethod mX12_askOf.1 ∈ lw_tbl ∧ Cond.selects mX12_askOf.1.cls mX12_askOf.1 mX12_askOf.1 ∈ lw_tbl := ⟨by decide, rfl, tq_sg8 _ (List.mem_of_getElem? (i := 140) rfl), List.mem_append_left _ (List.mem_map.mpr ⟨_, List.mem_of_getElem? (i := 106) rfl, rfl⟩)⟩
theorem l_X12_396 : tq_lok RX12 396 mX12_askOf.1 := Or.inl (tq_sg8 _ (List.mem_of_getElem? (i := 138) rfl))
theorem rX12_fits_0 : tq_D cX12_fits 0 (.aload_n 0) 1 1 := ⟨by decide +kernel, rfl⟩
theorem rX12_fits_1 : tq_D cX12_fits 1 (.iload_n 1) 1 2 := ⟨by decide +kernel, rfl⟩
theorem rX12_fits_2 : tq_D cX12_fits 2 (.invokevirtual 381) 3 5 := ⟨by decide +kernel, rfl⟩
theorem rX12_fits_5 : tq_J cX12_fits 5 (.ifCond .eq) 22 8 := ⟨17, by decide +kernel, by decide, rfl⟩
theorem rX12_fits_8 : tq_D cX12_fits 8 (.iload_n 2) 1 9 := ⟨by decide +kernel, rfl⟩
theorem rX12_fits_9 : tq_J cX12_fits 9 (.ifCond .lt) 22 12 := ⟨13, by decide +kernel, by decide, rfl⟩
theorem rX12_fits_12 : tq_D cX12_fits 12 (.iload_n 2) 1 13 := ⟨by decide +kernel, rfl⟩
theorem rX12_fits_13 : tq_D cX12_fits 13 (.iconst 4) 1 14 := ⟨by decide +kernel, rfl⟩
theorem rX12_fits_14 : tq_D cX12_fits 14 (.bipush 9) 2 16 := ⟨by decide +kernel, rfl⟩
theorem rX12_fits_16 : tq_D cX12_fits 16 (.invokestatic 118) 3 19 := ⟨by decide +kernel, rfl⟩
theorem rX12_fits_19 : tq_J cX12_fits 19 (.ifCond .eq) 25 22 := ⟨6, by decide +kernel, by decide, rfl⟩
theorem rX12_fits_22 : tq_D cX12_fits 22 (.bipush (-2)) 2 24 := ⟨by decide +kernel, rfl⟩
theorem rX12_fits_24 : decode cX12_fits 24 = .ok (.ireturn, 1) := by decide +kernel
theorem rX12_fits_25 : tq_D cX12_fits 25 (.iconst 0) 1 26 := ⟨by decide +kernel, rfl⟩
theorem rX12_fits_26 : tq_D cX12_fits 26 (.istore_n 3) 1 27 := ⟨by decide +kernel, rfl⟩
theorem rX12_fits_27 : tq_D cX12_fits 27 (.iconst (-1)) 1 28 := ⟨by decide +kernel, rfl⟩
theorem rX12_fits_28 : tq_D cX12_fits 28 (.istore 4) 2 30 := ⟨by decide +kernel, rfl⟩
theorem rX12_fits_30 : tq_D cX12_fits 30 (.iconst (-1)) 1 31 := ⟨by decide +kernel, rfl⟩
theorem rX12_fits_31 : tq_D cX12_fits 31 (.istore 5) 2 33 := ⟨by decide +kernel, rfl⟩
theorem rX12_fits_33 : tq_D cX12_fits 33 (.iconst 0) 1 34 := ⟨by decide +kernel, rfl⟩
theorem rX12_fits_34 : tq_D cX12_fits 34 (.istore 6) 2 36 := ⟨by decide +kernel, rfl⟩
theorem rX12_fits_36 : tq_D cX12_fits 36 (.iload 6) 2 38 := ⟨by decide +kernel, rfl⟩
theorem rX12_fits_38 : tq_D cX12_fits 38 (.sipush 432) 3 41 := ⟨by decide +kernel, rfl⟩
theorem rX12_fits_41 : tq_J cX12_fits 41 (.if_icmp .ge) 138 44 := ⟨97, by decide +kernel, by decide, rfl⟩
theorem rX12_fits_44 : tq_D cX12_fits 44 (.aload_n 0) 1 45 := ⟨by decide +kernel, rfl⟩
theorem rX12_fits_45 : tq_D cX12_fits 45 (.iload 6) 2 47 := ⟨by decide +kernel, rfl⟩
theorem rX12_fits_47 : tq_D cX12_fits 47 (.invokevirtual 390) 3 50 := ⟨by decide +kernel, rfl⟩
theorem rX12_fits_50 : tq_J cX12_fits 50 (.ifCond .ne) 56 53 := ⟨6, by decide +kernel, by decide, rfl⟩
theorem rX12_fits_53 : tq_J cX12_fits 53 .goto 132 56 := ⟨79, by decide +kernel, by decide, rfl⟩
theorem rX12_fits_56 : tq_D cX12_fits 56 (.iload_n 2) 1 57 := ⟨by decide +kernel, rfl⟩
theorem rX12_fits_57 : tq_D cX12_fits 57 (.bipush 10) 2 59 := ⟨by decide +kernel, rfl⟩
theorem rX12_fits_59 : tq_J cX12_fits 59 (.if_icmp .lt) 73 62 := ⟨14, by decide +kernel, by decide, rfl⟩
theorem rX12_fits_62 : tq_D cX12_fits 62 (.iload_n 3) 1 63 := ⟨by decide +kernel, rfl⟩
theorem rX12_fits_63 : tq_D cX12_fits 63 (.iload_n 2) 1 64 := ⟨by decide +kernel, rfl⟩
theorem rX12_fits_64 : tq_D cX12_fits 64 (.bipush 10) 2 66 := ⟨by decide +kernel, rfl⟩
theorem rX12_fits_66 : tq_D cX12_fits 66 (.isub) 1 67 := ⟨by decide +kernel, rfl⟩
theorem rX12_fits_67 : tq_J cX12_fits 67 (.if_icmp .ne) 73 70 := ⟨6, by decide +kernel, by decide, rfl⟩
theorem rX12_fits_70 : tq_D cX12_fits 70 (.iload 6) 2 72 := ⟨by decide +kernel, rfl⟩
theorem rX12_fits_72 : decode cX12_fits 72 = .ok (.ireturn, 1) := by decide +kernel
theorem rX12_fits_73 : tq_D cX12_fits 73 (.iload_n 3) 1 74 := ⟨by decide +kernel, rfl⟩
theorem rX12_fits_74 : tq_J cX12_fits 74 (.ifCond .eq) 87 77 := ⟨13, by decide +kernel, by decide, rfl⟩
theorem rX12_fits_77 : tq_D cX12_fits 77 (.iload 4) 2 79 := ⟨by decide +kernel, rfl⟩
theorem rX12_fits_79 : tq_D cX12_fits 79 (.iload 6) 2 81 := ⟨by decide +kernel, rfl⟩
theorem rX12_fits_81 : tq_D cX12_fits 81 (.bipush 9) 2 83 := ⟨by decide +kernel, rfl⟩
theorem rX12_fits_83 : tq_D cX12_fits 83 (.idiv) 1 84 := ⟨by decide +kernel, rfl⟩
theorem rX12_fits_84 : tq_J cX12_fits 84 (.if_icmp .ne) 95 87 := ⟨11, by decide +kernel, by decide, rfl⟩
theorem rX12_fits_87 : tq_D cX12_fits 87 (.iload 6) 2 89 := ⟨by decide +kernel, rfl⟩
theorem rX12_fits_89 : tq_D cX12_fits 89 (.bipush 9) 2 91 := ⟨by decide +kernel, rfl⟩
theorem rX12_fits_91 : tq_D cX12_fits 91 (.idiv) 1 92 := ⟨by decide +kernel, rfl⟩
theorem rX12_fits_92 : tq_J cX12_fits 92 .goto 97 95 := ⟨5, by decide +kernel, by decide, rfl⟩
theorem rX12_fits_95 : tq_D cX12_fits 95 (.bipush (-2)) 2 97 := ⟨by decide +kernel, rfl⟩
theorem rX12_fits_97 : tq_D cX12_fits 97 (.istore 4) 2 99 := ⟨by decide +kernel, rfl⟩
theorem rX12_fits_99 : tq_D cX12_fits 99 (.iload_n 3) 1 100 := ⟨by decide +kernel, rfl⟩
theorem rX12_fits_100 : tq_J cX12_fits 100 (.ifCond .eq) 115 103 := ⟨15, by decide +kernel, by decide, rfl⟩
theorem rX12_fits_103 : tq_D cX12_fits 103 (.iload 5) 2 105 := ⟨by decide +kernel, rfl⟩
theorem rX12_fits_105 : tq_D cX12_fits 105 (.iload 6) 2 107 := ⟨by decide +kernel, rfl⟩
theorem rX12_fits_107 : tq_D cX12_fits 107 (.bipush 9) 2 109 := ⟨by decide +kernel, rfl⟩
theorem rX12_fits_109 : tq_D cX12_fits 109 (.irem) 1 110 := ⟨by decide +kernel, rfl⟩
theorem rX12_fits_110 : tq_D cX12_fits 110 (.iconst 1) 1 111 := ⟨by decide +kernel, rfl⟩
theorem rX12_fits_111 : tq_D cX12_fits 111 (.iadd) 1 112 := ⟨by decide +kernel, rfl⟩
theorem rX12_fits_112 : tq_J cX12_fits 112 (.if_icmp .ne) 125 115 := ⟨13, by decide +kernel, by decide, rfl⟩
theorem rX12_fits_115 : tq_D cX12_fits 115 (.iload 6) 2 117 := ⟨by decide +kernel, rfl⟩
theorem rX12_fits_117 : tq_D cX12_fits 117 (.bipush 9) 2 119 := ⟨by decide +kernel, rfl⟩
theorem rX12_fits_119 : tq_D cX12_fits 119 (.irem) 1 120 := ⟨by decide +kernel, rfl⟩
theorem rX12_fits_120 : tq_D cX12_fits 120 (.iconst 1) 1 121 := ⟨by decide +kernel, rfl⟩
theorem rX12_fits_121 : tq_D cX12_fits 121 (.iadd) 1 122 := ⟨by decide +kernel, rfl⟩
theorem rX12_fits_122 : tq_J cX12_fits 122 .goto 127 125 := ⟨5, by decide +kernel, by decide, rfl⟩
theorem rX12_fits_125 : tq_D cX12_fits 125 (.bipush (-2)) 2 127 := ⟨by decide +kernel, rfl⟩
theorem rX12_fits_127 : tq_D cX12_fits 127 (.istore 5) 2 129 := ⟨by decide +kernel, rfl⟩
theorem rX12_fits_129 : tq_D cX12_fits 129 (.iinc 3 1) 3 132 := ⟨by decide +kernel, rfl⟩
theorem rX12_fits_132 : tq_D cX12_fits 132 (.iinc 6 1) 3 135 := ⟨by decide +kernel, rfl⟩
theorem rX12_fits_135 : tq_J cX12_fits 135 .goto 36 138 := ⟨(-99), by decide +kernel, by decide, rfl⟩
theorem rX12_fits_138 : tq_D cX12_fits 138 (.iload_n 2) 1 139 := ⟨by decide +kernel, rfl⟩
theorem rX12_fits_139 : decode cX12_fits 139 = .ok (.tableswitch 68 0 3 #[29, 31, 43, 55], 29) := by decide +kernel
theorem rX12_fits_168 : tq_D cX12_fits 168 (.iload_n 3) 1 169 := ⟨by decide +kernel, rfl⟩
theorem rX12_fits_169 : decode cX12_fits 169 = .ok (.ireturn, 1) := by decide +kernel
theorem rX12_fits_170 : tq_D cX12_fits 170 (.iload 4) 2 172 := ⟨by decide +kernel, rfl⟩
theorem rX12_fits_172 : tq_J cX12_fits 172 (.ifCond .ge) 179 175 := ⟨7, by decide +kernel, by decide, rfl⟩
theorem rX12_fits_175 : tq_D cX12_fits 175 (.iconst (-1)) 1 176 := ⟨by decide +kernel, rfl⟩
theorem rX12_fits_176 : tq_J cX12_fits 176 .goto 181 179 := ⟨5, by decide +kernel, by decide, rfl⟩
theorem rX12_fits_179 : tq_D cX12_fits 179 (.iload 4) 2 181 := ⟨by decide +kernel, rfl⟩
theorem rX12_fits_181 : decode cX12_fits 181 = .ok (.ireturn, 1) := by decide +kernel
theorem rX12_fits_182 : tq_D cX12_fits 182 (.iload 5) 2 184 := ⟨by decide +kernel, rfl⟩
theorem rX12_fits_184 : tq_J cX12_fits 184 (.ifCond .ge) 191 187 := ⟨7, by decide +kernel, by decide, rfl⟩
theorem rX12_fits_187 : tq_D cX12_fits 187 (.iconst (-1)) 1 188 := ⟨by decide +kernel, rfl⟩
theorem rX12_fits_188 : tq_J cX12_fits 188 .goto 193 191 := ⟨5, by decide +kernel, by decide, rfl⟩
theorem rX12_fits_191 : tq_D cX12_fits 191 (.iload 5) 2 193 := ⟨by decide +kernel, rfl⟩
theorem rX12_fits_193 : decode cX12_fits 193 = .ok (.ireturn, 1) := by decide +kernel
theorem rX12_fits_194 : tq_D cX12_fits 194 (.iload_n 3) 1 195 := ⟨by decide +kernel, rfl⟩
theorem rX12_fits_195 : tq_J cX12_fits 195 (.ifCond .ne) 202 198 := ⟨7, by decide +kernel, by decide, rfl⟩
theorem rX12_fits_198 : tq_D cX12_fits 198 (.iconst (-1)) 1 199 := ⟨by decide +kernel, rfl⟩
theorem rX12_fits_199 : tq_J cX12_fits 199 .goto 206 202 := ⟨7, by decide +kernel, by decide, rfl⟩
theorem rX12_fits_202 : tq_D cX12_fits 202 (.aload_n 0) 1 203 := ⟨by decide +kernel, rfl⟩
theorem rX12_fits_203 : tq_D cX12_fits 203 (.invokevirtual 396) 3 206 := ⟨by decide +kernel, rfl⟩
theorem rX12_fits_206 : decode cX12_fits 206 = .ok (.ireturn, 1) := by decide +kernel
theorem rX12_fits_207 : tq_D cX12_fits 207 (.bipush (-2)) 2 209 := ⟨by decide +kernel, rfl⟩
theorem rX12_fits_209 : decode cX12_fits 209 = .ok (.ireturn, 1) := by decide +kernel
noncomputable def FX12_fits_j22 (I : tq_PI) (L : tq_PL)  : Option (Int32 × tq_PI) :=
  some ((-2 : Int32), I)
noncomputable def FX12_fits_j132L36 (I : tq_PI) (L : tq_PL) (a0 : Nat) (a2 : Int32) (a3 : Int32) (a4 : Int32) (a5 : Int32) (a6 : Int32) : Option ((Int32 × Int32 × Int32 × Int32) ⊕ ((Int32 × Int32 × Int32) ⊕ (Int32 × tq_PI))) :=
  some (.inl (a3, a4, a5, (a6 + 1)))
noncomputable def FX12_fits_j127L36 (I : tq_PI) (L : tq_PL) (a0 : Nat) (a2 : Int32) (a3 : Int32) (a4 : Int32) (a6 : Int32) (b0 : Int32) : Option ((Int32 × Int32 × Int32 × Int32) ⊕ ((Int32 × Int32 × Int32) ⊕ (Int32 × tq_PI))) :=
  (FX12_fits_j132L36 I L a0 a2 ((a3 + 1)) a4 b0 a6)
noncomputable def FX12_fits_j115L36 (I : tq_PI) (L : tq_PL) (a0 : Nat) (a2 : Int32) (a3 : Int32) (a4 : Int32) (a6 : Int32) : Option ((Int32 × Int32 × Int32 × Int32) ⊕ ((Int32 × Int32 × Int32) ⊕ (Int32 × tq_PI))) :=
  (if ¬ (9 : Int32) = 0 then (FX12_fits_j127L36 I L a0 a2 a3 a4 a6 (((a6 - a6 / (9 : Int32) * (9 : Int32)) + (1 : Int32)))) else none)
noncomputable def FX12_fits_j97L36 (I : tq_PI) (L : tq_PL) (a0 : Nat) (a2 : Int32) (a3 : Int32) (a5 : Int32) (a6 : Int32) (b0 : Int32) : Option ((Int32 × Int32 × Int32 × Int32) ⊕ ((Int32 × Int32 × Int32) ⊕ (Int32 × tq_PI))) :=
  (if a3 = 0 then (FX12_fits_j115L36 I L a0 a2 a3 b0 a6) else (if ¬ (9 : Int32) = 0 then (if a5 = ((a6 - a6 / (9 : Int32) * (9 : Int32)) + (1 : Int32)) then (FX12_fits_j115L36 I L a0 a2 a3 b0 a6) else (FX12_fits_j127L36 I L a0 a2 a3 b0 a6 ((-2 : Int32)))) else none))
noncomputable def FX12_fits_j87L36 (I : tq_PI) (L : tq_PL) (a0 : Nat) (a2 : Int32) (a3 : Int32) (a5 : Int32) (a6 : Int32) : Option ((Int32 × Int32 × Int32 × Int32) ⊕ ((Int32 × Int32 × Int32) ⊕ (Int32 × tq_PI))) :=
  (if ¬ (9 : Int32) = 0 then (FX12_fits_j97L36 I L a0 a2 a3 a5 a6 ((a6 / (9 : Int32)))) else none)
noncomputable def FX12_fits_j73L36 (I : tq_PI) (L : tq_PL) (a0 : Nat) (a2 : Int32) (a3 : Int32) (a4 : Int32) (a5 : Int32) (a6 : Int32) : Option ((Int32 × Int32 × Int32 × Int32) ⊕ ((Int32 × Int32 × Int32) ⊕ (Int32 × tq_PI))) :=
  (if a3 = 0 then (FX12_fits_j87L36 I L a0 a2 a3 a5 a6) else (if ¬ (9 : Int32) = 0 then (if a4 = (a6 / (9 : Int32)) then (FX12_fits_j87L36 I L a0 a2 a3 a5 a6) else (FX12_fits_j97L36 I L a0 a2 a3 a5 a6 ((-2 : Int32)))) else none))
noncomputable def FX12_fits_s36 (I : tq_PI) (L : tq_PL) (a0 : Nat) (a2 : Int32) (a3 : Int32) (a4 : Int32) (a5 : Int32) (a6 : Int32) : Option ((Int32 × Int32 × Int32 × Int32) ⊕ ((Int32 × Int32 × Int32) ⊕ (Int32 × tq_PI))) :=
  (if (432 : Int32) ≤ a6 then some (.inr (.inl (a3, a4, a5))) else ((FX12_isSo I L a0 a6).bind fun p7 => (if (tq_b p7) = 0 then (FX12_fits_j132L36 I L a0 a2 a3 a4 a5 a6) else (if a2 < (10 : Int32) then (FX12_fits_j73L36 I L a0 a2 a3 a4 a5 a6) else (if a3 = (a2 - (10 : Int32)) then some (.inr (.inr (a6, I))) else (FX12_fits_j73L36 I L a0 a2 a3 a4 a5 a6))))))
noncomputable def FX12_fits (I : tq_PI) (L : tq_PL) (a0 : Nat) (a1 : Int32) (a2 : Int32) : Option (Int32 × tq_PI) :=
  ((FX12_isLog I L a0 a1).bind fun p1 => (if (tq_b p1.1) = 0 then (FX12_fits_j22 p1.2 L ) else (if a2 < 0 then (FX12_fits_j22 p1.2 L ) else (tq_let (FX12_isIn p1.2 L a2 ((4 : Int32)) ((9 : Int32))) fun p4 => (if (tq_b p4) = 0 then ((tq_it (fun p : Int32 × Int32 × Int32 × Int32 => FX12_fits_s36 p1.2 L a0 a2 p.1 p.2.1 p.2.2.1 p.2.2.2) tq_N ((0 : Int32), (-1 : Int32), (-1 : Int32), (0 : Int32))).bind fun p19 => p19.elim (fun t20 => (if a2 = 0 then some (t20.1, p1.2) else (if a2 = 1 then (if 0 ≤ t20.2.1 then some (t20.2.1, p1.2) else some ((-1 : Int32), p1.2)) else (if a2 = 2 then (if 0 ≤ t20.2.2 then some (t20.2.2, p1.2) else some ((-1 : Int32), p1.2)) else (if a2 = 3 then (if t20.1 = 0 then some ((-1 : Int32), p1.2) else ((FX12_askOf p1.2 L a0).bind fun p28 => some (p28.1, p28.2))) else some ((-2 : Int32), p1.2)))))) (fun t20 => some t20)) else (FX12_fits_j22 p1.2 L ))))))
set_option maxRecDepth 100000 in
set_option maxHeartbeats 4000000 in
theorem FX12_fits_j22_x {S : Nat × (Nat → Int32)} {d : Nat} {I : tq_PI} {L : tq_PL}   {q0 : Option Value → tq_PI → tq_PL → Prop} {out : Int32 × tq_PI} (hf : FX12_fits_j22 I L = some out) (hk : q0 (some (.int out.1)) out.2 L) : tq_X S mX12_fits (d + 5) tq_k0 22 ([tq_u, tq_u, tq_u, tq_u, tq_u, tq_u, tq_u]) ([]) (tq_st I L) (tq_Q q0) := by
  unfold FX12_fits_j22 at hf
  refine tq_bipush (-2 : Int32) rX12_fits_22 (by decide) ?_
  refine ty_iret rX12_fits_24 rfl rfl ?_
  have hf := Option.some.inj hf
  subst hf
  exact hk

set_option maxRecDepth 100000 in
set_option maxHeartbeats 4000000 in
theorem FX12_fits_j132L36_x {S : Nat × (Nat → Int32)} {d : Nat} {I : tq_PI} {L : tq_PL} {a0 : Nat} {a2 : Int32} {a3 : Int32} {a4 : Int32} {a5 : Int32} {a6 : Int32} (h0 : tq_sh0 a0 = 12) {q0 : Option Value → tq_PI → tq_PL → Prop} {out : (Int32 × Int32 × Int32 × Int32) ⊕ ((Int32 × Int32 × Int32) ⊕ (Int32 × tq_PI))} (hf : FX12_fits_j132L36 I L a0 a2 a3 a4 a5 a6 = some out) (hk : Sum.elim (fun p : Int32 × Int32 × Int32 × Int32 => tq_X S mX12_fits (d + 5) tq_k0 36 ([.ref a0, tq_u, .int a2, .int p.1, .int p.2.1, .int p.2.2.1, .int p.2.2.2]) [] (tq_st I L) (tq_Q q0)) (Sum.elim (fun p : Int32 × Int32 × Int32 => tq_X S mX12_fits (d + 5) tq_k0 138 ([.ref a0, tq_u, .int a2, .int p.1, .int p.2.1, .int p.2.2, tq_u]) [] (tq_st I L) (tq_Q q0)) (fun p : Int32 × tq_PI => q0 (some (.int p.1)) p.2 L)) out) : tq_X S mX12_fits (d + 5) tq_k0 132 ([.ref a0, tq_u, .int a2, .int a3, .int a4, .int a5, .int a6]) ([]) (tq_st I L) (tq_Q q0) := by
  unfold FX12_fits_j132L36 at hf
  refine tq_iinc (a6 + 1) ([.ref a0, tq_u, .int a2, .int a3, .int a4, .int a5, .int (a6 + 1)]) rX12_fits_132 rfl (tq_inc (by decide)) (Nat.le_of_ble_eq_true rfl) rfl ?_
  refine tq_goto rX12_fits_135 ?_
  have hf := Option.some.inj hf
  subst hf
  exact tq_forget _ (tq_le_s (tq_le_u (tq_le_s (tq_le_s (tq_le_s (tq_le_s (tq_le_s tq_le_n))))))) hk

set_option maxRecDepth 100000 in
set_option maxHeartbeats 4000000 in
theorem FX12_fits_j127L36_x {S : Nat × (Nat → Int32)} {d : Nat} {I : tq_PI} {L : tq_PL} {a0 : Nat} {a2 : Int32} {a3 : Int32} {a4 : Int32} {a6 : Int32} {b0 : Int32} (h0 : tq_sh0 a0 = 12) {q0 : Option Value → tq_PI → tq_PL → Prop} {out : (Int32 × Int32 × Int32 × Int32) ⊕ ((Int32 × Int32 × Int32) ⊕ (Int32 × tq_PI))} (hf : FX12_fits_j127L36 I L a0 a2 a3 a4 a6 b0 = some out) (hk : Sum.elim (fun p : Int32 × Int32 × Int32 × Int32 => tq_X S mX12_fits (d + 5) tq_k0 36 ([.ref a0, tq_u, .int a2, .int p.1, .int p.2.1, .int p.2.2.1, .int p.2.2.2]) [] (tq_st I L) (tq_Q q0)) (Sum.elim (fun p : Int32 × Int32 × Int32 => tq_X S mX12_fits (d + 5) tq_k0 138 ([.ref a0, tq_u, .int a2, .int p.1, .int p.2.1, .int p.2.2, tq_u]) [] (tq_st I L) (tq_Q q0)) (fun p : Int32 × tq_PI => q0 (some (.int p.1)) p.2 L)) out) : tq_X S mX12_fits (d + 5) tq_k0 127 ([.ref a0, tq_u, .int a2, .int a3, .int a4, tq_u, .int a6]) ([.int b0]) (tq_st I L) (tq_Q q0) := by
  unfold FX12_fits_j127L36 at hf
  refine tq_istore ([.ref a0, tq_u, .int a2, .int a3, .int a4, .int b0, .int a6]) rX12_fits_127 (Nat.le_of_ble_eq_true rfl) rfl ?_
  refine tq_iinc (a3 + 1) ([.ref a0, tq_u, .int a2, .int (a3 + 1), .int a4, .int b0, .int a6]) rX12_fits_129 rfl (tq_inc (by decide)) (Nat.le_of_ble_eq_true rfl) rfl ?_
  exact tq_forget _ (tq_le_s (tq_le_u (tq_le_s (tq_le_s (tq_le_s (tq_le_s (tq_le_s tq_le_n))))))) (FX12_fits_j132L36_x  h0 hf hk)

set_option maxRecDepth 100000 in
set_option maxHeartbeats 4000000 in
theorem FX12_fits_j115L36_x {S : Nat × (Nat → Int32)} {d : Nat} {I : tq_PI} {L : tq_PL} {a0 : Nat} {a2 : Int32} {a3 : Int32} {a4 : Int32} {a6 : Int32} (h0 : tq_sh0 a0 = 12) {q0 : Option Value → tq_PI → tq_PL → Prop} {out : (Int32 × Int32 × Int32 × Int32) ⊕ ((Int32 × Int32 × Int32) ⊕ (Int32 × tq_PI))} (hf : FX12_fits_j115L36 I L a0 a2 a3 a4 a6 = some out) (hk : Sum.elim (fun p : Int32 × Int32 × Int32 × Int32 => tq_X S mX12_fits (d + 5) tq_k0 36 ([.ref a0, tq_u, .int a2, .int p.1, .int p.2.1, .int p.2.2.1, .int p.2.2.2]) [] (tq_st I L) (tq_Q q0)) (Sum.elim (fun p : Int32 × Int32 × Int32 => tq_X S mX12_fits (d + 5) tq_k0 138 ([.ref a0, tq_u, .int a2, .int p.1, .int p.2.1, .int p.2.2, tq_u]) [] (tq_st I L) (tq_Q q0)) (fun p : Int32 × tq_PI => q0 (some (.int p.1)) p.2 L)) out) : tq_X S mX12_fits (d + 5) tq_k0 115 ([.ref a0, tq_u, .int a2, .int a3, .int a4, tq_u, .int a6]) ([]) (tq_st I L) (tq_Q q0) := by
  unfold FX12_fits_j115L36 at hf
  refine tq_iload rX12_fits_115 rfl ?_
  refine tq_bipush (9 : Int32) rX12_fits_117 (by decide) ?_
  obtain ⟨g13, hf⟩ := tq_chk hf
  refine tq_irem rX12_fits_119 g13 ?_
  refine tq_iconst (1 : Int32) rX12_fits_120 (by decide) ?_
  refine tq_iadd rX12_fits_121 ?_
  refine tq_goto rX12_fits_122 ?_
  exact tq_forget _ (tq_le_s (tq_le_u (tq_le_s (tq_le_s (tq_le_s (tq_le_u (tq_le_s tq_le_n))))))) (FX12_fits_j127L36_x  h0 hf hk)

set_option maxRecDepth 100000 in
set_option maxHeartbeats 4000000 in
theorem FX12_fits_j97L36_x {S : Nat × (Nat → Int32)} {d : Nat} {I : tq_PI} {L : tq_PL} {a0 : Nat} {a2 : Int32} {a3 : Int32} {a5 : Int32} {a6 : Int32} {b0 : Int32} (h0 : tq_sh0 a0 = 12) {q0 : Option Value → tq_PI → tq_PL → Prop} {out : (Int32 × Int32 × Int32 × Int32) ⊕ ((Int32 × Int32 × Int32) ⊕ (Int32 × tq_PI))} (hf : FX12_fits_j97L36 I L a0 a2 a3 a5 a6 b0 = some out) (hk : Sum.elim (fun p : Int32 × Int32 × Int32 × Int32 => tq_X S mX12_fits (d + 5) tq_k0 36 ([.ref a0, tq_u, .int a2, .int p.1, .int p.2.1, .int p.2.2.1, .int p.2.2.2]) [] (tq_st I L) (tq_Q q0)) (Sum.elim (fun p : Int32 × Int32 × Int32 => tq_X S mX12_fits (d + 5) tq_k0 138 ([.ref a0, tq_u, .int a2, .int p.1, .int p.2.1, .int p.2.2, tq_u]) [] (tq_st I L) (tq_Q q0)) (fun p : Int32 × tq_PI => q0 (some (.int p.1)) p.2 L)) out) : tq_X S mX12_fits (d + 5) tq_k0 97 ([.ref a0, tq_u, .int a2, .int a3, tq_u, .int a5, .int a6]) ([.int b0]) (tq_st I L) (tq_Q q0) := by
  unfold FX12_fits_j97L36 at hf
  refine tq_istore ([.ref a0, tq_u, .int a2, .int a3, .int b0, .int a5, .int a6]) rX12_fits_97 (Nat.le_of_ble_eq_true rfl) rfl ?_
  refine tq_iload_n rX12_fits_99 rfl ?_
  refine tq_if_eq rX12_fits_100 (fun c12 => ?_) (fun c12 => ?_)
  · rw [if_pos c12] at hf
    exact tq_forget _ (tq_le_s (tq_le_u (tq_le_s (tq_le_s (tq_le_s (tq_le_u (tq_le_s tq_le_n))))))) (FX12_fits_j115L36_x  h0 hf hk)
  · rw [if_neg c12] at hf
    refine tq_iload rX12_fits_103 rfl ?_
    refine tq_iload rX12_fits_105 rfl ?_
    refine tq_bipush (9 : Int32) rX12_fits_107 (by decide) ?_
    obtain ⟨g14, hf⟩ := tq_chk hf
    refine tq_irem rX12_fits_109 g14 ?_
    refine tq_iconst (1 : Int32) rX12_fits_110 (by decide) ?_
    refine tq_iadd rX12_fits_111 ?_
    refine tq_icmp_ne rX12_fits_112 (fun c15 => ?_) (fun c15 => ?_)
    · rw [if_neg c15] at hf
      refine tq_bipush (-2 : Int32) rX12_fits_125 (by decide) ?_
      exact tq_forget _ (tq_le_s (tq_le_u (tq_le_s (tq_le_s (tq_le_s (tq_le_u (tq_le_s tq_le_n))))))) (FX12_fits_j127L36_x  h0 hf hk)
    · rw [if_pos c15] at hf
      exact tq_forget _ (tq_le_s (tq_le_u (tq_le_s (tq_le_s (tq_le_s (tq_le_u (tq_le_s tq_le_n))))))) (FX12_fits_j115L36_x  h0 hf hk)

set_option maxRecDepth 100000 in
set_option maxHeartbeats 4000000 in
theorem FX12_fits_j87L36_x {S : Nat × (Nat → Int32)} {d : Nat} {I : tq_PI} {L : tq_PL} {a0 : Nat} {a2 : Int32} {a3 : Int32} {a5 : Int32} {a6 : Int32} (h0 : tq_sh0 a0 = 12) {q0 : Option Value → tq_PI → tq_PL → Prop} {out : (Int32 × Int32 × Int32 × Int32) ⊕ ((Int32 × Int32 × Int32) ⊕ (Int32 × tq_PI))} (hf : FX12_fits_j87L36 I L a0 a2 a3 a5 a6 = some out) (hk : Sum.elim (fun p : Int32 × Int32 × Int32 × Int32 => tq_X S mX12_fits (d + 5) tq_k0 36 ([.ref a0, tq_u, .int a2, .int p.1, .int p.2.1, .int p.2.2.1, .int p.2.2.2]) [] (tq_st I L) (tq_Q q0)) (Sum.elim (fun p : Int32 × Int32 × Int32 => tq_X S mX12_fits (d + 5) tq_k0 138 ([.ref a0, tq_u, .int a2, .int p.1, .int p.2.1, .int p.2.2, tq_u]) [] (tq_st I L) (tq_Q q0)) (fun p : Int32 × tq_PI => q0 (some (.int p.1)) p.2 L)) out) : tq_X S mX12_fits (d + 5) tq_k0 87 ([.ref a0, tq_u, .int a2, .int a3, tq_u, .int a5, .int a6]) ([]) (tq_st I L) (tq_Q q0) := by
  unfold FX12_fits_j87L36 at hf
  refine tq_iload rX12_fits_87 rfl ?_
  refine tq_bipush (9 : Int32) rX12_fits_89 (by decide) ?_
  obtain ⟨g11, hf⟩ := tq_chk hf
  refine tq_idiv rX12_fits_91 g11 ?_
  refine tq_goto rX12_fits_92 ?_
  exact tq_forget _ (tq_le_s (tq_le_u (tq_le_s (tq_le_s (tq_le_u (tq_le_s (tq_le_s tq_le_n))))))) (FX12_fits_j97L36_x  h0 hf hk)

set_option maxRecDepth 100000 in
set_option maxHeartbeats 4000000 in
theorem FX12_fits_j73L36_x {S : Nat × (Nat → Int32)} {d : Nat} {I : tq_PI} {L : tq_PL} {a0 : Nat} {a2 : Int32} {a3 : Int32} {a4 : Int32} {a5 : Int32} {a6 : Int32} (h0 : tq_sh0 a0 = 12) {q0 : Option Value → tq_PI → tq_PL → Prop} {out : (Int32 × Int32 × Int32 × Int32) ⊕ ((Int32 × Int32 × Int32) ⊕ (Int32 × tq_PI))} (hf : FX12_fits_j73L36 I L a0 a2 a3 a4 a5 a6 = some out) (hk : Sum.elim (fun p : Int32 × Int32 × Int32 × Int32 => tq_X S mX12_fits (d + 5) tq_k0 36 ([.ref a0, tq_u, .int a2, .int p.1, .int p.2.1, .int p.2.2.1, .int p.2.2.2]) [] (tq_st I L) (tq_Q q0)) (Sum.elim (fun p : Int32 × Int32 × Int32 => tq_X S mX12_fits (d + 5) tq_k0 138 ([.ref a0, tq_u, .int a2, .int p.1, .int p.2.1, .int p.2.2, tq_u]) [] (tq_st I L) (tq_Q q0)) (fun p : Int32 × tq_PI => q0 (some (.int p.1)) p.2 L)) out) : tq_X S mX12_fits (d + 5) tq_k0 73 ([.ref a0, tq_u, .int a2, .int a3, .int a4, .int a5, .int a6]) ([]) (tq_st I L) (tq_Q q0) := by
  unfold FX12_fits_j73L36 at hf
  refine tq_iload_n rX12_fits_73 rfl ?_
  refine tq_if_eq rX12_fits_74 (fun c10 => ?_) (fun c10 => ?_)
  · rw [if_pos c10] at hf
    exact tq_forget _ (tq_le_s (tq_le_u (tq_le_s (tq_le_s (tq_le_u (tq_le_s (tq_le_s tq_le_n))))))) (FX12_fits_j87L36_x  h0 hf hk)
  · rw [if_neg c10] at hf
    refine tq_iload rX12_fits_77 rfl ?_
    refine tq_iload rX12_fits_79 rfl ?_
    refine tq_bipush (9 : Int32) rX12_fits_81 (by decide) ?_
    obtain ⟨g16, hf⟩ := tq_chk hf
    refine tq_idiv rX12_fits_83 g16 ?_
    refine tq_icmp_ne rX12_fits_84 (fun c17 => ?_) (fun c17 => ?_)
    · rw [if_neg c17] at hf
      refine tq_bipush (-2 : Int32) rX12_fits_95 (by decide) ?_
      exact tq_forget _ (tq_le_s (tq_le_u (tq_le_s (tq_le_s (tq_le_u (tq_le_s (tq_le_s tq_le_n))))))) (FX12_fits_j97L36_x  h0 hf hk)
    · rw [if_pos c17] at hf
      exact tq_forget _ (tq_le_s (tq_le_u (tq_le_s (tq_le_s (tq_le_u (tq_le_s (tq_le_s tq_le_n))))))) (FX12_fits_j87L36_x  h0 hf hk)

set_option maxRecDepth 100000 in
set_option maxHeartbeats 4000000 in
theorem FX12_fits_s36_x {S : Nat × (Nat → Int32)} {d : Nat} {I : tq_PI} {L : tq_PL} {a0 : Nat} {a2 : Int32} {a3 : Int32} {a4 : Int32} {a5 : Int32} {a6 : Int32} (h0 : tq_sh0 a0 = 12) {q0 : Option Value → tq_PI → tq_PL → Prop} {out : (Int32 × Int32 × Int32 × Int32) ⊕ ((Int32 × Int32 × Int32) ⊕ (Int32 × tq_PI))} (hf : FX12_fits_s36 I L a0 a2 a3 a4 a5 a6 = some out) (hk : Sum.elim (fun p : Int32 × Int32 × Int32 × Int32 => tq_X S mX12_fits (d + 5) tq_k0 36 ([.ref a0, tq_u, .int a2, .int p.1, .int p.2.1, .int p.2.2.1, .int p.2.2.2]) [] (tq_st I L) (tq_Q q0)) (Sum.elim (fun p : Int32 × Int32 × Int32 => tq_X S mX12_fits (d + 5) tq_k0 138 ([.ref a0, tq_u, .int a2, .int p.1, .int p.2.1, .int p.2.2, tq_u]) [] (tq_st I L) (tq_Q q0)) (fun p : Int32 × tq_PI => q0 (some (.int p.1)) p.2 L)) out) : tq_X S mX12_fits (d + 5) tq_k0 36 ([.ref a0, tq_u, .int a2, .int a3, .int a4, .int a5, .int a6]) [] (tq_st I L) (tq_Q q0) := by
  unfold FX12_fits_s36 at hf
  refine tq_iload rX12_fits_36 rfl ?_
  refine tq_sipush (432 : Int32) rX12_fits_38 (by decide) ?_
  refine tq_icmp_ge rX12_fits_41 (fun c6 => ?_) (fun c6 => ?_)
  · rw [if_pos c6] at hf
    have hf := Option.some.inj hf
    subst hf
    exact tq_forget _ (tq_le_s (tq_le_u (tq_le_s (tq_le_s (tq_le_s (tq_le_s (tq_le_u tq_le_n))))))) hk
  · rw [if_neg c6] at hf
    refine tq_aload_n rX12_fits_44 rfl ?_
    refine tq_iload rX12_fits_45 rfl ?_
    obtain ⟨p7, e7, hf⟩ := Option.bind_eq_some_iff.mp hf
    refine ty_callVI (tq_b p7) ([.int a6]) ([]) rX12_fits_47 l_X12_390 moX12_isSo mvX12_isSo h0 rfl rfl (Nat.le_of_ble_eq_true rfl) ⟨rfl, rfl⟩ (CX12_isSo h0 e7) ?_
    refine tq_if_ne rX12_fits_50 (fun c8 => ?_) (fun c8 => ?_)
    · rw [if_neg c8] at hf
      refine tq_iload_n rX12_fits_56 rfl ?_
      refine tq_bipush (10 : Int32) rX12_fits_57 (by decide) ?_
      refine tq_icmp_lt rX12_fits_59 (fun c9 => ?_) (fun c9 => ?_)
      · rw [if_pos c9] at hf
        exact tq_forget _ (tq_le_s (tq_le_u (tq_le_s (tq_le_s (tq_le_s (tq_le_s (tq_le_s tq_le_n))))))) (FX12_fits_j73L36_x  h0 hf hk)
      · rw [if_neg c9] at hf
        refine tq_iload_n rX12_fits_62 rfl ?_
        refine tq_iload_n rX12_fits_63 rfl ?_
        refine tq_bipush (10 : Int32) rX12_fits_64 (by decide) ?_
        refine tq_isub rX12_fits_66 ?_
        refine tq_icmp_ne rX12_fits_67 (fun c18 => ?_) (fun c18 => ?_)
        · rw [if_neg c18] at hf
          exact tq_forget _ (tq_le_s (tq_le_u (tq_le_s (tq_le_s (tq_le_s (tq_le_s (tq_le_s tq_le_n))))))) (FX12_fits_j73L36_x  h0 hf hk)
        · rw [if_pos c18] at hf
          refine tq_iload rX12_fits_70 rfl ?_
          refine ty_iret rX12_fits_72 rfl rfl ?_
          have hf := Option.some.inj hf
          subst hf
          exact hk
    · rw [if_pos c8] at hf
      refine tq_goto rX12_fits_53 ?_
      exact tq_forget _ (tq_le_s (tq_le_u (tq_le_s (tq_le_s (tq_le_s (tq_le_s (tq_le_s tq_le_n))))))) (FX12_fits_j132L36_x  h0 hf hk)

set_option maxRecDepth 100000 in
set_option maxHeartbeats 4000000 in
theorem CX12_fits {S : Nat × (Nat → Int32)} {d : Nat} {I : tq_PI} {L : tq_PL} {a0 : Nat} {a1 : Int32} {a2 : Int32} (h0 : tq_sh0 a0 = 12) {out : Int32 × tq_PI} (hf : FX12_fits I L a0 a1 a2 = some out) : tq_K S mX12_fits (d + 5) [.ref a0, .int a1, .int a2] I L (tq_one2 (some (.int out.1)) out.2 L) := by
  unfold FX12_fits at hf
  refine tq_K_of (by decide) (Nat.le_of_ble_eq_true rfl) (ls := [.ref a0, .int a1, .int a2, tq_u, tq_u, tq_u, tq_u]) rfl ?_
  refine tq_aload_n rX12_fits_0 rfl ?_
  refine tq_iload_n rX12_fits_1 rfl ?_
  obtain ⟨p1, e1, hf⟩ := Option.bind_eq_some_iff.mp hf
  refine ty_callVI (tq_b p1.1) ([.int a1]) ([]) rX12_fits_2 l_X12_381 moX12_isLog mvX12_isLog h0 rfl rfl (Nat.le_of_ble_eq_true rfl) ⟨rfl, rfl⟩ (CX12_isLog h0 e1) ?_
  refine tq_if_eq rX12_fits_5 (fun c2 => ?_) (fun c2 => ?_)
  · rw [if_pos c2] at hf
    exact tq_forget _ (tq_le_u (tq_le_u (tq_le_u (tq_le_u (tq_le_u (tq_le_u (tq_le_u tq_le_n))))))) (FX12_fits_j22_x   hf ⟨rfl, rfl, rfl⟩)
  · rw [if_neg c2] at hf
    refine tq_iload_n rX12_fits_8 rfl ?_
    refine tq_if_lt rX12_fits_9 (fun c3 => ?_) (fun c3 => ?_)
    · rw [if_pos c3] at hf
      exact tq_forget _ (tq_le_u (tq_le_u (tq_le_u (tq_le_u (tq_le_u (tq_le_u (tq_le_u tq_le_n))))))) (FX12_fits_j22_x   hf ⟨rfl, rfl, rfl⟩)
    · rw [if_neg c3] at hf
      refine tq_iload_n rX12_fits_12 rfl ?_
      refine tq_iconst (4 : Int32) rX12_fits_13 (by decide) ?_
      refine tq_bipush (9 : Int32) rX12_fits_14 (by decide) ?_
      obtain ⟨p4, e4, hf⟩ := tq_let_elim hf
      refine ty_callSI (tq_b p4) ([.int a2, .int (4 : Int32), .int (9 : Int32)]) ([]) rX12_fits_16 l_X12_118 moX12_isIn msX12_isIn rfl rfl (Nat.le_of_ble_eq_true rfl) ⟨rfl, rfl⟩ (CX12_isIn  e4) ?_
      refine tq_if_eq rX12_fits_19 (fun c5 => ?_) (fun c5 => ?_)
      · rw [if_pos c5] at hf
        refine tq_iconst (0 : Int32) rX12_fits_25 (by decide) ?_
        refine tq_istore_n ([.ref a0, .int a1, .int a2, .int (0 : Int32), tq_u, tq_u, tq_u]) rX12_fits_26 (Nat.le_of_ble_eq_true rfl) rfl ?_
        refine tq_iconst (-1 : Int32) rX12_fits_27 (by decide) ?_
        refine tq_istore ([.ref a0, .int a1, .int a2, .int (0 : Int32), .int (-1 : Int32), tq_u, tq_u]) rX12_fits_28 (Nat.le_of_ble_eq_true rfl) rfl ?_
        refine tq_iconst (-1 : Int32) rX12_fits_30 (by decide) ?_
        refine tq_istore ([.ref a0, .int a1, .int a2, .int (0 : Int32), .int (-1 : Int32), .int (-1 : Int32), tq_u]) rX12_fits_31 (Nat.le_of_ble_eq_true rfl) rfl ?_
        refine tq_iconst (0 : Int32) rX12_fits_33 (by decide) ?_
        refine tq_istore ([.ref a0, .int a1, .int a2, .int (0 : Int32), .int (-1 : Int32), .int (-1 : Int32), .int (0 : Int32)]) rX12_fits_34 (Nat.le_of_ble_eq_true rfl) rfl ?_
        obtain ⟨p19, e19, hf⟩ := Option.bind_eq_some_iff.mp hf
        refine tq_forget _ (tq_le_s (tq_le_u (tq_le_s (tq_le_s (tq_le_s (tq_le_s (tq_le_s tq_le_n))))))) ?_
        refine tq_it_elim (P := fun p : Int32 × Int32 × Int32 × Int32 => tq_X S mX12_fits (d + 5) tq_k0 36 ([.ref a0, tq_u, .int a2, .int p.1, .int p.2.1, .int p.2.2.1, .int p.2.2.2]) [] (tq_st p1.2 L) (tq_Q (tq_one2 (some (.int out.1)) out.2 L))) (R := Sum.elim (fun p : Int32 × Int32 × Int32 => tq_X S mX12_fits (d + 5) tq_k0 138 ([.ref a0, tq_u, .int a2, .int p.1, .int p.2.1, .int p.2.2, tq_u]) [] (tq_st p1.2 L) (tq_Q (tq_one2 (some (.int out.1)) out.2 L))) (fun p : Int32 × tq_PI => (tq_one2 (some (.int out.1)) out.2 L) (some (.int p.1)) p.2 L)) (fun p o hp hk => FX12_fits_s36_x  h0 hp hk) _ (((0 : Int32), (-1 : Int32), (-1 : Int32), (0 : Int32))) _ e19 ?_
        rcases tq_selim hf with ⟨t20, t20q, hf⟩ | ⟨t20, t20q, hf⟩
        · rw [t20q]
          show tq_X _ _ _ _ _ _ _ _ _
          refine tq_iload_n rX12_fits_138 rfl ?_
          by_cases c21 : a2 = 0
          · rw [if_pos c21] at hf
            refine tq_swIn (tgt := 168) 29 rX12_fits_139 (by rw [c21]; decide) (by rw [c21]; decide) (by rw [c21]; rfl) (by decide) ?_
            refine tq_iload_n rX12_fits_168 rfl ?_
            refine ty_iret rX12_fits_169 rfl rfl ?_
            have hf := Option.some.inj hf
            subst hf
            exact ⟨rfl, rfl, rfl⟩
          · rw [if_neg c21] at hf
            by_cases c22 : a2 = 1
            · rw [if_pos c22] at hf
              refine tq_swIn (tgt := 170) 31 rX12_fits_139 (by rw [c22]; decide) (by rw [c22]; decide) (by rw [c22]; rfl) (by decide) ?_
              refine tq_iload rX12_fits_170 rfl ?_
              refine tq_if_ge rX12_fits_172 (fun c23 => ?_) (fun c23 => ?_)
              · rw [if_pos c23] at hf
                refine tq_iload rX12_fits_179 rfl ?_
                refine ty_iret rX12_fits_181 rfl rfl ?_
                have hf := Option.some.inj hf
                subst hf
                exact ⟨rfl, rfl, rfl⟩
              · rw [if_neg c23] at hf
                refine tq_iconst (-1 : Int32) rX12_fits_175 (by decide) ?_
                refine tq_goto rX12_fits_176 ?_
                refine ty_iret rX12_fits_181 rfl rfl ?_
                have hf := Option.some.inj hf
                subst hf
                exact ⟨rfl, rfl, rfl⟩
            · rw [if_neg c22] at hf
              by_cases c24 : a2 = 2
              · rw [if_pos c24] at hf
                refine tq_swIn (tgt := 182) 43 rX12_fits_139 (by rw [c24]; decide) (by rw [c24]; decide) (by rw [c24]; rfl) (by decide) ?_
                refine tq_iload rX12_fits_182 rfl ?_
                refine tq_if_ge rX12_fits_184 (fun c25 => ?_) (fun c25 => ?_)
                · rw [if_pos c25] at hf
                  refine tq_iload rX12_fits_191 rfl ?_
                  refine ty_iret rX12_fits_193 rfl rfl ?_
                  have hf := Option.some.inj hf
                  subst hf
                  exact ⟨rfl, rfl, rfl⟩
                · rw [if_neg c25] at hf
                  refine tq_iconst (-1 : Int32) rX12_fits_187 (by decide) ?_
                  refine tq_goto rX12_fits_188 ?_
                  refine ty_iret rX12_fits_193 rfl rfl ?_
                  have hf := Option.some.inj hf
                  subst hf
                  exact ⟨rfl, rfl, rfl⟩
              · rw [if_neg c24] at hf
                by_cases c26 : a2 = 3
                · rw [if_pos c26] at hf
                  refine tq_swIn (tgt := 194) 55 rX12_fits_139 (by rw [c26]; decide) (by rw [c26]; decide) (by rw [c26]; rfl) (by decide) ?_
                  refine tq_iload_n rX12_fits_194 rfl ?_
                  refine tq_if_ne rX12_fits_195 (fun c27 => ?_) (fun c27 => ?_)
                  · rw [if_neg c27] at hf
                    refine tq_aload_n rX12_fits_202 rfl ?_
                    obtain ⟨p28, e28, hf⟩ := Option.bind_eq_some_iff.mp hf
                    refine ty_callVI p28.1 ([]) ([]) rX12_fits_203 l_X12_396 moX12_askOf mvX12_askOf h0 rfl rfl (Nat.le_of_ble_eq_true rfl) ⟨rfl, rfl⟩ (CX12_askOf h0 e28) ?_
                    refine ty_iret rX12_fits_206 rfl rfl ?_
                    have hf := Option.some.inj hf
                    subst hf
                    exact ⟨rfl, rfl, rfl⟩
                  · rw [if_pos c27] at hf
                    refine tq_iconst (-1 : Int32) rX12_fits_198 (by decide) ?_
                    refine tq_goto rX12_fits_199 ?_
                    refine ty_iret rX12_fits_206 rfl rfl ?_
                    have hf := Option.some.inj hf
                    subst hf
                    exact ⟨rfl, rfl, rfl⟩
                · rw [if_neg c26] at hf
                  have c21o := tq_ni (c := 0) c21 (by decide)
                  have c22o := tq_ni (c := 1) c22 (by decide)
                  have c24o := tq_ni (c := 2) c24 (by decide)
                  have c26o := tq_ni (c := 3) c26 (by decide)
                  refine tq_swOut (tgt := 207) rX12_fits_139 (by omega) (by decide) ?_
                  refine tq_bipush (-2 : Int32) rX12_fits_207 (by decide) ?_
                  refine ty_iret rX12_fits_209 rfl rfl ?_
                  have hf := Option.some.inj hf
                  subst hf
                  exact ⟨rfl, rfl, rfl⟩
        · rw [t20q]
          have hf := Option.some.inj hf
          subst hf
          exact ⟨rfl, rfl, rfl⟩
      · rw [if_neg c5] at hf
        exact tq_forget _ (tq_le_u (tq_le_u (tq_le_u (tq_le_u (tq_le_u (tq_le_u (tq_le_u tq_le_n))))))) (FX12_fits_j22_x   hf ⟨rfl, rfl, rfl⟩)

abbrev mX12_range : tq_M := (yX12_range, cX12_range, 7, (Option.some Jvm.ClassFile.FieldType.int), 0, 0)
theorem rX12_range_0 : tq_D cX12_range 0 (.aload_n 0) 1 1 := ⟨by decide +kernel, rfl⟩
theorem rX12_range_1 : tq_D cX12_range 1 (.iload_n 1) 1 2 := ⟨by decide +kernel, rfl⟩
theorem rX12_range_2 : tq_D cX12_range 2 (.invokevirtual 381) 3 5 := ⟨by decide +kernel, rfl⟩
theorem rX12_range_5 : tq_J cX12_range 5 (.ifCond .eq) 18 8 := ⟨13, by decide +kernel, by decide, rfl⟩
theorem rX12_range_8 : tq_D cX12_range 8 (.iload_n 2) 1 9 := ⟨by decide +kernel, rfl⟩
theorem rX12_range_9 : tq_D cX12_range 9 (.iconst 0) 1 10 := ⟨by decide +kernel, rfl⟩
theorem rX12_range_10 : tq_D cX12_range 10 (.bipush 47) 2 12 := ⟨by decide +kernel, rfl⟩
theorem rX12_range_12 : tq_D cX12_range 12 (.invokestatic 118) 3 15 := ⟨by decide +kernel, rfl⟩
theorem rX12_range_15 : tq_J cX12_range 15 (.ifCond .ne) 20 18 := ⟨5, by decide +kernel, by decide, rfl⟩
theorem rX12_range_18 : tq_D cX12_range 18 (.iconst (-1)) 1 19 := ⟨by decide +kernel, rfl⟩
theorem rX12_range_19 : decode cX12_range 19 = .ok (.ireturn, 1) := by decide +kernel
theorem rX12_range_20 : tq_D cX12_range 20 (.iconst (-1)) 1 21 := ⟨by decide +kernel, rfl⟩
theorem rX12_range_21 : tq_D cX12_range 21 (.istore 4) 2 23 := ⟨by decide +kernel, rfl⟩
theorem rX12_range_23 : tq_D cX12_range 23 (.iconst 0) 1 24 := ⟨by decide +kernel, rfl⟩
theorem rX12_range_24 : tq_D cX12_range 24 (.istore 5) 2 26 := ⟨by decide +kernel, rfl⟩
theorem rX12_range_26 : tq_D cX12_range 26 (.iload 5) 2 28 := ⟨by decide +kernel, rfl⟩
theorem rX12_range_28 : tq_D cX12_range 28 (.sipush 432) 3 31 := ⟨by decide +kernel, rfl⟩
theorem rX12_range_31 : tq_J cX12_range 31 (.if_icmp .ge) 96 34 := ⟨65, by decide +kernel, by decide, rfl⟩
theorem rX12_range_34 : tq_D cX12_range 34 (.aload_n 0) 1 35 := ⟨by decide +kernel, rfl⟩
theorem rX12_range_35 : tq_D cX12_range 35 (.iload 5) 2 37 := ⟨by decide +kernel, rfl⟩
theorem rX12_range_37 : tq_D cX12_range 37 (.invokevirtual 390) 3 40 := ⟨by decide +kernel, rfl⟩
theorem rX12_range_40 : tq_J cX12_range 40 (.ifCond .ne) 46 43 := ⟨6, by decide +kernel, by decide, rfl⟩
theorem rX12_range_43 : tq_J cX12_range 43 .goto 90 46 := ⟨47, by decide +kernel, by decide, rfl⟩
theorem rX12_range_46 : tq_D cX12_range 46 (.iload 5) 2 48 := ⟨by decide +kernel, rfl⟩
theorem rX12_range_48 : tq_D cX12_range 48 (.iload_n 2) 1 49 := ⟨by decide +kernel, rfl⟩
theorem rX12_range_49 : tq_D cX12_range 49 (.invokestatic 387) 3 52 := ⟨by decide +kernel, rfl⟩
theorem rX12_range_52 : tq_D cX12_range 52 (.istore 6) 2 54 := ⟨by decide +kernel, rfl⟩
theorem rX12_range_54 : tq_D cX12_range 54 (.iload 4) 2 56 := ⟨by decide +kernel, rfl⟩
theorem rX12_range_56 : tq_D cX12_range 56 (.iconst (-1)) 1 57 := ⟨by decide +kernel, rfl⟩
theorem rX12_range_57 : tq_J cX12_range 57 (.if_icmp .eq) 81 60 := ⟨24, by decide +kernel, by decide, rfl⟩
theorem rX12_range_60 : tq_D cX12_range 60 (.iload_n 3) 1 61 := ⟨by decide +kernel, rfl⟩
theorem rX12_range_61 : tq_J cX12_range 61 (.ifCond .eq) 74 64 := ⟨13, by decide +kernel, by decide, rfl⟩
theorem rX12_range_64 : tq_D cX12_range 64 (.iload 6) 2 66 := ⟨by decide +kernel, rfl⟩
theorem rX12_range_66 : tq_D cX12_range 66 (.iload 4) 2 68 := ⟨by decide +kernel, rfl⟩
theorem rX12_range_68 : tq_J cX12_range 68 (.if_icmp .le) 86 71 := ⟨18, by decide +kernel, by decide, rfl⟩
theorem rX12_range_71 : tq_J cX12_range 71 .goto 81 74 := ⟨10, by decide +kernel, by decide, rfl⟩
theorem rX12_range_74 : tq_D cX12_range 74 (.iload 6) 2 76 := ⟨by decide +kernel, rfl⟩
theorem rX12_range_76 : tq_D cX12_range 76 (.iload 4) 2 78 := ⟨by decide +kernel, rfl⟩
theorem rX12_range_78 : tq_J cX12_range 78 (.if_icmp .ge) 86 81 := ⟨8, by decide +kernel, by decide, rfl⟩
theorem rX12_range_81 : tq_D cX12_range 81 (.iload 6) 2 83 := ⟨by decide +kernel, rfl⟩
theorem rX12_range_83 : tq_J cX12_range 83 .goto 88 86 := ⟨5, by decide +kernel, by decide, rfl⟩
theorem rX12_range_86 : tq_D cX12_range 86 (.iload 4) 2 88 := ⟨by decide +kernel, rfl⟩
theorem rX12_range_88 : tq_D cX12_range 88 (.istore 4) 2 90 := ⟨by decide +kernel, rfl⟩
theorem rX12_range_90 : tq_D cX12_range 90 (.iinc 5 1) 3 93 := ⟨by decide +kernel, rfl⟩
theorem rX12_range_93 : tq_J cX12_range 93 .goto 26 96 := ⟨(-67), by decide +kernel, by decide, rfl⟩
theorem rX12_range_96 : tq_D cX12_range 96 (.iload 4) 2 98 := ⟨by decide +kernel, rfl⟩
theorem rX12_range_98 : decode cX12_range 98 = .ok (.ireturn, 1) := by decide +kernel
noncomputable def FX12_range_j18 (I : tq_PI) (L : tq_PL)  : Option (Int32 × tq_PI) :=
  some ((-1 : Int32), I)
noncomputable def FX12_range_j90L26 (I : tq_PI) (L : tq_PL) (a0 : Nat) (a2 : Int32) (a3 : Int32) (a4 : Int32) (a5 : Int32) : Option ((Int32 × Int32) ⊕ (Int32)) :=
  some (.inl (a4, (a5 + 1)))
noncomputable def FX12_range_j88L26 (I : tq_PI) (L : tq_PL) (a0 : Nat) (a2 : Int32) (a3 : Int32) (a5 : Int32) (b0 : Int32) : Option ((Int32 × Int32) ⊕ (Int32)) :=
  (FX12_range_j90L26 I L a0 a2 a3 b0 a5)
noncomputable def FX12_range_j81L26 (I : tq_PI) (L : tq_PL) (a0 : Nat) (a2 : Int32) (a3 : Int32) (a5 : Int32) (a6 : Int32) : Option ((Int32 × Int32) ⊕ (Int32)) :=
  (FX12_range_j88L26 I L a0 a2 a3 a5 a6)
noncomputable def FX12_range_j86L26 (I : tq_PI) (L : tq_PL) (a0 : Nat) (a2 : Int32) (a3 : Int32) (a4 : Int32) (a5 : Int32) : Option ((Int32 × Int32) ⊕ (Int32)) :=
  (FX12_range_j88L26 I L a0 a2 a3 a5 a4)
noncomputable def FX12_range_s26 (I : tq_PI) (L : tq_PL) (a0 : Nat) (a2 : Int32) (a3 : Int32) (a4 : Int32) (a5 : Int32) : Option ((Int32 × Int32) ⊕ (Int32)) :=
  (if (432 : Int32) ≤ a5 then some (.inr a4) else ((FX12_isSo I L a0 a5).bind fun p6 => (if (tq_b p6) = 0 then (FX12_range_j90L26 I L a0 a2 a3 a4 a5) else ((FX12_hears I L a5 a2).bind fun p8 => (if a4 = (-1 : Int32) then (FX12_range_j81L26 I L a0 a2 a3 a5 p8) else (if a3 = 0 then (if a4 ≤ p8 then (FX12_range_j86L26 I L a0 a2 a3 a4 a5) else (FX12_range_j81L26 I L a0 a2 a3 a5 p8)) else (if p8 ≤ a4 then (FX12_range_j86L26 I L a0 a2 a3 a4 a5) else (FX12_range_j81L26 I L a0 a2 a3 a5 p8))))))))
noncomputable def FX12_range (I : tq_PI) (L : tq_PL) (a0 : Nat) (a1 : Int32) (a2 : Int32) (a3 : Int32) : Option (Int32 × tq_PI) :=
  ((FX12_isLog I L a0 a1).bind fun p1 => (if (tq_b p1.1) = 0 then (FX12_range_j18 p1.2 L ) else (tq_let (FX12_isIn p1.2 L a2 ((0 : Int32)) ((47 : Int32))) fun p3 => (if (tq_b p3) = 0 then (FX12_range_j18 p1.2 L ) else ((tq_it (fun p : Int32 × Int32 => FX12_range_s26 p1.2 L a0 a2 a3 p.1 p.2) tq_N ((-1 : Int32), (0 : Int32))).bind fun p13 => some (p13, p1.2))))))
set_option maxRecDepth 100000 in
set_option maxHeartbeats 4000000 in
theorem FX12_range_j18_x {S : Nat × (Nat → Int32)} {d : Nat} {I : tq_PI} {L : tq_PL}   {q0 : Option Value → tq_PI → tq_PL → Prop} {out : Int32 × tq_PI} (hf : FX12_range_j18 I L = some out) (hk : q0 (some (.int out.1)) out.2 L) : tq_X S mX12_range (d + 3) tq_k0 18 ([tq_u, tq_u, tq_u, tq_u, tq_u, tq_u, tq_u]) ([]) (tq_st I L) (tq_Q q0) := by
  unfold FX12_range_j18 at hf
  refine tq_iconst (-1 : Int32) rX12_range_18 (by decide) ?_
  refine ty_iret rX12_range_19 rfl rfl ?_
  have hf := Option.some.inj hf
  subst hf
  exact hk

set_option maxRecDepth 100000 in
set_option maxHeartbeats 4000000 in
theorem FX12_range_j90L26_x {S : Nat × (Nat → Int32)} {d : Nat} {I : tq_PI} {L : tq_PL} {a0 : Nat} {a2 : Int32} {a3 : Int32} {a4 : Int32} {a5 : Int32} (h0 : tq_sh0 a0 = 12) {q0 : Option Value → tq_PI → tq_PL → Prop} {out : (Int32 × Int32) ⊕ (Int32)} (hf : FX12_range_j90L26 I L a0 a2 a3 a4 a5 = some out) (hk : Sum.elim (fun p : Int32 × Int32 => tq_X S mX12_range (d + 3) tq_k0 26 ([.ref a0, tq_u, .int a2, .int a3, .int p.1, .int p.2, tq_u]) [] (tq_st I L) (tq_Q q0)) (fun p : Int32 => tq_X S mX12_range (d + 3) tq_k0 96 ([tq_u, tq_u, tq_u, tq_u, .int p, tq_u, tq_u]) [] (tq_st I L) (tq_Q q0)) out) : tq_X S mX12_range (d + 3) tq_k0 90 ([.ref a0, tq_u, .int a2, .int a3, .int a4, .int a5, tq_u]) ([]) (tq_st I L) (tq_Q q0) := by
  unfold FX12_range_j90L26 at hf
  refine tq_iinc (a5 + 1) ([.ref a0, tq_u, .int a2, .int a3, .int a4, .int (a5 + 1), tq_u]) rX12_range_90 rfl (tq_inc (by decide)) (Nat.le_of_ble_eq_true rfl) rfl ?_
  refine tq_goto rX12_range_93 ?_
  have hf := Option.some.inj hf
  subst hf
  exact tq_forget _ (tq_le_s (tq_le_u (tq_le_s (tq_le_s (tq_le_s (tq_le_s (tq_le_u tq_le_n))))))) hk

set_option maxRecDepth 100000 in
set_option maxHeartbeats 4000000 in
theorem FX12_range_j88L26_x {S : Nat × (Nat → Int32)} {d : Nat} {I : tq_PI} {L : tq_PL} {a0 : Nat} {a2 : Int32} {a3 : Int32} {a5 : Int32} {b0 : Int32} (h0 : tq_sh0 a0 = 12) {q0 : Option Value → tq_PI → tq_PL → Prop} {out : (Int32 × Int32) ⊕ (Int32)} (hf : FX12_range_j88L26 I L a0 a2 a3 a5 b0 = some out) (hk : Sum.elim (fun p : Int32 × Int32 => tq_X S mX12_range (d + 3) tq_k0 26 ([.ref a0, tq_u, .int a2, .int a3, .int p.1, .int p.2, tq_u]) [] (tq_st I L) (tq_Q q0)) (fun p : Int32 => tq_X S mX12_range (d + 3) tq_k0 96 ([tq_u, tq_u, tq_u, tq_u, .int p, tq_u, tq_u]) [] (tq_st I L) (tq_Q q0)) out) : tq_X S mX12_range (d + 3) tq_k0 88 ([.ref a0, tq_u, .int a2, .int a3, tq_u, .int a5, tq_u]) ([.int b0]) (tq_st I L) (tq_Q q0) := by
  unfold FX12_range_j88L26 at hf
  refine tq_istore ([.ref a0, tq_u, .int a2, .int a3, .int b0, .int a5, tq_u]) rX12_range_88 (Nat.le_of_ble_eq_true rfl) rfl ?_
  exact tq_forget _ (tq_le_s (tq_le_u (tq_le_s (tq_le_s (tq_le_s (tq_le_s (tq_le_u tq_le_n))))))) (FX12_range_j90L26_x  h0 hf hk)

set_option maxRecDepth 100000 in
set_option maxHeartbeats 4000000 in
theorem FX12_range_j81L26_x {S : Nat × (Nat → Int32)} {d : Nat} {I : tq_PI} {L : tq_PL} {a0 : Nat} {a2 : Int32} {a3 : Int32} {a5 : Int32} {a6 : Int32} (h0 : tq_sh0 a0 = 12) {q0 : Option Value → tq_PI → tq_PL → Prop} {out : (Int32 × Int32) ⊕ (Int32)} (hf : FX12_range_j81L26 I L a0 a2 a3 a5 a6 = some out) (hk : Sum.elim (fun p : Int32 × Int32 => tq_X S mX12_range (d + 3) tq_k0 26 ([.ref a0, tq_u, .int a2, .int a3, .int p.1, .int p.2, tq_u]) [] (tq_st I L) (tq_Q q0)) (fun p : Int32 => tq_X S mX12_range (d + 3) tq_k0 96 ([tq_u, tq_u, tq_u, tq_u, .int p, tq_u, tq_u]) [] (tq_st I L) (tq_Q q0)) out) : tq_X S mX12_range (d + 3) tq_k0 81 ([.ref a0, tq_u, .int a2, .int a3, tq_u, .int a5, .int a6]) ([]) (tq_st I L) (tq_Q q0) := by
  unfold FX12_range_j81L26 at hf
  refine tq_iload rX12_range_81 rfl ?_
  refine tq_goto rX12_range_83 ?_
  exact tq_forget _ (tq_le_s (tq_le_u (tq_le_s (tq_le_s (tq_le_u (tq_le_s (tq_le_u tq_le_n))))))) (FX12_range_j88L26_x  h0 hf hk)

set_option maxRecDepth 100000 in
set_option maxHeartbeats 4000000 in
theorem FX12_range_j86L26_x {S : Nat × (Nat → Int32)} {d : Nat} {I : tq_PI} {L : tq_PL} {a0 : Nat} {a2 : Int32} {a3 : Int32} {a4 : Int32} {a5 : Int32} (h0 : tq_sh0 a0 = 12) {q0 : Option Value → tq_PI → tq_PL → Prop} {out : (Int32 × Int32) ⊕ (Int32)} (hf : FX12_range_j86L26 I L a0 a2 a3 a4 a5 = some out) (hk : Sum.elim (fun p : Int32 × Int32 => tq_X S mX12_range (d + 3) tq_k0 26 ([.ref a0, tq_u, .int a2, .int a3, .int p.1, .int p.2, tq_u]) [] (tq_st I L) (tq_Q q0)) (fun p : Int32 => tq_X S mX12_range (d + 3) tq_k0 96 ([tq_u, tq_u, tq_u, tq_u, .int p, tq_u, tq_u]) [] (tq_st I L) (tq_Q q0)) out) : tq_X S mX12_range (d + 3) tq_k0 86 ([.ref a0, tq_u, .int a2, .int a3, .int a4, .int a5, tq_u]) ([]) (tq_st I L) (tq_Q q0) := by
  unfold FX12_range_j86L26 at hf
  refine tq_iload rX12_range_86 rfl ?_
  exact tq_forget _ (tq_le_s (tq_le_u (tq_le_s (tq_le_s (tq_le_u (tq_le_s (tq_le_u tq_le_n))))))) (FX12_range_j88L26_x  h0 hf hk)

set_option maxRecDepth 100000 in
set_option maxHeartbeats 4000000 in
theorem FX12_range_s26_x {S : Nat × (Nat → Int32)} {d : Nat} {I : tq_PI} {L : tq_PL} {a0 : Nat} {a2 : Int32} {a3 : Int32} {a4 : Int32} {a5 : Int32} (h0 : tq_sh0 a0 = 12) {q0 : Option Value → tq_PI → tq_PL → Prop} {out : (Int32 × Int32) ⊕ (Int32)} (hf : FX12_range_s26 I L a0 a2 a3 a4 a5 = some out) (hk : Sum.elim (fun p : Int32 × Int32 => tq_X S mX12_range (d + 3) tq_k0 26 ([.ref a0, tq_u, .int a2, .int a3, .int p.1, .int p.2, tq_u]) [] (tq_st I L) (tq_Q q0)) (fun p : Int32 => tq_X S mX12_range (d + 3) tq_k0 96 ([tq_u, tq_u, tq_u, tq_u, .int p, tq_u, tq_u]) [] (tq_st I L) (tq_Q q0)) out) : tq_X S mX12_range (d + 3) tq_k0 26 ([.ref a0, tq_u, .int a2, .int a3, .int a4, .int a5, tq_u]) [] (tq_st I L) (tq_Q q0) := by
  unfold FX12_range_s26 at hf
  refine tq_iload rX12_range_26 rfl ?_
  refine tq_sipush (432 : Int32) rX12_range_28 (by decide) ?_
  refine tq_icmp_ge rX12_range_31 (fun c5 => ?_) (fun c5 => ?_)
  · rw [if_pos c5] at hf
    have hf := Option.some.inj hf
    subst hf
    exact tq_forget _ (tq_le_u (tq_le_u (tq_le_u (tq_le_u (tq_le_s (tq_le_u (tq_le_u tq_le_n))))))) hk
  · rw [if_neg c5] at hf
    refine tq_aload_n rX12_range_34 rfl ?_
    refine tq_iload rX12_range_35 rfl ?_
    obtain ⟨p6, e6, hf⟩ := Option.bind_eq_some_iff.mp hf
    refine ty_callVI (tq_b p6) ([.int a5]) ([]) rX12_range_37 l_X12_390 moX12_isSo mvX12_isSo h0 rfl rfl (Nat.le_of_ble_eq_true rfl) ⟨rfl, rfl⟩ (CX12_isSo h0 e6) ?_
    refine tq_if_ne rX12_range_40 (fun c7 => ?_) (fun c7 => ?_)
    · rw [if_neg c7] at hf
      refine tq_iload rX12_range_46 rfl ?_
      refine tq_iload_n rX12_range_48 rfl ?_
      obtain ⟨p8, e8, hf⟩ := Option.bind_eq_some_iff.mp hf
      refine ty_callSI p8 ([.int a5, .int a2]) ([]) rX12_range_49 l_X12_387 moX12_hears msX12_hears rfl rfl (Nat.le_of_ble_eq_true rfl) ⟨rfl, rfl⟩ (CX12_hears  e8) ?_
      refine tq_istore ([.ref a0, tq_u, .int a2, .int a3, .int a4, .int a5, .int p8]) rX12_range_52 (Nat.le_of_ble_eq_true rfl) rfl ?_
      refine tq_iload rX12_range_54 rfl ?_
      refine tq_iconst (-1 : Int32) rX12_range_56 (by decide) ?_
      refine tq_icmp_eq rX12_range_57 (fun c9 => ?_) (fun c9 => ?_)
      · rw [if_pos c9] at hf
        exact tq_forget _ (tq_le_s (tq_le_u (tq_le_s (tq_le_s (tq_le_u (tq_le_s (tq_le_s tq_le_n))))))) (FX12_range_j81L26_x  h0 hf hk)
      · rw [if_neg c9] at hf
        refine tq_iload_n rX12_range_60 rfl ?_
        refine tq_if_eq rX12_range_61 (fun c10 => ?_) (fun c10 => ?_)
        · rw [if_pos c10] at hf
          refine tq_iload rX12_range_74 rfl ?_
          refine tq_iload rX12_range_76 rfl ?_
          refine tq_icmp_ge rX12_range_78 (fun c11 => ?_) (fun c11 => ?_)
          · rw [if_pos c11] at hf
            exact tq_forget _ (tq_le_s (tq_le_u (tq_le_s (tq_le_s (tq_le_s (tq_le_s (tq_le_u tq_le_n))))))) (FX12_range_j86L26_x  h0 hf hk)
          · rw [if_neg c11] at hf
            exact tq_forget _ (tq_le_s (tq_le_u (tq_le_s (tq_le_s (tq_le_u (tq_le_s (tq_le_s tq_le_n))))))) (FX12_range_j81L26_x  h0 hf hk)
        · rw [if_neg c10] at hf
          refine tq_iload rX12_range_64 rfl ?_
          refine tq_iload rX12_range_66 rfl ?_
          refine tq_icmp_le rX12_range_68 (fun c12 => ?_) (fun c12 => ?_)
          · rw [if_pos c12] at hf
            exact tq_forget _ (tq_le_s (tq_le_u (tq_le_s (tq_le_s (tq_le_s (tq_le_s (tq_le_u tq_le_n))))))) (FX12_range_j86L26_x  h0 hf hk)
          · rw [if_neg c12] at hf
            refine tq_goto rX12_range_71 ?_
            exact tq_forget _ (tq_le_s (tq_le_u (tq_le_s (tq_le_s (tq_le_u (tq_le_s (tq_le_s tq_le_n))))))) (FX12_range_j81L26_x  h0 hf hk)
    · rw [if_pos c7] at hf
      refine tq_goto rX12_range_43 ?_
      exact tq_forget _ (tq_le_s (tq_le_u (tq_le_s (tq_le_s (tq_le_s (tq_le_s (tq_le_u tq_le_n))))))) (FX12_range_j90L26_x  h0 hf hk)

set_option maxRecDepth 100000 in
set_option maxHeartbeats 4000000 in
theorem CX12_range {S : Nat × (Nat → Int32)} {d : Nat} {I : tq_PI} {L : tq_PL} {a0 : Nat} {a1 : Int32} {a2 : Int32} {a3 : Int32} (h0 : tq_sh0 a0 = 12) {out : Int32 × tq_PI} (hf : FX12_range I L a0 a1 a2 a3 = some out) : tq_K S mX12_range (d + 3) [.ref a0, .int a1, .int a2, .int a3] I L (tq_one2 (some (.int out.1)) out.2 L) := by
  unfold FX12_range at hf
  refine tq_K_of (by decide) (Nat.le_of_ble_eq_true rfl) (ls := [.ref a0, .int a1, .int a2, .int a3, tq_u, tq_u, tq_u]) rfl ?_
  refine tq_aload_n rX12_range_0 rfl ?_
  refine tq_iload_n rX12_range_1 rfl ?_
  obtain ⟨p1, e1, hf⟩ := Option.bind_eq_some_iff.mp hf
  refine ty_callVI (tq_b p1.1) ([.int a1]) ([]) rX12_range_2 l_X12_381 moX12_isLog mvX12_isLog h0 rfl rfl (Nat.le_of_ble_eq_true rfl) ⟨rfl, rfl⟩ (CX12_isLog h0 e1) ?_
  refine tq_if_eq rX12_range_5 (fun c2 => ?_) (fun c2 => ?_)
  · rw [if_pos c2] at hf
    exact tq_forget _ (tq_le_u (tq_le_u (tq_le_u (tq_le_u (tq_le_u (tq_le_u (tq_le_u tq_le_n))))))) (FX12_range_j18_x   hf ⟨rfl, rfl, rfl⟩)
  · rw [if_neg c2] at hf
    refine tq_iload_n rX12_range_8 rfl ?_
    refine tq_iconst (0 : Int32) rX12_range_9 (by decide) ?_
    refine tq_bipush (47 : Int32) rX12_range_10 (by decide) ?_
    obtain ⟨p3, e3, hf⟩ := tq_let_elim hf
    refine ty_callSI (tq_b p3) ([.int a2, .int (0 : Int32), .int (47 : Int32)]) ([]) rX12_range_12 l_X12_118 moX12_isIn msX12_isIn rfl rfl (Nat.le_of_ble_eq_true rfl) ⟨rfl, rfl⟩ (CX12_isIn  e3) ?_
    refine tq_if_ne rX12_range_15 (fun c4 => ?_) (fun c4 => ?_)
    · rw [if_neg c4] at hf
      refine tq_iconst (-1 : Int32) rX12_range_20 (by decide) ?_
      refine tq_istore ([.ref a0, .int a1, .int a2, .int a3, .int (-1 : Int32), tq_u, tq_u]) rX12_range_21 (Nat.le_of_ble_eq_true rfl) rfl ?_
      refine tq_iconst (0 : Int32) rX12_range_23 (by decide) ?_
      refine tq_istore ([.ref a0, .int a1, .int a2, .int a3, .int (-1 : Int32), .int (0 : Int32), tq_u]) rX12_range_24 (Nat.le_of_ble_eq_true rfl) rfl ?_
      obtain ⟨p13, e13, hf⟩ := Option.bind_eq_some_iff.mp hf
      refine tq_forget _ (tq_le_s (tq_le_u (tq_le_s (tq_le_s (tq_le_s (tq_le_s (tq_le_u tq_le_n))))))) ?_
      refine tq_it_elim (P := fun p : Int32 × Int32 => tq_X S mX12_range (d + 3) tq_k0 26 ([.ref a0, tq_u, .int a2, .int a3, .int p.1, .int p.2, tq_u]) [] (tq_st p1.2 L) (tq_Q (tq_one2 (some (.int out.1)) out.2 L))) (R := fun p : Int32 => tq_X S mX12_range (d + 3) tq_k0 96 ([tq_u, tq_u, tq_u, tq_u, .int p, tq_u, tq_u]) [] (tq_st p1.2 L) (tq_Q (tq_one2 (some (.int out.1)) out.2 L))) (fun p o hp hk => FX12_range_s26_x  h0 hp hk) _ (((-1 : Int32), (0 : Int32))) _ e13 ?_
      show tq_X _ _ _ _ _ _ _ _ _
      refine tq_iload rX12_range_96 rfl ?_
      refine ty_iret rX12_range_98 rfl rfl ?_
      have hf := Option.some.inj hf
      subst hf
      exact ⟨rfl, rfl, rfl⟩
    · rw [if_pos c4] at hf
      exact tq_forget _ (tq_le_u (tq_le_u (tq_le_u (tq_le_u (tq_le_u (tq_le_u (tq_le_u tq_le_n))))))) (FX12_range_j18_x   hf ⟨rfl, rfl, rfl⟩)

abbrev mX12_within : tq_M := (yX12_within, cX12_within, 6, (Option.some Jvm.ClassFile.FieldType.int), 0, 0)
theorem rX12_within_0 : tq_D cX12_within 0 (.aload_n 0) 1 1 := ⟨by decide +kernel, rfl⟩
theorem rX12_within_1 : tq_D cX12_within 1 (.iload_n 1) 1 2 := ⟨by decide +kernel, rfl⟩
theorem rX12_within_2 : tq_D cX12_within 2 (.invokevirtual 381) 3 5 := ⟨by decide +kernel, rfl⟩
theorem rX12_within_5 : tq_J cX12_within 5 (.ifCond .eq) 28 8 := ⟨23, by decide +kernel, by decide, rfl⟩
theorem rX12_within_8 : tq_D cX12_within 8 (.iload_n 2) 1 9 := ⟨by decide +kernel, rfl⟩
theorem rX12_within_9 : tq_D cX12_within 9 (.iconst 0) 1 10 := ⟨by decide +kernel, rfl⟩
theorem rX12_within_10 : tq_D cX12_within 10 (.bipush 47) 2 12 := ⟨by decide +kernel, rfl⟩
theorem rX12_within_12 : tq_D cX12_within 12 (.invokestatic 118) 3 15 := ⟨by decide +kernel, rfl⟩
theorem rX12_within_15 : tq_J cX12_within 15 (.ifCond .eq) 28 18 := ⟨13, by decide +kernel, by decide, rfl⟩
theorem rX12_within_18 : tq_D cX12_within 18 (.iload_n 3) 1 19 := ⟨by decide +kernel, rfl⟩
theorem rX12_within_19 : tq_D cX12_within 19 (.iconst 0) 1 20 := ⟨by decide +kernel, rfl⟩
theorem rX12_within_20 : tq_D cX12_within 20 (.bipush 12) 2 22 := ⟨by decide +kernel, rfl⟩
theorem rX12_within_22 : tq_D cX12_within 22 (.invokestatic 118) 3 25 := ⟨by decide +kernel, rfl⟩
theorem rX12_within_25 : tq_J cX12_within 25 (.ifCond .ne) 30 28 := ⟨5, by decide +kernel, by decide, rfl⟩
theorem rX12_within_28 : tq_D cX12_within 28 (.iconst (-1)) 1 29 := ⟨by decide +kernel, rfl⟩
theorem rX12_within_29 : decode cX12_within 29 = .ok (.ireturn, 1) := by decide +kernel
theorem rX12_within_30 : tq_D cX12_within 30 (.iconst 0) 1 31 := ⟨by decide +kernel, rfl⟩
theorem rX12_within_31 : tq_D cX12_within 31 (.istore 4) 2 33 := ⟨by decide +kernel, rfl⟩
theorem rX12_within_33 : tq_D cX12_within 33 (.iconst 0) 1 34 := ⟨by decide +kernel, rfl⟩
theorem rX12_within_34 : tq_D cX12_within 34 (.istore 5) 2 36 := ⟨by decide +kernel, rfl⟩
theorem rX12_within_36 : tq_D cX12_within 36 (.iload 5) 2 38 := ⟨by decide +kernel, rfl⟩
theorem rX12_within_38 : tq_D cX12_within 38 (.sipush 432) 3 41 := ⟨by decide +kernel, rfl⟩
theorem rX12_within_41 : tq_J cX12_within 41 (.if_icmp .ge) 82 44 := ⟨41, by decide +kernel, by decide, rfl⟩
theorem rX12_within_44 : tq_D cX12_within 44 (.iload 4) 2 46 := ⟨by decide +kernel, rfl⟩
theorem rX12_within_46 : tq_D cX12_within 46 (.iload 5) 2 48 := ⟨by decide +kernel, rfl⟩
theorem rX12_within_48 : tq_D cX12_within 48 (.bipush 9) 2 50 := ⟨by decide +kernel, rfl⟩
theorem rX12_within_50 : tq_D cX12_within 50 (.idiv) 1 51 := ⟨by decide +kernel, rfl⟩
theorem rX12_within_51 : tq_D cX12_within 51 (.iload_n 2) 1 52 := ⟨by decide +kernel, rfl⟩
theorem rX12_within_52 : tq_D cX12_within 52 (.invokestatic 384) 3 55 := ⟨by decide +kernel, rfl⟩
theorem rX12_within_55 : tq_D cX12_within 55 (.iload_n 3) 1 56 := ⟨by decide +kernel, rfl⟩
theorem rX12_within_56 : tq_J cX12_within 56 (.if_icmp .gt) 72 59 := ⟨16, by decide +kernel, by decide, rfl⟩
theorem rX12_within_59 : tq_D cX12_within 59 (.aload_n 0) 1 60 := ⟨by decide +kernel, rfl⟩
theorem rX12_within_60 : tq_D cX12_within 60 (.iload 5) 2 62 := ⟨by decide +kernel, rfl⟩
theorem rX12_within_62 : tq_D cX12_within 62 (.invokevirtual 390) 3 65 := ⟨by decide +kernel, rfl⟩
theorem rX12_within_65 : tq_J cX12_within 65 (.ifCond .eq) 72 68 := ⟨7, by decide +kernel, by decide, rfl⟩
theorem rX12_within_68 : tq_D cX12_within 68 (.iconst 1) 1 69 := ⟨by decide +kernel, rfl⟩
theorem rX12_within_69 : tq_J cX12_within 69 .goto 73 72 := ⟨4, by decide +kernel, by decide, rfl⟩
theorem rX12_within_72 : tq_D cX12_within 72 (.iconst 0) 1 73 := ⟨by decide +kernel, rfl⟩
theorem rX12_within_73 : tq_D cX12_within 73 (.iadd) 1 74 := ⟨by decide +kernel, rfl⟩
theorem rX12_within_74 : tq_D cX12_within 74 (.istore 4) 2 76 := ⟨by decide +kernel, rfl⟩
theorem rX12_within_76 : tq_D cX12_within 76 (.iinc 5 1) 3 79 := ⟨by decide +kernel, rfl⟩
theorem rX12_within_79 : tq_J cX12_within 79 .goto 36 82 := ⟨(-43), by decide +kernel, by decide, rfl⟩
theorem rX12_within_82 : tq_D cX12_within 82 (.iload 4) 2 84 := ⟨by decide +kernel, rfl⟩
theorem rX12_within_84 : decode cX12_within 84 = .ok (.ireturn, 1) := by decide +kernel
noncomputable def FX12_within_j28 (I : tq_PI) (L : tq_PL)  : Option (Int32 × tq_PI) :=
  some ((-1 : Int32), I)
noncomputable def FX12_within_j73L36 (I : tq_PI) (L : tq_PL) (a0 : Nat) (a2 : Int32) (a3 : Int32) (a5 : Int32) (b0 : Int32) (b1 : Int32) : Option ((Int32 × Int32) ⊕ (Int32)) :=
  some (.inl ((b1 + b0), (a5 + 1)))
noncomputable def FX12_within_j72L36 (I : tq_PI) (L : tq_PL) (a0 : Nat) (a2 : Int32) (a3 : Int32) (a5 : Int32) (b0 : Int32) : Option ((Int32 × Int32) ⊕ (Int32)) :=
  (FX12_within_j73L36 I L a0 a2 a3 a5 ((0 : Int32)) b0)
noncomputable def FX12_within_s36 (I : tq_PI) (L : tq_PL) (a0 : Nat) (a2 : Int32) (a3 : Int32) (a4 : Int32) (a5 : Int32) : Option ((Int32 × Int32) ⊕ (Int32)) :=
  (if (432 : Int32) ≤ a5 then some (.inr a4) else (if ¬ (9 : Int32) = 0 then ((FX12_far I L ((a5 / (9 : Int32))) a2).bind fun p9 => (if a3 < p9 then (FX12_within_j72L36 I L a0 a2 a3 a5 a4) else ((FX12_isSo I L a0 a5).bind fun p11 => (if (tq_b p11) = 0 then (FX12_within_j72L36 I L a0 a2 a3 a5 a4) else (FX12_within_j73L36 I L a0 a2 a3 a5 ((1 : Int32)) a4))))) else none))
noncomputable def FX12_within (I : tq_PI) (L : tq_PL) (a0 : Nat) (a1 : Int32) (a2 : Int32) (a3 : Int32) : Option (Int32 × tq_PI) :=
  ((FX12_isLog I L a0 a1).bind fun p1 => (if (tq_b p1.1) = 0 then (FX12_within_j28 p1.2 L ) else (tq_let (FX12_isIn p1.2 L a2 ((0 : Int32)) ((47 : Int32))) fun p3 => (if (tq_b p3) = 0 then (FX12_within_j28 p1.2 L ) else (tq_let (FX12_isIn p1.2 L a3 ((0 : Int32)) ((12 : Int32))) fun p5 => (if (tq_b p5) = 0 then (FX12_within_j28 p1.2 L ) else ((tq_it (fun p : Int32 × Int32 => FX12_within_s36 p1.2 L a0 a2 a3 p.1 p.2) tq_N ((0 : Int32), (0 : Int32))).bind fun p13 => some (p13, p1.2))))))))
set_option maxRecDepth 100000 in
set_option maxHeartbeats 4000000 in
theorem FX12_within_j28_x {S : Nat × (Nat → Int32)} {d : Nat} {I : tq_PI} {L : tq_PL}   {q0 : Option Value → tq_PI → tq_PL → Prop} {out : Int32 × tq_PI} (hf : FX12_within_j28 I L = some out) (hk : q0 (some (.int out.1)) out.2 L) : tq_X S mX12_within (d + 3) tq_k0 28 ([tq_u, tq_u, tq_u, tq_u, tq_u, tq_u]) ([]) (tq_st I L) (tq_Q q0) := by
  unfold FX12_within_j28 at hf
  refine tq_iconst (-1 : Int32) rX12_within_28 (by decide) ?_
  refine ty_iret rX12_within_29 rfl rfl ?_
  have hf := Option.some.inj hf
  subst hf
  exact hk

set_option maxRecDepth 100000 in
set_option maxHeartbeats 4000000 in
theorem FX12_within_j73L36_x {S : Nat × (Nat → Int32)} {d : Nat} {I : tq_PI} {L : tq_PL} {a0 : Nat} {a2 : Int32} {a3 : Int32} {a5 : Int32} {b0 : Int32} {b1 : Int32} (h0 : tq_sh0 a0 = 12) {q0 : Option Value → tq_PI → tq_PL → Prop} {out : (Int32 × Int32) ⊕ (Int32)} (hf : FX12_within_j73L36 I L a0 a2 a3 a5 b0 b1 = some out) (hk : Sum.elim (fun p : Int32 × Int32 => tq_X S mX12_within (d + 3) tq_k0 36 ([.ref a0, tq_u, .int a2, .int a3, .int p.1, .int p.2]) [] (tq_st I L) (tq_Q q0)) (fun p : Int32 => tq_X S mX12_within (d + 3) tq_k0 82 ([tq_u, tq_u, tq_u, tq_u, .int p, tq_u]) [] (tq_st I L) (tq_Q q0)) out) : tq_X S mX12_within (d + 3) tq_k0 73 ([.ref a0, tq_u, .int a2, .int a3, tq_u, .int a5]) ([.int b0, .int b1]) (tq_st I L) (tq_Q q0) := by
  unfold FX12_within_j73L36 at hf
  refine tq_iadd rX12_within_73 ?_
  refine tq_istore ([.ref a0, tq_u, .int a2, .int a3, .int (b1 + b0), .int a5]) rX12_within_74 (Nat.le_of_ble_eq_true rfl) rfl ?_
  refine tq_iinc (a5 + 1) ([.ref a0, tq_u, .int a2, .int a3, .int (b1 + b0), .int (a5 + 1)]) rX12_within_76 rfl (tq_inc (by decide)) (Nat.le_of_ble_eq_true rfl) rfl ?_
  refine tq_goto rX12_within_79 ?_
  have hf := Option.some.inj hf
  subst hf
  exact tq_forget _ (tq_le_s (tq_le_u (tq_le_s (tq_le_s (tq_le_s (tq_le_s tq_le_n)))))) hk

set_option maxRecDepth 100000 in
set_option maxHeartbeats 4000000 in
theorem FX12_within_j72L36_x {S : Nat × (Nat → Int32)} {d : Nat} {I : tq_PI} {L : tq_PL} {a0 : Nat} {a2 : Int32} {a3 : Int32} {a5 : Int32} {b0 : Int32} (h0 : tq_sh0 a0 = 12) {q0 : Option Value → tq_PI → tq_PL → Prop} {out : (Int32 × Int32) ⊕ (Int32)} (hf : FX12_within_j72L36 I L a0 a2 a3 a5 b0 = some out) (hk : Sum.elim (fun p : Int32 × Int32 => tq_X S mX12_within (d + 3) tq_k0 36 ([.ref a0, tq_u, .int a2, .int a3, .int p.1, .int p.2]) [] (tq_st I L) (tq_Q q0)) (fun p : Int32 => tq_X S mX12_within (d + 3) tq_k0 82 ([tq_u, tq_u, tq_u, tq_u, .int p, tq_u]) [] (tq_st I L) (tq_Q q0)) out) : tq_X S mX12_within (d + 3) tq_k0 72 ([.ref a0, tq_u, .int a2, .int a3, tq_u, .int a5]) ([.int b0]) (tq_st I L) (tq_Q q0) := by
  unfold FX12_within_j72L36 at hf
  refine tq_iconst (0 : Int32) rX12_within_72 (by decide) ?_
  exact tq_forget _ (tq_le_s (tq_le_u (tq_le_s (tq_le_s (tq_le_u (tq_le_s tq_le_n)))))) (FX12_within_j73L36_x  h0 hf hk)

set_option maxRecDepth 100000 in
set_option maxHeartbeats 4000000 in
theorem FX12_within_s36_x {S : Nat × (Nat → Int32)} {d : Nat} {I : tq_PI} {L : tq_PL} {a0 : Nat} {a2 : Int32} {a3 : Int32} {a4 : Int32} {a5 : Int32} (h0 : tq_sh0 a0 = 12) {q0 : Option Value → tq_PI → tq_PL → Prop} {out : (Int32 × Int32) ⊕ (Int32)} (hf : FX12_within_s36 I L a0 a2 a3 a4 a5 = some out) (hk : Sum.elim (fun p : Int32 × Int32 => tq_X S mX12_within (d + 3) tq_k0 36 ([.ref a0, tq_u, .int a2, .int a3, .int p.1, .int p.2]) [] (tq_st I L) (tq_Q q0)) (fun p : Int32 => tq_X S mX12_within (d + 3) tq_k0 82 ([tq_u, tq_u, tq_u, tq_u, .int p, tq_u]) [] (tq_st I L) (tq_Q q0)) out) : tq_X S mX12_within (d + 3) tq_k0 36 ([.ref a0, tq_u, .int a2, .int a3, .int a4, .int a5]) [] (tq_st I L) (tq_Q q0) := by
  unfold FX12_within_s36 at hf
  refine tq_iload rX12_within_36 rfl ?_
  refine tq_sipush (432 : Int32) rX12_within_38 (by decide) ?_
  refine tq_icmp_ge rX12_within_41 (fun c7 => ?_) (fun c7 => ?_)
  · rw [if_pos c7] at hf
    have hf := Option.some.inj hf
    subst hf
    exact tq_forget _ (tq_le_u (tq_le_u (tq_le_u (tq_le_u (tq_le_s (tq_le_u tq_le_n)))))) hk
  · rw [if_neg c7] at hf
    refine tq_iload rX12_within_44 rfl ?_
    refine tq_iload rX12_within_46 rfl ?_
    refine tq_bipush (9 : Int32) rX12_within_48 (by decide) ?_
    obtain ⟨g8, hf⟩ := tq_chk hf
    refine tq_idiv rX12_within_50 g8 ?_
    refine tq_iload_n rX12_within_51 rfl ?_
    obtain ⟨p9, e9, hf⟩ := Option.bind_eq_some_iff.mp hf
    refine ty_callSI p9 ([.int (a5 / (9 : Int32)), .int a2]) ([.int a4]) rX12_within_52 l_X12_384 moX12_far msX12_far rfl rfl (Nat.le_of_ble_eq_true rfl) ⟨rfl, rfl⟩ (CX12_far  e9) ?_
    refine tq_iload_n rX12_within_55 rfl ?_
    refine tq_icmp_gt rX12_within_56 (fun c10 => ?_) (fun c10 => ?_)
    · rw [if_pos c10] at hf
      exact tq_forget _ (tq_le_s (tq_le_u (tq_le_s (tq_le_s (tq_le_u (tq_le_s tq_le_n)))))) (FX12_within_j72L36_x  h0 hf hk)
    · rw [if_neg c10] at hf
      refine tq_aload_n rX12_within_59 rfl ?_
      refine tq_iload rX12_within_60 rfl ?_
      obtain ⟨p11, e11, hf⟩ := Option.bind_eq_some_iff.mp hf
      refine ty_callVI (tq_b p11) ([.int a5]) ([.int a4]) rX12_within_62 l_X12_390 moX12_isSo mvX12_isSo h0 rfl rfl (Nat.le_of_ble_eq_true rfl) ⟨rfl, rfl⟩ (CX12_isSo h0 e11) ?_
      refine tq_if_eq rX12_within_65 (fun c12 => ?_) (fun c12 => ?_)
      · rw [if_pos c12] at hf
        exact tq_forget _ (tq_le_s (tq_le_u (tq_le_s (tq_le_s (tq_le_u (tq_le_s tq_le_n)))))) (FX12_within_j72L36_x  h0 hf hk)
      · rw [if_neg c12] at hf
        refine tq_iconst (1 : Int32) rX12_within_68 (by decide) ?_
        refine tq_goto rX12_within_69 ?_
        exact tq_forget _ (tq_le_s (tq_le_u (tq_le_s (tq_le_s (tq_le_u (tq_le_s tq_le_n)))))) (FX12_within_j73L36_x  h0 hf hk)

set_option maxRecDepth 100000 in
set_option maxHeartbeats 4000000 in
theorem CX12_within {S : Nat × (Nat → Int32)} {d : Nat} {I : tq_PI} {L : tq_PL} {a0 : Nat} {a1 : Int32} {a2 : Int32} {a3 : Int32} (h0 : tq_sh0 a0 = 12) {out : Int32 × tq_PI} (hf : FX12_within I L a0 a1 a2 a3 = some out) : tq_K S mX12_within (d + 3) [.ref a0, .int a1, .int a2, .int a3] I L (tq_one2 (some (.int out.1)) out.2 L) := by
  unfold FX12_within at hf
  refine tq_K_of (by decide) (Nat.le_of_ble_eq_true rfl) (ls := [.ref a0, .int a1, .int a2, .int a3, tq_u, tq_u]) rfl ?_
  refine tq_aload_n rX12_within_0 rfl ?_
  refine tq_iload_n rX12_within_1 rfl ?_
  obtain ⟨p1, e1, hf⟩ := Option.bind_eq_some_iff.mp hf
  refine ty_callVI (tq_b p1.1) ([.int a1]) ([]) rX12_within_2 l_X12_381 moX12_isLog mvX12_isLog h0 rfl rfl (Nat.le_of_ble_eq_true rfl) ⟨rfl, rfl⟩ (CX12_isLog h0 e1) ?_
  refine tq_if_eq rX12_within_5 (fun c2 => ?_) (fun c2 => ?_)
  · rw [if_pos c2] at hf
    exact tq_forget _ (tq_le_u (tq_le_u (tq_le_u (tq_le_u (tq_le_u (tq_le_u tq_le_n)))))) (FX12_within_j28_x   hf ⟨rfl, rfl, rfl⟩)
  · rw [if_neg c2] at hf
    refine tq_iload_n rX12_within_8 rfl ?_
    refine tq_iconst (0 : Int32) rX12_within_9 (by decide) ?_
    refine tq_bipush (47 : Int32) rX12_within_10 (by decide) ?_
    obtain ⟨p3, e3, hf⟩ := tq_let_elim hf
    refine ty_callSI (tq_b p3) ([.int a2, .int (0 : Int32), .int (47 : Int32)]) ([]) rX12_within_12 l_X12_118 moX12_isIn msX12_isIn rfl rfl (Nat.le_of_ble_eq_true rfl) ⟨rfl, rfl⟩ (CX12_isIn  e3) ?_
    refine tq_if_eq rX12_within_15 (fun c4 => ?_) (fun c4 => ?_)
    · rw [if_pos c4] at hf
      exact tq_forget _ (tq_le_u (tq_le_u (tq_le_u (tq_le_u (tq_le_u (tq_le_u tq_le_n)))))) (FX12_within_j28_x   hf ⟨rfl, rfl, rfl⟩)
    · rw [if_neg c4] at hf
      refine tq_iload_n rX12_within_18 rfl ?_
      refine tq_iconst (0 : Int32) rX12_within_19 (by decide) ?_
      refine tq_bipush (12 : Int32) rX12_within_20 (by decide) ?_
      obtain ⟨p5, e5, hf⟩ := tq_let_elim hf
      refine ty_callSI (tq_b p5) ([.int a3, .int (0 : Int32), .int (12 : Int32)]) ([]) rX12_within_22 l_X12_118 moX12_isIn msX12_isIn rfl rfl (Nat.le_of_ble_eq_true rfl) ⟨rfl, rfl⟩ (CX12_isIn  e5) ?_
      refine tq_if_ne rX12_within_25 (fun c6 => ?_) (fun c6 => ?_)
      · rw [if_neg c6] at hf
        refine tq_iconst (0 : Int32) rX12_within_30 (by decide) ?_
        refine tq_istore ([.ref a0, .int a1, .int a2, .int a3, .int (0 : Int32), tq_u]) rX12_within_31 (Nat.le_of_ble_eq_true rfl) rfl ?_
        refine tq_iconst (0 : Int32) rX12_within_33 (by decide) ?_
        refine tq_istore ([.ref a0, .int a1, .int a2, .int a3, .int (0 : Int32), .int (0 : Int32)]) rX12_within_34 (Nat.le_of_ble_eq_true rfl) rfl ?_
        obtain ⟨p13, e13, hf⟩ := Option.bind_eq_some_iff.mp hf
        refine tq_forget _ (tq_le_s (tq_le_u (tq_le_s (tq_le_s (tq_le_s (tq_le_s tq_le_n)))))) ?_
        refine tq_it_elim (P := fun p : Int32 × Int32 => tq_X S mX12_within (d + 3) tq_k0 36 ([.ref a0, tq_u, .int a2, .int a3, .int p.1, .int p.2]) [] (tq_st p1.2 L) (tq_Q (tq_one2 (some (.int out.1)) out.2 L))) (R := fun p : Int32 => tq_X S mX12_within (d + 3) tq_k0 82 ([tq_u, tq_u, tq_u, tq_u, .int p, tq_u]) [] (tq_st p1.2 L) (tq_Q (tq_one2 (some (.int out.1)) out.2 L))) (fun p o hp hk => FX12_within_s36_x  h0 hp hk) _ (((0 : Int32), (0 : Int32))) _ e13 ?_
        show tq_X _ _ _ _ _ _ _ _ _
        refine tq_iload rX12_within_82 rfl ?_
        refine ty_iret rX12_within_84 rfl rfl ?_
        have hf := Option.some.inj hf
        subst hf
        exact ⟨rfl, rfl, rfl⟩
      · rw [if_pos c6] at hf
        exact tq_forget _ (tq_le_u (tq_le_u (tq_le_u (tq_le_u (tq_le_u (tq_le_u tq_le_n)))))) (FX12_within_j28_x   hf ⟨rfl, rfl, rfl⟩)

abbrev mX12_codeOf : tq_M := (yX12_codeOf, cX12_codeOf, 5, (Option.some Jvm.ClassFile.FieldType.int), 0, 0)
theorem f_X12_399 : tq_fok RX12 399 12 35 := ⟨by decide, by decide, Or.inl (tq_sg6 _ (List.mem_of_getElem? (i := 108) rfl))⟩
theorem f_X12_57 : tq_fok RX12 57 12 36 := ⟨by decide, by decide, Or.inl (tq_sg6 _ (List.mem_of_getElem? (i := 109) rfl))⟩
theorem f_X12_60 : tq_fok RX12 60 12 37 := ⟨by decide, by decide, Or.inl (tq_sg6 _ (List.mem_of_getElem? (i := 110) rfl))⟩
theorem k_X12_402 : Cond.constant RX12 402 (268435456) ∈ lw_tbl := tq_sg8 _ (List.mem_of_getElem? (i := 162) rfl)
theorem rX12_codeOf_0 : tq_D cX12_codeOf 0 (.aload_n 0) 1 1 := ⟨by decide +kernel, rfl⟩
theorem rX12_codeOf_1 : tq_D cX12_codeOf 1 (.getfield 7) 3 4 := ⟨by decide +kernel, rfl⟩
theorem rX12_codeOf_4 : tq_D cX12_codeOf 4 (.aload_n 0) 1 5 := ⟨by decide +kernel, rfl⟩
theorem rX12_codeOf_5 : tq_D cX12_codeOf 5 (.getfield 399) 3 8 := ⟨by decide +kernel, rfl⟩
theorem rX12_codeOf_8 : tq_D cX12_codeOf 8 (.iaload) 1 9 := ⟨by decide +kernel, rfl⟩
theorem rX12_codeOf_9 : tq_D cX12_codeOf 9 (.istore_n 1) 1 10 := ⟨by decide +kernel, rfl⟩
theorem rX12_codeOf_10 : tq_D cX12_codeOf 10 (.iload_n 1) 1 11 := ⟨by decide +kernel, rfl⟩
theorem rX12_codeOf_11 : tq_D cX12_codeOf 11 (.iconst 2) 1 12 := ⟨by decide +kernel, rfl⟩
theorem rX12_codeOf_12 : tq_J cX12_codeOf 12 (.if_icmp .ge) 35 15 := ⟨23, by decide +kernel, by decide, rfl⟩
theorem rX12_codeOf_15 : tq_D cX12_codeOf 15 (.iload_n 1) 1 16 := ⟨by decide +kernel, rfl⟩
theorem rX12_codeOf_16 : tq_J cX12_codeOf 16 (.ifCond .ne) 23 19 := ⟨7, by decide +kernel, by decide, rfl⟩
theorem rX12_codeOf_19 : tq_D cX12_codeOf 19 (.iconst 0) 1 20 := ⟨by decide +kernel, rfl⟩
theorem rX12_codeOf_20 : tq_J cX12_codeOf 20 .goto 34 23 := ⟨14, by decide +kernel, by decide, rfl⟩
theorem rX12_codeOf_23 : tq_D cX12_codeOf 23 (.aload_n 0) 1 24 := ⟨by decide +kernel, rfl⟩
theorem rX12_codeOf_24 : tq_D cX12_codeOf 24 (.getfield 7) 3 27 := ⟨by decide +kernel, rfl⟩
theorem rX12_codeOf_27 : tq_D cX12_codeOf 27 (.aload_n 0) 1 28 := ⟨by decide +kernel, rfl⟩
theorem rX12_codeOf_28 : tq_D cX12_codeOf 28 (.getfield 399) 3 31 := ⟨by decide +kernel, rfl⟩
theorem rX12_codeOf_31 : tq_D cX12_codeOf 31 (.iconst 1) 1 32 := ⟨by decide +kernel, rfl⟩
theorem rX12_codeOf_32 : tq_D cX12_codeOf 32 (.iadd) 1 33 := ⟨by decide +kernel, rfl⟩
theorem rX12_codeOf_33 : tq_D cX12_codeOf 33 (.iaload) 1 34 := ⟨by decide +kernel, rfl⟩
theorem rX12_codeOf_34 : decode cX12_codeOf 34 = .ok (.ireturn, 1) := by decide +kernel
theorem rX12_codeOf_35 : tq_D cX12_codeOf 35 (.iconst 0) 1 36 := ⟨by decide +kernel, rfl⟩
theorem rX12_codeOf_36 : tq_D cX12_codeOf 36 (.istore_n 2) 1 37 := ⟨by decide +kernel, rfl⟩
theorem rX12_codeOf_37 : tq_D cX12_codeOf 37 (.iload_n 2) 1 38 := ⟨by decide +kernel, rfl⟩
theorem rX12_codeOf_38 : tq_D cX12_codeOf 38 (.iconst 1) 1 39 := ⟨by decide +kernel, rfl⟩
theorem rX12_codeOf_39 : tq_D cX12_codeOf 39 (.iload_n 1) 1 40 := ⟨by decide +kernel, rfl⟩
theorem rX12_codeOf_40 : tq_D cX12_codeOf 40 (.ishl) 1 41 := ⟨by decide +kernel, rfl⟩
theorem rX12_codeOf_41 : tq_J cX12_codeOf 41 (.if_icmp .ge) 208 44 := ⟨167, by decide +kernel, by decide, rfl⟩
theorem rX12_codeOf_44 : tq_D cX12_codeOf 44 (.aload_n 0) 1 45 := ⟨by decide +kernel, rfl⟩
theorem rX12_codeOf_45 : tq_D cX12_codeOf 45 (.getfield 57) 3 48 := ⟨by decide +kernel, rfl⟩
theorem rX12_codeOf_48 : tq_D cX12_codeOf 48 (.iload_n 2) 1 49 := ⟨by decide +kernel, rfl⟩
theorem rX12_codeOf_49 : tq_D cX12_codeOf 49 (.iconst 0) 1 50 := ⟨by decide +kernel, rfl⟩
theorem rX12_codeOf_50 : tq_D cX12_codeOf 50 (.iastore) 1 51 := ⟨by decide +kernel, rfl⟩
theorem rX12_codeOf_51 : tq_D cX12_codeOf 51 (.iconst 0) 1 52 := ⟨by decide +kernel, rfl⟩
theorem rX12_codeOf_52 : tq_D cX12_codeOf 52 (.istore_n 3) 1 53 := ⟨by decide +kernel, rfl⟩
theorem rX12_codeOf_53 : tq_D cX12_codeOf 53 (.iload_n 3) 1 54 := ⟨by decide +kernel, rfl⟩
theorem rX12_codeOf_54 : tq_D cX12_codeOf 54 (.iload_n 1) 1 55 := ⟨by decide +kernel, rfl⟩
theorem rX12_codeOf_55 : tq_J cX12_codeOf 55 (.if_icmp .ge) 99 58 := ⟨44, by decide +kernel, by decide, rfl⟩
theorem rX12_codeOf_58 : tq_D cX12_codeOf 58 (.aload_n 0) 1 59 := ⟨by decide +kernel, rfl⟩
theorem rX12_codeOf_59 : tq_D cX12_codeOf 59 (.getfield 57) 3 62 := ⟨by decide +kernel, rfl⟩
theorem rX12_codeOf_62 : tq_D cX12_codeOf 62 (.iload_n 2) 1 63 := ⟨by decide +kernel, rfl⟩
theorem rX12_codeOf_63 : tq_D cX12_codeOf 63 (.dup2) 1 64 := ⟨by decide +kernel, rfl⟩
theorem rX12_codeOf_64 : tq_D cX12_codeOf 64 (.iaload) 1 65 := ⟨by decide +kernel, rfl⟩
theorem rX12_codeOf_65 : tq_D cX12_codeOf 65 (.iload_n 2) 1 66 := ⟨by decide +kernel, rfl⟩
theorem rX12_codeOf_66 : tq_D cX12_codeOf 66 (.iload_n 3) 1 67 := ⟨by decide +kernel, rfl⟩
theorem rX12_codeOf_67 : tq_D cX12_codeOf 67 (.ishr) 1 68 := ⟨by decide +kernel, rfl⟩
theorem rX12_codeOf_68 : tq_D cX12_codeOf 68 (.iconst 1) 1 69 := ⟨by decide +kernel, rfl⟩
theorem rX12_codeOf_69 : tq_D cX12_codeOf 69 (.iand) 1 70 := ⟨by decide +kernel, rfl⟩
theorem rX12_codeOf_70 : tq_D cX12_codeOf 70 (.iconst 1) 1 71 := ⟨by decide +kernel, rfl⟩
theorem rX12_codeOf_71 : tq_J cX12_codeOf 71 (.if_icmp .ne) 90 74 := ⟨19, by decide +kernel, by decide, rfl⟩
theorem rX12_codeOf_74 : tq_D cX12_codeOf 74 (.aload_n 0) 1 75 := ⟨by decide +kernel, rfl⟩
theorem rX12_codeOf_75 : tq_D cX12_codeOf 75 (.getfield 7) 3 78 := ⟨by decide +kernel, rfl⟩
theorem rX12_codeOf_78 : tq_D cX12_codeOf 78 (.aload_n 0) 1 79 := ⟨by decide +kernel, rfl⟩
theorem rX12_codeOf_79 : tq_D cX12_codeOf 79 (.getfield 399) 3 82 := ⟨by decide +kernel, rfl⟩
theorem rX12_codeOf_82 : tq_D cX12_codeOf 82 (.iconst 1) 1 83 := ⟨by decide +kernel, rfl⟩
theorem rX12_codeOf_83 : tq_D cX12_codeOf 83 (.iadd) 1 84 := ⟨by decide +kernel, rfl⟩
theorem rX12_codeOf_84 : tq_D cX12_codeOf 84 (.iload_n 3) 1 85 := ⟨by decide +kernel, rfl⟩
theorem rX12_codeOf_85 : tq_D cX12_codeOf 85 (.iadd) 1 86 := ⟨by decide +kernel, rfl⟩
theorem rX12_codeOf_86 : tq_D cX12_codeOf 86 (.iaload) 1 87 := ⟨by decide +kernel, rfl⟩
theorem rX12_codeOf_87 : tq_J cX12_codeOf 87 .goto 91 90 := ⟨4, by decide +kernel, by decide, rfl⟩
theorem rX12_codeOf_90 : tq_D cX12_codeOf 90 (.iconst 0) 1 91 := ⟨by decide +kernel, rfl⟩
theorem rX12_codeOf_91 : tq_D cX12_codeOf 91 (.iadd) 1 92 := ⟨by decide +kernel, rfl⟩
theorem rX12_codeOf_92 : tq_D cX12_codeOf 92 (.iastore) 1 93 := ⟨by decide +kernel, rfl⟩
theorem rX12_codeOf_93 : tq_D cX12_codeOf 93 (.iinc 3 1) 3 96 := ⟨by decide +kernel, rfl⟩
theorem rX12_codeOf_96 : tq_J cX12_codeOf 96 .goto 53 99 := ⟨(-43), by decide +kernel, by decide, rfl⟩
theorem rX12_codeOf_99 : tq_D cX12_codeOf 99 (.aload_n 0) 1 100 := ⟨by decide +kernel, rfl⟩
theorem rX12_codeOf_100 : tq_D cX12_codeOf 100 (.getfield 60) 3 103 := ⟨by decide +kernel, rfl⟩
theorem rX12_codeOf_103 : tq_D cX12_codeOf 103 (.iload_n 2) 1 104 := ⟨by decide +kernel, rfl⟩
theorem rX12_codeOf_104 : tq_D cX12_codeOf 104 (.iload_n 2) 1 105 := ⟨by decide +kernel, rfl⟩
theorem rX12_codeOf_105 : tq_D cX12_codeOf 105 (.iload_n 2) 1 106 := ⟨by decide +kernel, rfl⟩
theorem rX12_codeOf_106 : tq_D cX12_codeOf 106 (.iconst 1) 1 107 := ⟨by decide +kernel, rfl⟩
theorem rX12_codeOf_107 : tq_D cX12_codeOf 107 (.isub) 1 108 := ⟨by decide +kernel, rfl⟩
theorem rX12_codeOf_108 : tq_D cX12_codeOf 108 (.iand) 1 109 := ⟨by decide +kernel, rfl⟩
theorem rX12_codeOf_109 : tq_J cX12_codeOf 109 (.ifCond .ne) 116 112 := ⟨7, by decide +kernel, by decide, rfl⟩
theorem rX12_codeOf_112 : tq_D cX12_codeOf 112 (.iconst 0) 1 113 := ⟨by decide +kernel, rfl⟩
theorem rX12_codeOf_113 : tq_J cX12_codeOf 113 .goto 119 116 := ⟨6, by decide +kernel, by decide, rfl⟩
theorem rX12_codeOf_116 : tq_D cX12_codeOf 116 (.ldc_w 402) 3 119 := ⟨by decide +kernel, rfl⟩
theorem rX12_codeOf_119 : tq_D cX12_codeOf 119 (.iastore) 1 120 := ⟨by decide +kernel, rfl⟩
theorem rX12_codeOf_120 : tq_D cX12_codeOf 120 (.iload_n 2) 1 121 := ⟨by decide +kernel, rfl⟩
theorem rX12_codeOf_121 : tq_D cX12_codeOf 121 (.iconst 1) 1 122 := ⟨by decide +kernel, rfl⟩
theorem rX12_codeOf_122 : tq_D cX12_codeOf 122 (.isub) 1 123 := ⟨by decide +kernel, rfl⟩
theorem rX12_codeOf_123 : tq_D cX12_codeOf 123 (.iload_n 2) 1 124 := ⟨by decide +kernel, rfl⟩
theorem rX12_codeOf_124 : tq_D cX12_codeOf 124 (.iand) 1 125 := ⟨by decide +kernel, rfl⟩
theorem rX12_codeOf_125 : tq_D cX12_codeOf 125 (.istore_n 3) 1 126 := ⟨by decide +kernel, rfl⟩
theorem rX12_codeOf_126 : tq_D cX12_codeOf 126 (.iload_n 3) 1 127 := ⟨by decide +kernel, rfl⟩
theorem rX12_codeOf_127 : tq_J cX12_codeOf 127 (.ifCond .le) 202 130 := ⟨75, by decide +kernel, by decide, rfl⟩
theorem rX12_codeOf_130 : tq_D cX12_codeOf 130 (.aload_n 0) 1 131 := ⟨by decide +kernel, rfl⟩
theorem rX12_codeOf_131 : tq_D cX12_codeOf 131 (.getfield 60) 3 134 := ⟨by decide +kernel, rfl⟩
theorem rX12_codeOf_134 : tq_D cX12_codeOf 134 (.iload_n 3) 1 135 := ⟨by decide +kernel, rfl⟩
theorem rX12_codeOf_135 : tq_D cX12_codeOf 135 (.iaload) 1 136 := ⟨by decide +kernel, rfl⟩
theorem rX12_codeOf_136 : tq_D cX12_codeOf 136 (.aload_n 0) 1 137 := ⟨by decide +kernel, rfl⟩
theorem rX12_codeOf_137 : tq_D cX12_codeOf 137 (.getfield 60) 3 140 := ⟨by decide +kernel, rfl⟩
theorem rX12_codeOf_140 : tq_D cX12_codeOf 140 (.iload_n 2) 1 141 := ⟨by decide +kernel, rfl⟩
theorem rX12_codeOf_141 : tq_D cX12_codeOf 141 (.iload_n 3) 1 142 := ⟨by decide +kernel, rfl⟩
theorem rX12_codeOf_142 : tq_D cX12_codeOf 142 (.ixor) 1 143 := ⟨by decide +kernel, rfl⟩
theorem rX12_codeOf_143 : tq_D cX12_codeOf 143 (.iaload) 1 144 := ⟨by decide +kernel, rfl⟩
theorem rX12_codeOf_144 : tq_D cX12_codeOf 144 (.iadd) 1 145 := ⟨by decide +kernel, rfl⟩
theorem rX12_codeOf_145 : tq_D cX12_codeOf 145 (.aload_n 0) 1 146 := ⟨by decide +kernel, rfl⟩
theorem rX12_codeOf_146 : tq_D cX12_codeOf 146 (.getfield 57) 3 149 := ⟨by decide +kernel, rfl⟩
theorem rX12_codeOf_149 : tq_D cX12_codeOf 149 (.iload_n 3) 1 150 := ⟨by decide +kernel, rfl⟩
theorem rX12_codeOf_150 : tq_D cX12_codeOf 150 (.iaload) 1 151 := ⟨by decide +kernel, rfl⟩
theorem rX12_codeOf_151 : tq_D cX12_codeOf 151 (.iadd) 1 152 := ⟨by decide +kernel, rfl⟩
theorem rX12_codeOf_152 : tq_D cX12_codeOf 152 (.iconst 2) 1 153 := ⟨by decide +kernel, rfl⟩
theorem rX12_codeOf_153 : tq_D cX12_codeOf 153 (.aload_n 0) 1 154 := ⟨by decide +kernel, rfl⟩
theorem rX12_codeOf_154 : tq_D cX12_codeOf 154 (.getfield 57) 3 157 := ⟨by decide +kernel, rfl⟩
theorem rX12_codeOf_157 : tq_D cX12_codeOf 157 (.iload_n 2) 1 158 := ⟨by decide +kernel, rfl⟩
theorem rX12_codeOf_158 : tq_D cX12_codeOf 158 (.iload_n 3) 1 159 := ⟨by decide +kernel, rfl⟩
theorem rX12_codeOf_159 : tq_D cX12_codeOf 159 (.ixor) 1 160 := ⟨by decide +kernel, rfl⟩
theorem rX12_codeOf_160 : tq_D cX12_codeOf 160 (.iaload) 1 161 := ⟨by decide +kernel, rfl⟩
theorem rX12_codeOf_161 : tq_D cX12_codeOf 161 (.imul) 1 162 := ⟨by decide +kernel, rfl⟩
theorem rX12_codeOf_162 : tq_D cX12_codeOf 162 (.iadd) 1 163 := ⟨by decide +kernel, rfl⟩
theorem rX12_codeOf_163 : tq_D cX12_codeOf 163 (.istore 4) 2 165 := ⟨by decide +kernel, rfl⟩
theorem rX12_codeOf_165 : tq_D cX12_codeOf 165 (.aload_n 0) 1 166 := ⟨by decide +kernel, rfl⟩
theorem rX12_codeOf_166 : tq_D cX12_codeOf 166 (.getfield 60) 3 169 := ⟨by decide +kernel, rfl⟩
theorem rX12_codeOf_169 : tq_D cX12_codeOf 169 (.iload_n 2) 1 170 := ⟨by decide +kernel, rfl⟩
theorem rX12_codeOf_170 : tq_D cX12_codeOf 170 (.iload 4) 2 172 := ⟨by decide +kernel, rfl⟩
theorem rX12_codeOf_172 : tq_D cX12_codeOf 172 (.aload_n 0) 1 173 := ⟨by decide +kernel, rfl⟩
theorem rX12_codeOf_173 : tq_D cX12_codeOf 173 (.getfield 60) 3 176 := ⟨by decide +kernel, rfl⟩
theorem rX12_codeOf_176 : tq_D cX12_codeOf 176 (.iload_n 2) 1 177 := ⟨by decide +kernel, rfl⟩
theorem rX12_codeOf_177 : tq_D cX12_codeOf 177 (.iaload) 1 178 := ⟨by decide +kernel, rfl⟩
theorem rX12_codeOf_178 : tq_J cX12_codeOf 178 (.if_icmp .ge) 186 181 := ⟨8, by decide +kernel, by decide, rfl⟩
theorem rX12_codeOf_181 : tq_D cX12_codeOf 181 (.iload 4) 2 183 := ⟨by decide +kernel, rfl⟩
theorem rX12_codeOf_183 : tq_J cX12_codeOf 183 .goto 192 186 := ⟨9, by decide +kernel, by decide, rfl⟩
theorem rX12_codeOf_186 : tq_D cX12_codeOf 186 (.aload_n 0) 1 187 := ⟨by decide +kernel, rfl⟩
theorem rX12_codeOf_187 : tq_D cX12_codeOf 187 (.getfield 60) 3 190 := ⟨by decide +kernel, rfl⟩
theorem rX12_codeOf_190 : tq_D cX12_codeOf 190 (.iload_n 2) 1 191 := ⟨by decide +kernel, rfl⟩
theorem rX12_codeOf_191 : tq_D cX12_codeOf 191 (.iaload) 1 192 := ⟨by decide +kernel, rfl⟩
theorem rX12_codeOf_192 : tq_D cX12_codeOf 192 (.iastore) 1 193 := ⟨by decide +kernel, rfl⟩
theorem rX12_codeOf_193 : tq_D cX12_codeOf 193 (.iload_n 3) 1 194 := ⟨by decide +kernel, rfl⟩
theorem rX12_codeOf_194 : tq_D cX12_codeOf 194 (.iconst 1) 1 195 := ⟨by decide +kernel, rfl⟩
theorem rX12_codeOf_195 : tq_D cX12_codeOf 195 (.isub) 1 196 := ⟨by decide +kernel, rfl⟩
theorem rX12_codeOf_196 : tq_D cX12_codeOf 196 (.iload_n 2) 1 197 := ⟨by decide +kernel, rfl⟩
theorem rX12_codeOf_197 : tq_D cX12_codeOf 197 (.iand) 1 198 := ⟨by decide +kernel, rfl⟩
theorem rX12_codeOf_198 : tq_D cX12_codeOf 198 (.istore_n 3) 1 199 := ⟨by decide +kernel, rfl⟩
theorem rX12_codeOf_199 : tq_J cX12_codeOf 199 .goto 126 202 := ⟨(-73), by decide +kernel, by decide, rfl⟩
theorem rX12_codeOf_202 : tq_D cX12_codeOf 202 (.iinc 2 1) 3 205 := ⟨by decide +kernel, rfl⟩
theorem rX12_codeOf_205 : tq_J cX12_codeOf 205 .goto 37 208 := ⟨(-168), by decide +kernel, by decide, rfl⟩
theorem rX12_codeOf_208 : tq_D cX12_codeOf 208 (.aload_n 0) 1 209 := ⟨by decide +kernel, rfl⟩
theorem rX12_codeOf_209 : tq_D cX12_codeOf 209 (.getfield 60) 3 212 := ⟨by decide +kernel, rfl⟩
theorem rX12_codeOf_212 : tq_D cX12_codeOf 212 (.iconst 1) 1 213 := ⟨by decide +kernel, rfl⟩
theorem rX12_codeOf_213 : tq_D cX12_codeOf 213 (.iload_n 1) 1 214 := ⟨by decide +kernel, rfl⟩
theorem rX12_codeOf_214 : tq_D cX12_codeOf 214 (.ishl) 1 215 := ⟨by decide +kernel, rfl⟩
theorem rX12_codeOf_215 : tq_D cX12_codeOf 215 (.iconst 1) 1 216 := ⟨by decide +kernel, rfl⟩
theorem rX12_codeOf_216 : tq_D cX12_codeOf 216 (.isub) 1 217 := ⟨by decide +kernel, rfl⟩
theorem rX12_codeOf_217 : tq_D cX12_codeOf 217 (.iaload) 1 218 := ⟨by decide +kernel, rfl⟩
theorem rX12_codeOf_218 : decode cX12_codeOf 218 = .ok (.ireturn, 1) := by decide +kernel
noncomputable def FX12_codeOf_j91L53 (I : tq_PI) (L : tq_PL) (a0 : Nat) (a1 : Int32) (a2 : Int32) (a3 : Int32) (b0 : Int32) (b1 : Int32) (b2 : Int32) (b3 : Nat) : Option ((Int32 × tq_PI) ⊕ (tq_PI)) :=
  (if 0 ≤ b2 ∧ b2 < 256 then some (.inl ((a3 + 1), (tq_up2 I b3 b2.toNatClampNeg (b1 + b0)))) else none)
noncomputable def FX12_codeOf_s53 (I : tq_PI) (L : tq_PL) (a0 : Nat) (a1 : Int32) (a2 : Int32) (a3 : Int32) : Option ((Int32 × tq_PI) ⊕ (tq_PI)) :=
  (if a1 ≤ a3 then some (.inr I) else (if 0 ≤ a2 ∧ a2 < 256 then (if ((a2 >>> (a3 &&& 31)) &&& (1 : Int32)) = (1 : Int32) then (if 0 ≤ (((I a0 35) + (1 : Int32)) + a3) ∧ (((I a0 35) + (1 : Int32)) + a3) < 4016 then (FX12_codeOf_j91L53 I L a0 a1 a2 a3 ((I (tq_rg a0 0) ((((I a0 35) + (1 : Int32)) + a3)).toNatClampNeg)) ((I (tq_rg a0 36) a2.toNatClampNeg)) a2 ((tq_rg a0 36))) else none) else (FX12_codeOf_j91L53 I L a0 a1 a2 a3 ((0 : Int32)) ((I (tq_rg a0 36) a2.toNatClampNeg)) a2 ((tq_rg a0 36)))) else none))
noncomputable def FX12_codeOf_j192L126 (I : tq_PI) (L : tq_PL) (a0 : Nat) (a1 : Int32) (a2 : Int32) (a3 : Int32) (b0 : Int32) (b1 : Int32) (b2 : Nat) : Option ((Int32 × tq_PI) ⊕ (tq_PI)) :=
  (if 0 ≤ b1 ∧ b1 < 256 then some (.inl (((a3 - (1 : Int32)) &&& a2), (tq_up2 I b2 b1.toNatClampNeg b0))) else none)
noncomputable def FX12_codeOf_s126 (I : tq_PI) (L : tq_PL) (a0 : Nat) (a1 : Int32) (a2 : Int32) (a3 : Int32) : Option ((Int32 × tq_PI) ⊕ (tq_PI)) :=
  (if a3 ≤ 0 then some (.inr I) else (if 0 ≤ a3 ∧ a3 < 256 then (if 0 ≤ (a2 ^^^ a3) ∧ (a2 ^^^ a3) < 256 then (if 0 ≤ a3 ∧ a3 < 256 then (if 0 ≤ (a2 ^^^ a3) ∧ (a2 ^^^ a3) < 256 then (if 0 ≤ a2 ∧ a2 < 256 then (if (I (tq_rg a0 37) a2.toNatClampNeg) ≤ ((((I (tq_rg a0 37) a3.toNatClampNeg) + (I (tq_rg a0 37) ((a2 ^^^ a3)).toNatClampNeg)) + (I (tq_rg a0 36) a3.toNatClampNeg)) + ((2 : Int32) * (I (tq_rg a0 36) ((a2 ^^^ a3)).toNatClampNeg))) then (if 0 ≤ a2 ∧ a2 < 256 then (FX12_codeOf_j192L126 I L a0 a1 a2 a3 ((I (tq_rg a0 37) a2.toNatClampNeg)) a2 ((tq_rg a0 37))) else none) else (FX12_codeOf_j192L126 I L a0 a1 a2 a3 (((((I (tq_rg a0 37) a3.toNatClampNeg) + (I (tq_rg a0 37) ((a2 ^^^ a3)).toNatClampNeg)) + (I (tq_rg a0 36) a3.toNatClampNeg)) + ((2 : Int32) * (I (tq_rg a0 36) ((a2 ^^^ a3)).toNatClampNeg)))) a2 ((tq_rg a0 37)))) else none) else none) else none) else none) else none))
noncomputable def FX12_codeOf_j119L37 (I : tq_PI) (L : tq_PL) (a0 : Nat) (a1 : Int32) (a2 : Int32) (b0 : Int32) (b1 : Int32) (b2 : Nat) : Option ((Int32 × tq_PI) ⊕ (tq_PI)) :=
  (if 0 ≤ b1 ∧ b1 < 256 then ((tq_it (fun p : Int32 × tq_PI => FX12_codeOf_s126 p.2 L a0 a1 a2 p.1) tq_N (((a2 - (1 : Int32)) &&& a2), (tq_up2 I b2 b1.toNatClampNeg b0))).bind fun p22 => some (.inl ((a2 + 1), p22))) else none)
noncomputable def FX12_codeOf_s37 (I : tq_PI) (L : tq_PL) (a0 : Nat) (a1 : Int32) (a2 : Int32) : Option ((Int32 × tq_PI) ⊕ (tq_PI)) :=
  (if ((1 : Int32) <<< (a1 &&& 31)) ≤ a2 then some (.inr I) else (if 0 ≤ a2 ∧ a2 < 256 then ((tq_it (fun p : Int32 × tq_PI => FX12_codeOf_s53 p.2 L a0 a1 a2 p.1) tq_N ((0 : Int32), (tq_up2 I (tq_rg a0 36) a2.toNatClampNeg (0 : Int32)))).bind fun p10 => (if (a2 &&& (a2 - (1 : Int32))) = 0 then (FX12_codeOf_j119L37 p10 L a0 a1 a2 ((0 : Int32)) a2 ((tq_rg a0 37))) else (FX12_codeOf_j119L37 p10 L a0 a1 a2 ((268435456 : Int32)) a2 ((tq_rg a0 37))))) else none))
noncomputable def FX12_codeOf (I : tq_PI) (L : tq_PL) (a0 : Nat) : Option (Int32 × tq_PI) :=
  (if 0 ≤ (I a0 35) ∧ (I a0 35) < 4016 then (if (2 : Int32) ≤ (I (tq_rg a0 0) ((I a0 35)).toNatClampNeg) then ((tq_it (fun p : Int32 × tq_PI => FX12_codeOf_s37 p.2 L a0 ((I (tq_rg a0 0) ((I a0 35)).toNatClampNeg)) p.1) tq_N ((0 : Int32), I)).bind fun p23 => (if 0 ≤ (((1 : Int32) <<< ((I (tq_rg a0 0) ((I a0 35)).toNatClampNeg) &&& 31)) - (1 : Int32)) ∧ (((1 : Int32) <<< ((I (tq_rg a0 0) ((I a0 35)).toNatClampNeg) &&& 31)) - (1 : Int32)) < 256 then some ((p23 (tq_rg a0 37) ((((1 : Int32) <<< ((I (tq_rg a0 0) ((I a0 35)).toNatClampNeg) &&& 31)) - (1 : Int32))).toNatClampNeg), p23) else none)) else (if (I (tq_rg a0 0) ((I a0 35)).toNatClampNeg) = 0 then some ((0 : Int32), I) else (if 0 ≤ ((I a0 35) + (1 : Int32)) ∧ ((I a0 35) + (1 : Int32)) < 4016 then some ((I (tq_rg a0 0) (((I a0 35) + (1 : Int32))).toNatClampNeg), I) else none))) else none)
set_option maxRecDepth 100000 in
set_option maxHeartbeats 4000000 in
theorem FX12_codeOf_j91L53_x {S : Nat × (Nat → Int32)} {d : Nat} {I : tq_PI} {L : tq_PL} {a0 : Nat} {a1 : Int32} {a2 : Int32} {a3 : Int32} {b0 : Int32} {b1 : Int32} {b2 : Int32} {b3 : Nat} (h0 : tq_sh0 a0 = 12) (k3 : tq_sh0 b3 = 100) (k3n : tq_ln0 b3 = 256) {q0 : Option Value → tq_PI → tq_PL → Prop} {out : (Int32 × tq_PI) ⊕ (tq_PI)} (hf : FX12_codeOf_j91L53 I L a0 a1 a2 a3 b0 b1 b2 b3 = some out) (hk : Sum.elim (fun p : Int32 × tq_PI => tq_X S mX12_codeOf d tq_k0 53 ([.ref a0, .int a1, .int a2, .int p.1, tq_u]) [] (tq_st p.2 L) (tq_Q q0)) (fun p : tq_PI => tq_X S mX12_codeOf d tq_k0 99 ([.ref a0, .int a1, .int a2, tq_u, tq_u]) [] (tq_st p L) (tq_Q q0)) out) : tq_X S mX12_codeOf d tq_k0 91 ([.ref a0, .int a1, .int a2, .int a3, tq_u]) ([.int b0, .int b1, .int b2, .ref b3]) (tq_st I L) (tq_Q q0) := by
  unfold FX12_codeOf_j91L53 at hf
  refine tq_iadd rX12_codeOf_91 ?_
  obtain ⟨g8, hf⟩ := tq_chk hf
  refine ty_iast (v := 256) rX12_codeOf_92 k3 k3n rfl (by decide) g8 ?_
  refine tq_iinc (a3 + 1) ([.ref a0, .int a1, .int a2, .int (a3 + 1), tq_u]) rX12_codeOf_93 rfl (tq_inc (by decide)) (Nat.le_of_ble_eq_true rfl) rfl ?_
  refine tq_goto rX12_codeOf_96 ?_
  have hf := Option.some.inj hf
  subst hf
  exact tq_forget _ (tq_le_s (tq_le_s (tq_le_s (tq_le_s (tq_le_u tq_le_n))))) hk

set_option maxRecDepth 100000 in
set_option maxHeartbeats 4000000 in
theorem FX12_codeOf_s53_x {S : Nat × (Nat → Int32)} {d : Nat} {I : tq_PI} {L : tq_PL} {a0 : Nat} {a1 : Int32} {a2 : Int32} {a3 : Int32} (h0 : tq_sh0 a0 = 12) {q0 : Option Value → tq_PI → tq_PL → Prop} {out : (Int32 × tq_PI) ⊕ (tq_PI)} (hf : FX12_codeOf_s53 I L a0 a1 a2 a3 = some out) (hk : Sum.elim (fun p : Int32 × tq_PI => tq_X S mX12_codeOf d tq_k0 53 ([.ref a0, .int a1, .int a2, .int p.1, tq_u]) [] (tq_st p.2 L) (tq_Q q0)) (fun p : tq_PI => tq_X S mX12_codeOf d tq_k0 99 ([.ref a0, .int a1, .int a2, tq_u, tq_u]) [] (tq_st p L) (tq_Q q0)) out) : tq_X S mX12_codeOf d tq_k0 53 ([.ref a0, .int a1, .int a2, .int a3, tq_u]) [] (tq_st I L) (tq_Q q0) := by
  unfold FX12_codeOf_s53 at hf
  refine tq_iload_n rX12_codeOf_53 rfl ?_
  refine tq_iload_n rX12_codeOf_54 rfl ?_
  refine tq_icmp_ge rX12_codeOf_55 (fun c5 => ?_) (fun c5 => ?_)
  · rw [if_pos c5] at hf
    have hf := Option.some.inj hf
    subst hf
    exact tq_forget _ (tq_le_s (tq_le_s (tq_le_s (tq_le_u (tq_le_u tq_le_n))))) hk
  · rw [if_neg c5] at hf
    refine tq_aload_n rX12_codeOf_58 rfl ?_
    refine ty_getR rX12_codeOf_59 f_X12_57 rfl h0 (hp_12_36 h0).1 ?_
    refine tq_iload_n rX12_codeOf_62 rfl ?_
    refine tq_dup2 rX12_codeOf_63 rfl rfl ?_
    obtain ⟨g6, hf⟩ := tq_chk hf
    refine ty_iald (v := 256) rX12_codeOf_64 (hp_12_36 h0).2.1 (hp_12_36 h0).2.2 rfl (by decide) g6 ?_
    refine tq_iload_n rX12_codeOf_65 rfl ?_
    refine tq_iload_n rX12_codeOf_66 rfl ?_
    refine tq_ishr rX12_codeOf_67 ?_
    refine tq_iconst (1 : Int32) rX12_codeOf_68 (by decide) ?_
    refine tq_iand rX12_codeOf_69 ?_
    refine tq_iconst (1 : Int32) rX12_codeOf_70 (by decide) ?_
    refine tq_icmp_ne rX12_codeOf_71 (fun c7 => ?_) (fun c7 => ?_)
    · rw [if_neg c7] at hf
      refine tq_iconst (0 : Int32) rX12_codeOf_90 (by decide) ?_
      exact tq_forget _ (tq_le_s (tq_le_s (tq_le_s (tq_le_s (tq_le_u tq_le_n))))) (FX12_codeOf_j91L53_x  h0 (hp_12_36 h0).2.1 (hp_12_36 h0).2.2 hf hk)
    · rw [if_pos c7] at hf
      refine tq_aload_n rX12_codeOf_74 rfl ?_
      refine ty_getR rX12_codeOf_75 f_X12_7 rfl h0 (hp_12_0 h0).1 ?_
      refine tq_aload_n rX12_codeOf_78 rfl ?_
      refine ty_getI rX12_codeOf_79 f_X12_399 rfl h0 ?_
      refine tq_iconst (1 : Int32) rX12_codeOf_82 (by decide) ?_
      refine tq_iadd rX12_codeOf_83 ?_
      refine tq_iload_n rX12_codeOf_84 rfl ?_
      refine tq_iadd rX12_codeOf_85 ?_
      obtain ⟨g9, hf⟩ := tq_chk hf
      refine ty_iald (v := 4016) rX12_codeOf_86 (hp_12_0 h0).2.1 (hp_12_0 h0).2.2 rfl (by decide) g9 ?_
      refine tq_goto rX12_codeOf_87 ?_
      exact tq_forget _ (tq_le_s (tq_le_s (tq_le_s (tq_le_s (tq_le_u tq_le_n))))) (FX12_codeOf_j91L53_x  h0 (hp_12_36 h0).2.1 (hp_12_36 h0).2.2 hf hk)

set_option maxRecDepth 100000 in
set_option maxHeartbeats 4000000 in
theorem FX12_codeOf_j192L126_x {S : Nat × (Nat → Int32)} {d : Nat} {I : tq_PI} {L : tq_PL} {a0 : Nat} {a1 : Int32} {a2 : Int32} {a3 : Int32} {b0 : Int32} {b1 : Int32} {b2 : Nat} (h0 : tq_sh0 a0 = 12) (k2 : tq_sh0 b2 = 100) (k2n : tq_ln0 b2 = 256) {q0 : Option Value → tq_PI → tq_PL → Prop} {out : (Int32 × tq_PI) ⊕ (tq_PI)} (hf : FX12_codeOf_j192L126 I L a0 a1 a2 a3 b0 b1 b2 = some out) (hk : Sum.elim (fun p : Int32 × tq_PI => tq_X S mX12_codeOf d tq_k0 126 ([.ref a0, .int a1, .int a2, .int p.1, tq_u]) [] (tq_st p.2 L) (tq_Q q0)) (fun p : tq_PI => tq_X S mX12_codeOf d tq_k0 202 ([.ref a0, .int a1, .int a2, tq_u, tq_u]) [] (tq_st p L) (tq_Q q0)) out) : tq_X S mX12_codeOf d tq_k0 192 ([.ref a0, .int a1, .int a2, .int a3, tq_u]) ([.int b0, .int b1, .ref b2]) (tq_st I L) (tq_Q q0) := by
  unfold FX12_codeOf_j192L126 at hf
  obtain ⟨g21, hf⟩ := tq_chk hf
  refine ty_iast (v := 256) rX12_codeOf_192 k2 k2n rfl (by decide) g21 ?_
  refine tq_iload_n rX12_codeOf_193 rfl ?_
  refine tq_iconst (1 : Int32) rX12_codeOf_194 (by decide) ?_
  refine tq_isub rX12_codeOf_195 ?_
  refine tq_iload_n rX12_codeOf_196 rfl ?_
  refine tq_iand rX12_codeOf_197 ?_
  refine tq_istore_n ([.ref a0, .int a1, .int a2, .int ((a3 - (1 : Int32)) &&& a2), tq_u]) rX12_codeOf_198 (Nat.le_of_ble_eq_true rfl) rfl ?_
  refine tq_goto rX12_codeOf_199 ?_
  have hf := Option.some.inj hf
  subst hf
  exact tq_forget _ (tq_le_s (tq_le_s (tq_le_s (tq_le_s (tq_le_u tq_le_n))))) hk

set_option maxRecDepth 100000 in
set_option maxHeartbeats 4000000 in
theorem FX12_codeOf_s126_x {S : Nat × (Nat → Int32)} {d : Nat} {I : tq_PI} {L : tq_PL} {a0 : Nat} {a1 : Int32} {a2 : Int32} {a3 : Int32} (h0 : tq_sh0 a0 = 12) {q0 : Option Value → tq_PI → tq_PL → Prop} {out : (Int32 × tq_PI) ⊕ (tq_PI)} (hf : FX12_codeOf_s126 I L a0 a1 a2 a3 = some out) (hk : Sum.elim (fun p : Int32 × tq_PI => tq_X S mX12_codeOf d tq_k0 126 ([.ref a0, .int a1, .int a2, .int p.1, tq_u]) [] (tq_st p.2 L) (tq_Q q0)) (fun p : tq_PI => tq_X S mX12_codeOf d tq_k0 202 ([.ref a0, .int a1, .int a2, tq_u, tq_u]) [] (tq_st p L) (tq_Q q0)) out) : tq_X S mX12_codeOf d tq_k0 126 ([.ref a0, .int a1, .int a2, .int a3, tq_u]) [] (tq_st I L) (tq_Q q0) := by
  unfold FX12_codeOf_s126 at hf
  refine tq_iload_n rX12_codeOf_126 rfl ?_
  refine tq_if_le rX12_codeOf_127 (fun c13 => ?_) (fun c13 => ?_)
  · rw [if_pos c13] at hf
    have hf := Option.some.inj hf
    subst hf
    exact tq_forget _ (tq_le_s (tq_le_s (tq_le_s (tq_le_u (tq_le_u tq_le_n))))) hk
  · rw [if_neg c13] at hf
    refine tq_aload_n rX12_codeOf_130 rfl ?_
    refine ty_getR rX12_codeOf_131 f_X12_60 rfl h0 (hp_12_37 h0).1 ?_
    refine tq_iload_n rX12_codeOf_134 rfl ?_
    obtain ⟨g14, hf⟩ := tq_chk hf
    refine ty_iald (v := 256) rX12_codeOf_135 (hp_12_37 h0).2.1 (hp_12_37 h0).2.2 rfl (by decide) g14 ?_
    refine tq_aload_n rX12_codeOf_136 rfl ?_
    refine ty_getR rX12_codeOf_137 f_X12_60 rfl h0 (hp_12_37 h0).1 ?_
    refine tq_iload_n rX12_codeOf_140 rfl ?_
    refine tq_iload_n rX12_codeOf_141 rfl ?_
    refine tq_ixor rX12_codeOf_142 ?_
    obtain ⟨g15, hf⟩ := tq_chk hf
    refine ty_iald (v := 256) rX12_codeOf_143 (hp_12_37 h0).2.1 (hp_12_37 h0).2.2 rfl (by decide) g15 ?_
    refine tq_iadd rX12_codeOf_144 ?_
    refine tq_aload_n rX12_codeOf_145 rfl ?_
    refine ty_getR rX12_codeOf_146 f_X12_57 rfl h0 (hp_12_36 h0).1 ?_
    refine tq_iload_n rX12_codeOf_149 rfl ?_
    obtain ⟨g16, hf⟩ := tq_chk hf
    refine ty_iald (v := 256) rX12_codeOf_150 (hp_12_36 h0).2.1 (hp_12_36 h0).2.2 rfl (by decide) g16 ?_
    refine tq_iadd rX12_codeOf_151 ?_
    refine tq_iconst (2 : Int32) rX12_codeOf_152 (by decide) ?_
    refine tq_aload_n rX12_codeOf_153 rfl ?_
    refine ty_getR rX12_codeOf_154 f_X12_57 rfl h0 (hp_12_36 h0).1 ?_
    refine tq_iload_n rX12_codeOf_157 rfl ?_
    refine tq_iload_n rX12_codeOf_158 rfl ?_
    refine tq_ixor rX12_codeOf_159 ?_
    obtain ⟨g17, hf⟩ := tq_chk hf
    refine ty_iald (v := 256) rX12_codeOf_160 (hp_12_36 h0).2.1 (hp_12_36 h0).2.2 rfl (by decide) g17 ?_
    refine tq_imul rX12_codeOf_161 ?_
    refine tq_iadd rX12_codeOf_162 ?_
    refine tq_istore ([.ref a0, .int a1, .int a2, .int a3, .int ((((I (tq_rg a0 37) a3.toNatClampNeg) + (I (tq_rg a0 37) ((a2 ^^^ a3)).toNatClampNeg)) + (I (tq_rg a0 36) a3.toNatClampNeg)) + ((2 : Int32) * (I (tq_rg a0 36) ((a2 ^^^ a3)).toNatClampNeg)))]) rX12_codeOf_163 (Nat.le_of_ble_eq_true rfl) rfl ?_
    refine tq_aload_n rX12_codeOf_165 rfl ?_
    refine ty_getR rX12_codeOf_166 f_X12_60 rfl h0 (hp_12_37 h0).1 ?_
    refine tq_iload_n rX12_codeOf_169 rfl ?_
    refine tq_iload rX12_codeOf_170 rfl ?_
    refine tq_aload_n rX12_codeOf_172 rfl ?_
    refine ty_getR rX12_codeOf_173 f_X12_60 rfl h0 (hp_12_37 h0).1 ?_
    refine tq_iload_n rX12_codeOf_176 rfl ?_
    obtain ⟨g18, hf⟩ := tq_chk hf
    refine ty_iald (v := 256) rX12_codeOf_177 (hp_12_37 h0).2.1 (hp_12_37 h0).2.2 rfl (by decide) g18 ?_
    refine tq_icmp_ge rX12_codeOf_178 (fun c19 => ?_) (fun c19 => ?_)
    · rw [if_pos c19] at hf
      refine tq_aload_n rX12_codeOf_186 rfl ?_
      refine ty_getR rX12_codeOf_187 f_X12_60 rfl h0 (hp_12_37 h0).1 ?_
      refine tq_iload_n rX12_codeOf_190 rfl ?_
      obtain ⟨g20, hf⟩ := tq_chk hf
      refine ty_iald (v := 256) rX12_codeOf_191 (hp_12_37 h0).2.1 (hp_12_37 h0).2.2 rfl (by decide) g20 ?_
      exact tq_forget _ (tq_le_s (tq_le_s (tq_le_s (tq_le_s (tq_le_u tq_le_n))))) (FX12_codeOf_j192L126_x  h0 (hp_12_37 h0).2.1 (hp_12_37 h0).2.2 hf hk)
    · rw [if_neg c19] at hf
      refine tq_iload rX12_codeOf_181 rfl ?_
      refine tq_goto rX12_codeOf_183 ?_
      exact tq_forget _ (tq_le_s (tq_le_s (tq_le_s (tq_le_s (tq_le_u tq_le_n))))) (FX12_codeOf_j192L126_x  h0 (hp_12_37 h0).2.1 (hp_12_37 h0).2.2 hf hk)

set_option maxRecDepth 100000 in
set_option maxHeartbeats 4000000 in
theorem FX12_codeOf_j119L37_x {S : Nat × (Nat → Int32)} {d : Nat} {I : tq_PI} {L : tq_PL} {a0 : Nat} {a1 : Int32} {a2 : Int32} {b0 : Int32} {b1 : Int32} {b2 : Nat} (h0 : tq_sh0 a0 = 12) (k2 : tq_sh0 b2 = 100) (k2n : tq_ln0 b2 = 256) {q0 : Option Value → tq_PI → tq_PL → Prop} {out : (Int32 × tq_PI) ⊕ (tq_PI)} (hf : FX12_codeOf_j119L37 I L a0 a1 a2 b0 b1 b2 = some out) (hk : Sum.elim (fun p : Int32 × tq_PI => tq_X S mX12_codeOf d tq_k0 37 ([.ref a0, .int a1, .int p.1, tq_u, tq_u]) [] (tq_st p.2 L) (tq_Q q0)) (fun p : tq_PI => tq_X S mX12_codeOf d tq_k0 208 ([.ref a0, .int a1, tq_u, tq_u, tq_u]) [] (tq_st p L) (tq_Q q0)) out) : tq_X S mX12_codeOf d tq_k0 119 ([.ref a0, .int a1, .int a2, tq_u, tq_u]) ([.int b0, .int b1, .ref b2]) (tq_st I L) (tq_Q q0) := by
  unfold FX12_codeOf_j119L37 at hf
  obtain ⟨g12, hf⟩ := tq_chk hf
  refine ty_iast (v := 256) rX12_codeOf_119 k2 k2n rfl (by decide) g12 ?_
  refine tq_iload_n rX12_codeOf_120 rfl ?_
  refine tq_iconst (1 : Int32) rX12_codeOf_121 (by decide) ?_
  refine tq_isub rX12_codeOf_122 ?_
  refine tq_iload_n rX12_codeOf_123 rfl ?_
  refine tq_iand rX12_codeOf_124 ?_
  refine tq_istore_n ([.ref a0, .int a1, .int a2, .int ((a2 - (1 : Int32)) &&& a2), tq_u]) rX12_codeOf_125 (Nat.le_of_ble_eq_true rfl) rfl ?_
  obtain ⟨p22, e22, hf⟩ := Option.bind_eq_some_iff.mp hf
  refine tq_forget _ (tq_le_s (tq_le_s (tq_le_s (tq_le_s (tq_le_u tq_le_n))))) ?_
  refine tq_it_elim (P := fun p : Int32 × tq_PI => tq_X S mX12_codeOf d tq_k0 126 ([.ref a0, .int a1, .int a2, .int p.1, tq_u]) [] (tq_st p.2 L) (tq_Q q0)) (R := fun p : tq_PI => tq_X S mX12_codeOf d tq_k0 202 ([.ref a0, .int a1, .int a2, tq_u, tq_u]) [] (tq_st p L) (tq_Q q0)) (fun p o hp hk => FX12_codeOf_s126_x  h0 hp hk) _ ((((a2 - (1 : Int32)) &&& a2), (tq_up2 I b2 b1.toNatClampNeg b0))) _ e22 ?_
  show tq_X _ _ _ _ _ _ _ _ _
  refine tq_iinc (a2 + 1) ([.ref a0, .int a1, .int (a2 + 1), tq_u, tq_u]) rX12_codeOf_202 rfl (tq_inc (by decide)) (Nat.le_of_ble_eq_true rfl) rfl ?_
  refine tq_goto rX12_codeOf_205 ?_
  have hf := Option.some.inj hf
  subst hf
  exact tq_forget _ (tq_le_s (tq_le_s (tq_le_s (tq_le_u (tq_le_u tq_le_n))))) hk

set_option maxRecDepth 100000 in
set_option maxHeartbeats 4000000 in
theorem FX12_codeOf_s37_x {S : Nat × (Nat → Int32)} {d : Nat} {I : tq_PI} {L : tq_PL} {a0 : Nat} {a1 : Int32} {a2 : Int32} (h0 : tq_sh0 a0 = 12) {q0 : Option Value → tq_PI → tq_PL → Prop} {out : (Int32 × tq_PI) ⊕ (tq_PI)} (hf : FX12_codeOf_s37 I L a0 a1 a2 = some out) (hk : Sum.elim (fun p : Int32 × tq_PI => tq_X S mX12_codeOf d tq_k0 37 ([.ref a0, .int a1, .int p.1, tq_u, tq_u]) [] (tq_st p.2 L) (tq_Q q0)) (fun p : tq_PI => tq_X S mX12_codeOf d tq_k0 208 ([.ref a0, .int a1, tq_u, tq_u, tq_u]) [] (tq_st p L) (tq_Q q0)) out) : tq_X S mX12_codeOf d tq_k0 37 ([.ref a0, .int a1, .int a2, tq_u, tq_u]) [] (tq_st I L) (tq_Q q0) := by
  unfold FX12_codeOf_s37 at hf
  refine tq_iload_n rX12_codeOf_37 rfl ?_
  refine tq_iconst (1 : Int32) rX12_codeOf_38 (by decide) ?_
  refine tq_iload_n rX12_codeOf_39 rfl ?_
  refine tq_ishl rX12_codeOf_40 ?_
  refine tq_icmp_ge rX12_codeOf_41 (fun c3 => ?_) (fun c3 => ?_)
  · rw [if_pos c3] at hf
    have hf := Option.some.inj hf
    subst hf
    exact tq_forget _ (tq_le_s (tq_le_s (tq_le_u (tq_le_u (tq_le_u tq_le_n))))) hk
  · rw [if_neg c3] at hf
    refine tq_aload_n rX12_codeOf_44 rfl ?_
    refine ty_getR rX12_codeOf_45 f_X12_57 rfl h0 (hp_12_36 h0).1 ?_
    refine tq_iload_n rX12_codeOf_48 rfl ?_
    refine tq_iconst (0 : Int32) rX12_codeOf_49 (by decide) ?_
    obtain ⟨g4, hf⟩ := tq_chk hf
    refine ty_iast (v := 256) rX12_codeOf_50 (hp_12_36 h0).2.1 (hp_12_36 h0).2.2 rfl (by decide) g4 ?_
    refine tq_iconst (0 : Int32) rX12_codeOf_51 (by decide) ?_
    refine tq_istore_n ([.ref a0, .int a1, .int a2, .int (0 : Int32), tq_u]) rX12_codeOf_52 (Nat.le_of_ble_eq_true rfl) rfl ?_
    obtain ⟨p10, e10, hf⟩ := Option.bind_eq_some_iff.mp hf
    refine tq_forget _ (tq_le_s (tq_le_s (tq_le_s (tq_le_s (tq_le_u tq_le_n))))) ?_
    refine tq_it_elim (P := fun p : Int32 × tq_PI => tq_X S mX12_codeOf d tq_k0 53 ([.ref a0, .int a1, .int a2, .int p.1, tq_u]) [] (tq_st p.2 L) (tq_Q q0)) (R := fun p : tq_PI => tq_X S mX12_codeOf d tq_k0 99 ([.ref a0, .int a1, .int a2, tq_u, tq_u]) [] (tq_st p L) (tq_Q q0)) (fun p o hp hk => FX12_codeOf_s53_x  h0 hp hk) _ (((0 : Int32), (tq_up2 I (tq_rg a0 36) a2.toNatClampNeg (0 : Int32)))) _ e10 ?_
    show tq_X _ _ _ _ _ _ _ _ _
    refine tq_aload_n rX12_codeOf_99 rfl ?_
    refine ty_getR rX12_codeOf_100 f_X12_60 rfl h0 (hp_12_37 h0).1 ?_
    refine tq_iload_n rX12_codeOf_103 rfl ?_
    refine tq_iload_n rX12_codeOf_104 rfl ?_
    refine tq_iload_n rX12_codeOf_105 rfl ?_
    refine tq_iconst (1 : Int32) rX12_codeOf_106 (by decide) ?_
    refine tq_isub rX12_codeOf_107 ?_
    refine tq_iand rX12_codeOf_108 ?_
    refine tq_if_ne rX12_codeOf_109 (fun c11 => ?_) (fun c11 => ?_)
    · rw [if_neg c11] at hf
      refine tq_ldcw rX12_codeOf_116 (k_X12_402) ?_
      exact tq_forget _ (tq_le_s (tq_le_s (tq_le_s (tq_le_u (tq_le_u tq_le_n))))) (FX12_codeOf_j119L37_x  h0 (hp_12_37 h0).2.1 (hp_12_37 h0).2.2 hf hk)
    · rw [if_pos c11] at hf
      refine tq_iconst (0 : Int32) rX12_codeOf_112 (by decide) ?_
      refine tq_goto rX12_codeOf_113 ?_
      exact tq_forget _ (tq_le_s (tq_le_s (tq_le_s (tq_le_u (tq_le_u tq_le_n))))) (FX12_codeOf_j119L37_x  h0 (hp_12_37 h0).2.1 (hp_12_37 h0).2.2 hf hk)

set_option maxRecDepth 100000 in
set_option maxHeartbeats 4000000 in
theorem CX12_codeOf {S : Nat × (Nat → Int32)} {d : Nat} {I : tq_PI} {L : tq_PL} {a0 : Nat} (h0 : tq_sh0 a0 = 12) {out : Int32 × tq_PI} (hf : FX12_codeOf I L a0 = some out) : tq_K S mX12_codeOf d [.ref a0] I L (tq_one2 (some (.int out.1)) out.2 L) := by
  unfold FX12_codeOf at hf
  refine tq_K_of (by decide) (Nat.le_of_ble_eq_true rfl) (ls := [.ref a0, tq_u, tq_u, tq_u, tq_u]) rfl ?_
  refine tq_aload_n rX12_codeOf_0 rfl ?_
  refine ty_getR rX12_codeOf_1 f_X12_7 rfl h0 (hp_12_0 h0).1 ?_
  refine tq_aload_n rX12_codeOf_4 rfl ?_
  refine ty_getI rX12_codeOf_5 f_X12_399 rfl h0 ?_
  obtain ⟨g1, hf⟩ := tq_chk hf
  refine ty_iald (v := 4016) rX12_codeOf_8 (hp_12_0 h0).2.1 (hp_12_0 h0).2.2 rfl (by decide) g1 ?_
  refine tq_istore_n ([.ref a0, .int (I (tq_rg a0 0) ((I a0 35)).toNatClampNeg), tq_u, tq_u, tq_u]) rX12_codeOf_9 (Nat.le_of_ble_eq_true rfl) rfl ?_
  refine tq_iload_n rX12_codeOf_10 rfl ?_
  refine tq_iconst (2 : Int32) rX12_codeOf_11 (by decide) ?_
  refine tq_icmp_ge rX12_codeOf_12 (fun c2 => ?_) (fun c2 => ?_)
  · rw [if_pos c2] at hf
    refine tq_iconst (0 : Int32) rX12_codeOf_35 (by decide) ?_
    refine tq_istore_n ([.ref a0, .int (I (tq_rg a0 0) ((I a0 35)).toNatClampNeg), .int (0 : Int32), tq_u, tq_u]) rX12_codeOf_36 (Nat.le_of_ble_eq_true rfl) rfl ?_
    obtain ⟨p23, e23, hf⟩ := Option.bind_eq_some_iff.mp hf
    refine tq_forget _ (tq_le_s (tq_le_s (tq_le_s (tq_le_u (tq_le_u tq_le_n))))) ?_
    refine tq_it_elim (P := fun p : Int32 × tq_PI => tq_X S mX12_codeOf d tq_k0 37 ([.ref a0, .int (I (tq_rg a0 0) ((I a0 35)).toNatClampNeg), .int p.1, tq_u, tq_u]) [] (tq_st p.2 L) (tq_Q (tq_one2 (some (.int out.1)) out.2 L))) (R := fun p : tq_PI => tq_X S mX12_codeOf d tq_k0 208 ([.ref a0, .int (I (tq_rg a0 0) ((I a0 35)).toNatClampNeg), tq_u, tq_u, tq_u]) [] (tq_st p L) (tq_Q (tq_one2 (some (.int out.1)) out.2 L))) (fun p o hp hk => FX12_codeOf_s37_x  h0 hp hk) _ (((0 : Int32), I)) _ e23 ?_
    show tq_X _ _ _ _ _ _ _ _ _
    refine tq_aload_n rX12_codeOf_208 rfl ?_
    refine ty_getR rX12_codeOf_209 f_X12_60 rfl h0 (hp_12_37 h0).1 ?_
    refine tq_iconst (1 : Int32) rX12_codeOf_212 (by decide) ?_
    refine tq_iload_n rX12_codeOf_213 rfl ?_
    refine tq_ishl rX12_codeOf_214 ?_
    refine tq_iconst (1 : Int32) rX12_codeOf_215 (by decide) ?_
    refine tq_isub rX12_codeOf_216 ?_
    obtain ⟨g24, hf⟩ := tq_chk hf
    refine ty_iald (v := 256) rX12_codeOf_217 (hp_12_37 h0).2.1 (hp_12_37 h0).2.2 rfl (by decide) g24 ?_
    refine ty_iret rX12_codeOf_218 rfl rfl ?_
    have hf := Option.some.inj hf
    subst hf
    exact ⟨rfl, rfl, rfl⟩
  · rw [if_neg c2] at hf
    refine tq_iload_n rX12_codeOf_15 rfl ?_
    refine tq_if_ne rX12_codeOf_16 (fun c25 => ?_) (fun c25 => ?_)
    · rw [if_neg c25] at hf
      refine tq_aload_n rX12_codeOf_23 rfl ?_
      refine ty_getR rX12_codeOf_24 f_X12_7 rfl h0 (hp_12_0 h0).1 ?_
      refine tq_aload_n rX12_codeOf_27 rfl ?_
      refine ty_getI rX12_codeOf_28 f_X12_399 rfl h0 ?_
      refine tq_iconst (1 : Int32) rX12_codeOf_31 (by decide) ?_
      refine tq_iadd rX12_codeOf_32 ?_
      obtain ⟨g26, hf⟩ := tq_chk hf
      refine ty_iald (v := 4016) rX12_codeOf_33 (hp_12_0 h0).2.1 (hp_12_0 h0).2.2 rfl (by decide) g26 ?_
      refine ty_iret rX12_codeOf_34 rfl rfl ?_
      have hf := Option.some.inj hf
      subst hf
      exact ⟨rfl, rfl, rfl⟩
    · rw [if_pos c25] at hf
      refine tq_iconst (0 : Int32) rX12_codeOf_19 (by decide) ?_
      refine tq_goto rX12_codeOf_20 ?_
      refine ty_iret rX12_codeOf_34 rfl rfl ?_
      have hf := Option.some.inj hf
      subst hf
      exact ⟨rfl, rfl, rfl⟩

