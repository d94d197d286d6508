/-! THE MIRROR, part 7: by program (wip/whole/gen_mirror.py). -/
abbrev mX12_hillLine : tq_M := (yX12_hillLine, cX12_hillLine, 4, (Option.none : Option Jvm.ClassFile.FieldType), 0, 0)
theorem moX12_endsLine : tq_mok mX12_endsLine 0 := ⟨tq_sg1 _ (List.mem_of_getElem? (i := 13) rfl), tq_sg7 _ (List.mem_of_getElem? (i := 23) rfl), ⟨by decide, by decide, by decide +kernel⟩, by decide⟩
theorem mvX12_endsLine : 12 < 13 ∧ (tq_cl 12).1 = mX12_endsLine.1.cls ∧ Cond.instanceMethod mX12_endsLine.1 ∈ lw_tbl ∧ Cond.selects mX12_endsLine.1.cls mX12_endsLine.1 mX12_endsLine.1 ∈ lw_tbl := ⟨by decide, rfl, tq_sg7 _ (List.mem_of_getElem? (i := 22) rfl), List.mem_append_left _ (List.mem_map.mpr ⟨_, List.mem_of_getElem? (i := 50) rfl, rfl⟩)⟩
theorem moX12_numbered : tq_mok mX12_numbered 2 := ⟨tq_sg1 _ (List.mem_of_getElem? (i := 13) rfl), tq_sg7 _ (List.mem_of_getElem? (i := 15) rfl), ⟨by decide, by decide, by decide +kernel⟩, by decide⟩
theorem mvX12_numbered : 12 < 13 ∧ (tq_cl 12).1 = mX12_numbered.1.cls ∧ Cond.instanceMethod mX12_numbered.1 ∈ lw_tbl ∧ Cond.selects mX12_numbered.1.cls mX12_numbered.1 mX12_numbered.1 ∈ lw_tbl := ⟨by decide, rfl, tq_sg7 _ (List.mem_of_getElem? (i := 14) rfl), List.mem_append_left _ (List.mem_map.mpr ⟨_, List.mem_of_getElem? (i := 48) rfl, rfl⟩)⟩
theorem moX12_wordIn : tq_mok mX12_wordIn 2 := ⟨tq_sg1 _ (List.mem_of_getElem? (i := 13) rfl), tq_sg7 _ (List.mem_of_getElem? (i := 7) rfl), ⟨by decide, by decide, by decide +kernel⟩, by decide⟩
theorem mvX12_wordIn : 12 < 13 ∧ (tq_cl 12).1 = mX12_wordIn.1.cls ∧ Cond.instanceMethod mX12_wordIn.1 ∈ lw_tbl ∧ Cond.selects mX12_wordIn.1.cls mX12_wordIn.1 mX12_wordIn.1 ∈ lw_tbl := ⟨by decide, rfl, tq_sg7 _ (List.mem_of_getElem? (i := 6) rfl), List.mem_append_left _ (List.mem_map.mpr ⟨_, List.mem_of_getElem? (i := 46) rfl, rfl⟩)⟩
theorem f_X12_136 : tq_fok RX12 136 12 9 := ⟨by decide, by decide, Or.inl (tq_sg6 _ (List.mem_of_getElem? (i := 82) rfl))⟩
theorem f_X12_139 : tq_fok RX12 139 12 10 := ⟨by decide, by decide, Or.inl (tq_sg6 _ (List.mem_of_getElem? (i := 83) rfl))⟩
theorem f_X12_17 : tq_fok RX12 17 12 11 := ⟨by decide, by decide, Or.inl (tq_sg6 _ (List.mem_of_getElem? (i := 84) rfl))⟩
theorem l_X12_129 : tq_lok RX12 129 mX12_wordIn.1 := Or.inl (tq_sg7 _ (List.mem_of_getElem? (i := 4) rfl))
theorem l_X12_133 : tq_lok RX12 133 mX12_numbered.1 := Or.inl (tq_sg7 _ (List.mem_of_getElem? (i := 12) rfl))
theorem l_X12_142 : tq_lok RX12 142 mX12_endsLine.1 := Or.inl (tq_sg7 _ (List.mem_of_getElem? (i := 20) rfl))
theorem rX12_hillLine_0 : tq_D cX12_hillLine 0 (.aload_n 0) 1 1 := ⟨by decide +kernel, rfl⟩
theorem rX12_hillLine_1 : tq_D cX12_hillLine 1 (.iconst 1) 1 2 := ⟨by decide +kernel, rfl⟩
theorem rX12_hillLine_2 : tq_D cX12_hillLine 2 (.bipush 6) 2 4 := ⟨by decide +kernel, rfl⟩
theorem rX12_hillLine_4 : tq_D cX12_hillLine 4 (.invokevirtual 129) 3 7 := ⟨by decide +kernel, rfl⟩
theorem rX12_hillLine_7 : tq_D cX12_hillLine 7 (.istore_n 1) 1 8 := ⟨by decide +kernel, rfl⟩
theorem rX12_hillLine_8 : tq_D cX12_hillLine 8 (.iload_n 1) 1 9 := ⟨by decide +kernel, rfl⟩
theorem rX12_hillLine_9 : tq_D cX12_hillLine 9 (.iconst 1) 1 10 := ⟨by decide +kernel, rfl⟩
theorem rX12_hillLine_10 : tq_J cX12_hillLine 10 (.if_icmp .ne) 42 13 := ⟨32, by decide +kernel, by decide, rfl⟩
theorem rX12_hillLine_13 : tq_D cX12_hillLine 13 (.aload_n 0) 1 14 := ⟨by decide +kernel, rfl⟩
theorem rX12_hillLine_14 : tq_D cX12_hillLine 14 (.getfield 17) 3 17 := ⟨by decide +kernel, rfl⟩
theorem rX12_hillLine_17 : tq_D cX12_hillLine 17 (.iconst 0) 1 18 := ⟨by decide +kernel, rfl⟩
theorem rX12_hillLine_18 : tq_D cX12_hillLine 18 (.aload_n 0) 1 19 := ⟨by decide +kernel, rfl⟩
theorem rX12_hillLine_19 : tq_D cX12_hillLine 19 (.iconst 2) 1 20 := ⟨by decide +kernel, rfl⟩
theorem rX12_hillLine_20 : tq_D cX12_hillLine 20 (.bipush 8) 2 22 := ⟨by decide +kernel, rfl⟩
theorem rX12_hillLine_22 : tq_D cX12_hillLine 22 (.invokevirtual 133) 3 25 := ⟨by decide +kernel, rfl⟩
theorem rX12_hillLine_25 : tq_D cX12_hillLine 25 (.iastore) 1 26 := ⟨by decide +kernel, rfl⟩
theorem rX12_hillLine_26 : tq_D cX12_hillLine 26 (.aload_n 0) 1 27 := ⟨by decide +kernel, rfl⟩
theorem rX12_hillLine_27 : tq_D cX12_hillLine 27 (.getfield 17) 3 30 := ⟨by decide +kernel, rfl⟩
theorem rX12_hillLine_30 : tq_D cX12_hillLine 30 (.iconst 1) 1 31 := ⟨by decide +kernel, rfl⟩
theorem rX12_hillLine_31 : tq_D cX12_hillLine 31 (.aload_n 0) 1 32 := ⟨by decide +kernel, rfl⟩
theorem rX12_hillLine_32 : tq_D cX12_hillLine 32 (.iconst 2) 1 33 := ⟨by decide +kernel, rfl⟩
theorem rX12_hillLine_33 : tq_D cX12_hillLine 33 (.bipush 6) 2 35 := ⟨by decide +kernel, rfl⟩
theorem rX12_hillLine_35 : tq_D cX12_hillLine 35 (.invokevirtual 133) 3 38 := ⟨by decide +kernel, rfl⟩
theorem rX12_hillLine_38 : tq_D cX12_hillLine 38 (.iastore) 1 39 := ⟨by decide +kernel, rfl⟩
theorem rX12_hillLine_39 : tq_J cX12_hillLine 39 .goto 120 42 := ⟨81, by decide +kernel, by decide, rfl⟩
theorem rX12_hillLine_42 : tq_D cX12_hillLine 42 (.aload_n 0) 1 43 := ⟨by decide +kernel, rfl⟩
theorem rX12_hillLine_43 : tq_D cX12_hillLine 43 (.iconst 0) 1 44 := ⟨by decide +kernel, rfl⟩
theorem rX12_hillLine_44 : tq_D cX12_hillLine 44 (.bipush 7) 2 46 := ⟨by decide +kernel, rfl⟩
theorem rX12_hillLine_46 : tq_D cX12_hillLine 46 (.invokevirtual 133) 3 49 := ⟨by decide +kernel, rfl⟩
theorem rX12_hillLine_49 : tq_D cX12_hillLine 49 (.istore_n 2) 1 50 := ⟨by decide +kernel, rfl⟩
theorem rX12_hillLine_50 : tq_D cX12_hillLine 50 (.aload_n 0) 1 51 := ⟨by decide +kernel, rfl⟩
theorem rX12_hillLine_51 : tq_D cX12_hillLine 51 (.iconst 0) 1 52 := ⟨by decide +kernel, rfl⟩
theorem rX12_hillLine_52 : tq_D cX12_hillLine 52 (.iconst 5) 1 53 := ⟨by decide +kernel, rfl⟩
theorem rX12_hillLine_53 : tq_D cX12_hillLine 53 (.invokevirtual 133) 3 56 := ⟨by decide +kernel, rfl⟩
theorem rX12_hillLine_56 : tq_D cX12_hillLine 56 (.istore_n 3) 1 57 := ⟨by decide +kernel, rfl⟩
theorem rX12_hillLine_57 : tq_D cX12_hillLine 57 (.aload_n 0) 1 58 := ⟨by decide +kernel, rfl⟩
theorem rX12_hillLine_58 : tq_D cX12_hillLine 58 (.iload_n 2) 1 59 := ⟨by decide +kernel, rfl⟩
theorem rX12_hillLine_59 : tq_D cX12_hillLine 59 (.aload_n 0) 1 60 := ⟨by decide +kernel, rfl⟩
theorem rX12_hillLine_60 : tq_D cX12_hillLine 60 (.getfield 136) 3 63 := ⟨by decide +kernel, rfl⟩
theorem rX12_hillLine_63 : tq_J cX12_hillLine 63 (.if_icmp .le) 70 66 := ⟨7, by decide +kernel, by decide, rfl⟩
theorem rX12_hillLine_66 : tq_D cX12_hillLine 66 (.iload_n 2) 1 67 := ⟨by decide +kernel, rfl⟩
theorem rX12_hillLine_67 : tq_J cX12_hillLine 67 .goto 74 70 := ⟨7, by decide +kernel, by decide, rfl⟩
theorem rX12_hillLine_70 : tq_D cX12_hillLine 70 (.aload_n 0) 1 71 := ⟨by decide +kernel, rfl⟩
theorem rX12_hillLine_71 : tq_D cX12_hillLine 71 (.getfield 136) 3 74 := ⟨by decide +kernel, rfl⟩
theorem rX12_hillLine_74 : tq_D cX12_hillLine 74 (.putfield 136) 3 77 := ⟨by decide +kernel, rfl⟩
theorem rX12_hillLine_77 : tq_D cX12_hillLine 77 (.aload_n 0) 1 78 := ⟨by decide +kernel, rfl⟩
theorem rX12_hillLine_78 : tq_D cX12_hillLine 78 (.iload_n 3) 1 79 := ⟨by decide +kernel, rfl⟩
theorem rX12_hillLine_79 : tq_D cX12_hillLine 79 (.aload_n 0) 1 80 := ⟨by decide +kernel, rfl⟩
theorem rX12_hillLine_80 : tq_D cX12_hillLine 80 (.getfield 139) 3 83 := ⟨by decide +kernel, rfl⟩
theorem rX12_hillLine_83 : tq_J cX12_hillLine 83 (.if_icmp .le) 90 86 := ⟨7, by decide +kernel, by decide, rfl⟩
theorem rX12_hillLine_86 : tq_D cX12_hillLine 86 (.iload_n 3) 1 87 := ⟨by decide +kernel, rfl⟩
theorem rX12_hillLine_87 : tq_J cX12_hillLine 87 .goto 94 90 := ⟨7, by decide +kernel, by decide, rfl⟩
theorem rX12_hillLine_90 : tq_D cX12_hillLine 90 (.aload_n 0) 1 91 := ⟨by decide +kernel, rfl⟩
theorem rX12_hillLine_91 : tq_D cX12_hillLine 91 (.getfield 139) 3 94 := ⟨by decide +kernel, rfl⟩
theorem rX12_hillLine_94 : tq_D cX12_hillLine 94 (.putfield 139) 3 97 := ⟨by decide +kernel, rfl⟩
theorem rX12_hillLine_97 : tq_D cX12_hillLine 97 (.aload_n 0) 1 98 := ⟨by decide +kernel, rfl⟩
theorem rX12_hillLine_98 : tq_D cX12_hillLine 98 (.getfield 111) 3 101 := ⟨by decide +kernel, rfl⟩
theorem rX12_hillLine_101 : tq_J cX12_hillLine 101 (.ifCond .ne) 120 104 := ⟨19, by decide +kernel, by decide, rfl⟩
theorem rX12_hillLine_104 : tq_D cX12_hillLine 104 (.aload_n 0) 1 105 := ⟨by decide +kernel, rfl⟩
theorem rX12_hillLine_105 : tq_D cX12_hillLine 105 (.getfield 17) 3 108 := ⟨by decide +kernel, rfl⟩
theorem rX12_hillLine_108 : tq_D cX12_hillLine 108 (.iconst 2) 1 109 := ⟨by decide +kernel, rfl⟩
theorem rX12_hillLine_109 : tq_D cX12_hillLine 109 (.bipush 8) 2 111 := ⟨by decide +kernel, rfl⟩
theorem rX12_hillLine_111 : tq_D cX12_hillLine 111 (.iload_n 3) 1 112 := ⟨by decide +kernel, rfl⟩
theorem rX12_hillLine_112 : tq_D cX12_hillLine 112 (.imul) 1 113 := ⟨by decide +kernel, rfl⟩
theorem rX12_hillLine_113 : tq_D cX12_hillLine 113 (.iadd) 1 114 := ⟨by decide +kernel, rfl⟩
theorem rX12_hillLine_114 : tq_D cX12_hillLine 114 (.iload_n 2) 1 115 := ⟨by decide +kernel, rfl⟩
theorem rX12_hillLine_115 : tq_D cX12_hillLine 115 (.iadd) 1 116 := ⟨by decide +kernel, rfl⟩
theorem rX12_hillLine_116 : tq_D cX12_hillLine 116 (.iload_n 1) 1 117 := ⟨by decide +kernel, rfl⟩
theorem rX12_hillLine_117 : tq_D cX12_hillLine 117 (.iconst 2) 1 118 := ⟨by decide +kernel, rfl⟩
theorem rX12_hillLine_118 : tq_D cX12_hillLine 118 (.isub) 1 119 := ⟨by decide +kernel, rfl⟩
theorem rX12_hillLine_119 : tq_D cX12_hillLine 119 (.iastore) 1 120 := ⟨by decide +kernel, rfl⟩
theorem rX12_hillLine_120 : tq_D cX12_hillLine 120 (.aload_n 0) 1 121 := ⟨by decide +kernel, rfl⟩
theorem rX12_hillLine_121 : tq_D cX12_hillLine 121 (.invokevirtual 142) 3 124 := ⟨by decide +kernel, rfl⟩
theorem rX12_hillLine_124 : decode cX12_hillLine 124 = .ok (.return_, 1) := by decide +kernel
noncomputable def FX12_hillLine_j120 (I : tq_PI) (L : tq_PL) (a0 : Nat) : Option (tq_PI) :=
  ((FX12_endsLine I L a0).bind fun p8 => some p8)
noncomputable def FX12_hillLine_j94 (I : tq_PI) (L : tq_PL) (a0 : Nat) (a1 : Int32) (a2 : Int32) (a3 : Int32) (b0 : Int32) (b1 : Nat) : Option (tq_PI) :=
  (if (((tq_up2 I b1 10 b0)) a0 8) = 0 then (if 0 ≤ (((2 : Int32) + ((8 : Int32) * a3)) + a2) ∧ (((2 : Int32) + ((8 : Int32) * a3)) + a2) < 121 then (FX12_hillLine_j120 ((tq_up2 (tq_up2 I b1 10 b0) (tq_rg a0 11) ((((2 : Int32) + ((8 : Int32) * a3)) + a2)).toNatClampNeg (a1 - (2 : Int32)))) L a0) else none) else (FX12_hillLine_j120 ((tq_up2 I b1 10 b0)) L a0))
noncomputable def FX12_hillLine_j74 (I : tq_PI) (L : tq_PL) (a0 : Nat) (a1 : Int32) (a2 : Int32) (a3 : Int32) (b0 : Int32) (b1 : Nat) : Option (tq_PI) :=
  (if a3 ≤ (((tq_up2 I b1 9 b0)) a0 10) then (FX12_hillLine_j94 ((tq_up2 I b1 9 b0)) L a0 a1 a2 a3 ((((tq_up2 I b1 9 b0)) a0 10)) a0) else (FX12_hillLine_j94 ((tq_up2 I b1 9 b0)) L a0 a1 a2 a3 a3 a0))
noncomputable def FX12_hillLine (I : tq_PI) (L : tq_PL) (a0 : Nat) : Option (tq_PI) :=
  ((FX12_wordIn I L a0 ((1 : Int32)) ((6 : Int32))).bind fun p1 => (if p1.1 = (1 : Int32) then ((FX12_numbered p1.2 L a0 ((2 : Int32)) ((8 : Int32))).bind fun p10 => (if 0 ≤ (0 : Int32) ∧ (0 : Int32) < 121 then ((FX12_numbered ((tq_up2 p10.2 (tq_rg a0 11) ((0 : Int32)).toNatClampNeg p10.1)) L a0 ((2 : Int32)) ((6 : Int32))).bind fun p12 => (if 0 ≤ (1 : Int32) ∧ (1 : Int32) < 121 then (FX12_hillLine_j120 ((tq_up2 p12.2 (tq_rg a0 11) ((1 : Int32)).toNatClampNeg p12.1)) L a0) else none)) else none)) else ((FX12_numbered p1.2 L a0 ((0 : Int32)) ((7 : Int32))).bind fun p3 => ((FX12_numbered p3.2 L a0 ((0 : Int32)) ((5 : Int32))).bind fun p4 => (if p3.1 ≤ (p4.2 a0 9) then (FX12_hillLine_j74 p4.2 L a0 p1.1 p3.1 p4.1 ((p4.2 a0 9)) a0) else (FX12_hillLine_j74 p4.2 L a0 p1.1 p3.1 p4.1 p3.1 a0))))))
set_option maxRecDepth 100000 in
set_option maxHeartbeats 4000000 in
theorem FX12_hillLine_j120_x {S : Nat × (Nat → Int32)} {d : Nat} {I : tq_PI} {L : tq_PL} {a0 : Nat} (h0 : tq_sh0 a0 = 12) {q0 : Option Value → tq_PI → tq_PL → Prop} {out : tq_PI} (hf : FX12_hillLine_j120 I L a0 = some out) (hk : q0 none out L) : tq_X S mX12_hillLine (d + 5) tq_k0 120 ([.ref a0, tq_u, tq_u, tq_u]) ([]) (tq_st I L) (tq_Q q0) := by
  unfold FX12_hillLine_j120 at hf
  refine tq_aload_n rX12_hillLine_120 rfl ?_
  obtain ⟨p8, e8, hf⟩ := Option.bind_eq_some_iff.mp hf
  refine ty_callVV ([]) ([]) rX12_hillLine_121 l_X12_142 moX12_endsLine mvX12_endsLine h0 rfl rfl (Nat.le_of_ble_eq_true rfl) ⟨rfl, rfl⟩ (CX12_endsLine h0 e8) ?_
  refine ty_vret rX12_hillLine_124 rfl rfl ?_
  have hf := Option.some.inj hf
  subst hf
  exact hk

set_option maxRecDepth 100000 in
set_option maxHeartbeats 4000000 in
theorem FX12_hillLine_j94_x {S : Nat × (Nat → Int32)} {d : Nat} {I : tq_PI} {L : tq_PL} {a0 : Nat} {a1 : Int32} {a2 : Int32} {a3 : Int32} {b0 : Int32} {b1 : Nat} (h0 : tq_sh0 a0 = 12) (k1 : tq_sh0 b1 = 12) {q0 : Option Value → tq_PI → tq_PL → Prop} {out : tq_PI} (hf : FX12_hillLine_j94 I L a0 a1 a2 a3 b0 b1 = some out) (hk : q0 none out L) : tq_X S mX12_hillLine (d + 5) tq_k0 94 ([.ref a0, .int a1, .int a2, .int a3]) ([.int b0, .ref b1]) (tq_st I L) (tq_Q q0) := by
  unfold FX12_hillLine_j94 at hf
  refine ty_putI rX12_hillLine_94 f_X12_139 rfl k1 rfl ?_
  refine tq_aload_n rX12_hillLine_97 rfl ?_
  refine ty_getI rX12_hillLine_98 f_X12_111 rfl h0 ?_
  refine tq_if_ne rX12_hillLine_101 (fun c7 => ?_) (fun c7 => ?_)
  · rw [if_neg c7] at hf
    exact tq_forget _ (tq_le_s (tq_le_u (tq_le_u (tq_le_u tq_le_n)))) (FX12_hillLine_j120_x  h0 hf hk)
  · rw [if_pos c7] at hf
    refine tq_aload_n rX12_hillLine_104 rfl ?_
    refine ty_getR rX12_hillLine_105 f_X12_17 rfl h0 (hp_12_11 h0).1 ?_
    refine tq_iconst (2 : Int32) rX12_hillLine_108 (by decide) ?_
    refine tq_bipush (8 : Int32) rX12_hillLine_109 (by decide) ?_
    refine tq_iload_n rX12_hillLine_111 rfl ?_
    refine tq_imul rX12_hillLine_112 ?_
    refine tq_iadd rX12_hillLine_113 ?_
    refine tq_iload_n rX12_hillLine_114 rfl ?_
    refine tq_iadd rX12_hillLine_115 ?_
    refine tq_iload_n rX12_hillLine_116 rfl ?_
    refine tq_iconst (2 : Int32) rX12_hillLine_117 (by decide) ?_
    refine tq_isub rX12_hillLine_118 ?_
    obtain ⟨g9, hf⟩ := tq_chk hf
    refine ty_iast (v := 121) rX12_hillLine_119 (hp_12_11 h0).2.1 (hp_12_11 h0).2.2 rfl (by decide) g9 ?_
    exact tq_forget _ (tq_le_s (tq_le_u (tq_le_u (tq_le_u tq_le_n)))) (FX12_hillLine_j120_x  h0 hf hk)

set_option maxRecDepth 100000 in
set_option maxHeartbeats 4000000 in
theorem FX12_hillLine_j74_x {S : Nat × (Nat → Int32)} {d : Nat} {I : tq_PI} {L : tq_PL} {a0 : Nat} {a1 : Int32} {a2 : Int32} {a3 : Int32} {b0 : Int32} {b1 : Nat} (h0 : tq_sh0 a0 = 12) (k1 : tq_sh0 b1 = 12) {q0 : Option Value → tq_PI → tq_PL → Prop} {out : tq_PI} (hf : FX12_hillLine_j74 I L a0 a1 a2 a3 b0 b1 = some out) (hk : q0 none out L) : tq_X S mX12_hillLine (d + 5) tq_k0 74 ([.ref a0, .int a1, .int a2, .int a3]) ([.int b0, .ref b1]) (tq_st I L) (tq_Q q0) := by
  unfold FX12_hillLine_j74 at hf
  refine ty_putI rX12_hillLine_74 f_X12_136 rfl k1 rfl ?_
  refine tq_aload_n rX12_hillLine_77 rfl ?_
  refine tq_iload_n rX12_hillLine_78 rfl ?_
  refine tq_aload_n rX12_hillLine_79 rfl ?_
  refine ty_getI rX12_hillLine_80 f_X12_139 rfl h0 ?_
  refine tq_icmp_le rX12_hillLine_83 (fun c6 => ?_) (fun c6 => ?_)
  · rw [if_pos c6] at hf
    refine tq_aload_n rX12_hillLine_90 rfl ?_
    refine ty_getI rX12_hillLine_91 f_X12_139 rfl h0 ?_
    exact tq_forget _ (tq_le_s (tq_le_s (tq_le_s (tq_le_s tq_le_n)))) (FX12_hillLine_j94_x  h0 h0 hf hk)
  · rw [if_neg c6] at hf
    refine tq_iload_n rX12_hillLine_86 rfl ?_
    refine tq_goto rX12_hillLine_87 ?_
    exact tq_forget _ (tq_le_s (tq_le_s (tq_le_s (tq_le_s tq_le_n)))) (FX12_hillLine_j94_x  h0 h0 hf hk)

set_option maxRecDepth 100000 in
set_option maxHeartbeats 4000000 in
theorem CX12_hillLine {S : Nat × (Nat → Int32)} {d : Nat} {I : tq_PI} {L : tq_PL} {a0 : Nat} (h0 : tq_sh0 a0 = 12) {out : tq_PI} (hf : FX12_hillLine I L a0 = some out) : tq_K S mX12_hillLine (d + 5) [.ref a0] I L (tq_one2 (none) out L) := by
  unfold FX12_hillLine at hf
  refine tq_K_of (by decide) (Nat.le_of_ble_eq_true rfl) (ls := [.ref a0, tq_u, tq_u, tq_u]) rfl ?_
  refine tq_aload_n rX12_hillLine_0 rfl ?_
  refine tq_iconst (1 : Int32) rX12_hillLine_1 (by decide) ?_
  refine tq_bipush (6 : Int32) rX12_hillLine_2 (by decide) ?_
  obtain ⟨p1, e1, hf⟩ := Option.bind_eq_some_iff.mp hf
  refine ty_callVI p1.1 ([.int (1 : Int32), .int (6 : Int32)]) ([]) rX12_hillLine_4 l_X12_129 moX12_wordIn mvX12_wordIn h0 rfl rfl (Nat.le_of_ble_eq_true rfl) ⟨rfl, rfl⟩ (CX12_wordIn h0 e1) ?_
  refine tq_istore_n ([.ref a0, .int p1.1, tq_u, tq_u]) rX12_hillLine_7 (Nat.le_of_ble_eq_true rfl) rfl ?_
  refine tq_iload_n rX12_hillLine_8 rfl ?_
  refine tq_iconst (1 : Int32) rX12_hillLine_9 (by decide) ?_
  refine tq_icmp_ne rX12_hillLine_10 (fun c2 => ?_) (fun c2 => ?_)
  · rw [if_neg c2] at hf
    refine tq_aload_n rX12_hillLine_42 rfl ?_
    refine tq_iconst (0 : Int32) rX12_hillLine_43 (by decide) ?_
    refine tq_bipush (7 : Int32) rX12_hillLine_44 (by decide) ?_
    obtain ⟨p3, e3, hf⟩ := Option.bind_eq_some_iff.mp hf
    refine ty_callVI p3.1 ([.int (0 : Int32), .int (7 : Int32)]) ([]) rX12_hillLine_46 l_X12_133 moX12_numbered mvX12_numbered h0 rfl rfl (Nat.le_of_ble_eq_true rfl) ⟨rfl, rfl⟩ (CX12_numbered h0 e3) ?_
    refine tq_istore_n ([.ref a0, .int p1.1, .int p3.1, tq_u]) rX12_hillLine_49 (Nat.le_of_ble_eq_true rfl) rfl ?_
    refine tq_aload_n rX12_hillLine_50 rfl ?_
    refine tq_iconst (0 : Int32) rX12_hillLine_51 (by decide) ?_
    refine tq_iconst (5 : Int32) rX12_hillLine_52 (by decide) ?_
    obtain ⟨p4, e4, hf⟩ := Option.bind_eq_some_iff.mp hf
    refine ty_callVI p4.1 ([.int (0 : Int32), .int (5 : Int32)]) ([]) rX12_hillLine_53 l_X12_133 moX12_numbered mvX12_numbered h0 rfl rfl (Nat.le_of_ble_eq_true rfl) ⟨rfl, rfl⟩ (CX12_numbered h0 e4) ?_
    refine tq_istore_n ([.ref a0, .int p1.1, .int p3.1, .int p4.1]) rX12_hillLine_56 (Nat.le_of_ble_eq_true rfl) rfl ?_
    refine tq_aload_n rX12_hillLine_57 rfl ?_
    refine tq_iload_n rX12_hillLine_58 rfl ?_
    refine tq_aload_n rX12_hillLine_59 rfl ?_
    refine ty_getI rX12_hillLine_60 f_X12_136 rfl h0 ?_
    refine tq_icmp_le rX12_hillLine_63 (fun c5 => ?_) (fun c5 => ?_)
    · rw [if_pos c5] at hf
      refine tq_aload_n rX12_hillLine_70 rfl ?_
      refine ty_getI rX12_hillLine_71 f_X12_136 rfl h0 ?_
      exact tq_forget _ (tq_le_s (tq_le_s (tq_le_s (tq_le_s tq_le_n)))) (FX12_hillLine_j74_x  h0 h0 hf ⟨rfl, rfl, rfl⟩)
    · rw [if_neg c5] at hf
      refine tq_iload_n rX12_hillLine_66 rfl ?_
      refine tq_goto rX12_hillLine_67 ?_
      exact tq_forget _ (tq_le_s (tq_le_s (tq_le_s (tq_le_s tq_le_n)))) (FX12_hillLine_j74_x  h0 h0 hf ⟨rfl, rfl, rfl⟩)
  · rw [if_pos c2] at hf
    refine tq_aload_n rX12_hillLine_13 rfl ?_
    refine ty_getR rX12_hillLine_14 f_X12_17 rfl h0 (hp_12_11 h0).1 ?_
    refine tq_iconst (0 : Int32) rX12_hillLine_17 (by decide) ?_
    refine tq_aload_n rX12_hillLine_18 rfl ?_
    refine tq_iconst (2 : Int32) rX12_hillLine_19 (by decide) ?_
    refine tq_bipush (8 : Int32) rX12_hillLine_20 (by decide) ?_
    obtain ⟨p10, e10, hf⟩ := Option.bind_eq_some_iff.mp hf
    refine ty_callVI p10.1 ([.int (2 : Int32), .int (8 : Int32)]) ([.int (0 : Int32), .ref (tq_rg a0 11)]) rX12_hillLine_22 l_X12_133 moX12_numbered mvX12_numbered h0 rfl rfl (Nat.le_of_ble_eq_true rfl) ⟨rfl, rfl⟩ (CX12_numbered h0 e10) ?_
    obtain ⟨g11, hf⟩ := tq_chk hf
    refine ty_iast (v := 121) rX12_hillLine_25 (hp_12_11 h0).2.1 (hp_12_11 h0).2.2 rfl (by decide) g11 ?_
    refine tq_aload_n rX12_hillLine_26 rfl ?_
    refine ty_getR rX12_hillLine_27 f_X12_17 rfl h0 (hp_12_11 h0).1 ?_
    refine tq_iconst (1 : Int32) rX12_hillLine_30 (by decide) ?_
    refine tq_aload_n rX12_hillLine_31 rfl ?_
    refine tq_iconst (2 : Int32) rX12_hillLine_32 (by decide) ?_
    refine tq_bipush (6 : Int32) rX12_hillLine_33 (by decide) ?_
    obtain ⟨p12, e12, hf⟩ := Option.bind_eq_some_iff.mp hf
    refine ty_callVI p12.1 ([.int (2 : Int32), .int (6 : Int32)]) ([.int (1 : Int32), .ref (tq_rg a0 11)]) rX12_hillLine_35 l_X12_133 moX12_numbered mvX12_numbered h0 rfl rfl (Nat.le_of_ble_eq_true rfl) ⟨rfl, rfl⟩ (CX12_numbered h0 e12) ?_
    obtain ⟨g13, hf⟩ := tq_chk hf
    refine ty_iast (v := 121) rX12_hillLine_38 (hp_12_11 h0).2.1 (hp_12_11 h0).2.2 rfl (by decide) g13 ?_
    refine tq_goto rX12_hillLine_39 ?_
    exact tq_forget _ (tq_le_s (tq_le_u (tq_le_u (tq_le_u tq_le_n)))) (FX12_hillLine_j120_x  h0 hf ⟨rfl, rfl, rfl⟩)

abbrev mX12_yearLine : tq_M := (yX12_yearLine, cX12_yearLine, 7, (Option.none : Option Jvm.ClassFile.FieldType), 0, 0)
theorem rX12_yearLine_0 : tq_D cX12_yearLine 0 (.aload_n 0) 1 1 := ⟨by decide +kernel, rfl⟩
theorem rX12_yearLine_1 : tq_D cX12_yearLine 1 (.getfield 84) 3 4 := ⟨by decide +kernel, rfl⟩
theorem rX12_yearLine_4 : tq_D cX12_yearLine 4 (.istore_n 1) 1 5 := ⟨by decide +kernel, rfl⟩
theorem rX12_yearLine_5 : tq_D cX12_yearLine 5 (.aload_n 0) 1 6 := ⟨by decide +kernel, rfl⟩
theorem rX12_yearLine_6 : tq_D cX12_yearLine 6 (.bipush 6) 2 8 := ⟨by decide +kernel, rfl⟩
theorem rX12_yearLine_8 : tq_D cX12_yearLine 8 (.bipush 9) 2 10 := ⟨by decide +kernel, rfl⟩
theorem rX12_yearLine_10 : tq_D cX12_yearLine 10 (.invokevirtual 129) 3 13 := ⟨by decide +kernel, rfl⟩
theorem rX12_yearLine_13 : tq_D cX12_yearLine 13 (.bipush 6) 2 15 := ⟨by decide +kernel, rfl⟩
theorem rX12_yearLine_15 : tq_D cX12_yearLine 15 (.isub) 1 16 := ⟨by decide +kernel, rfl⟩
theorem rX12_yearLine_16 : tq_D cX12_yearLine 16 (.istore_n 2) 1 17 := ⟨by decide +kernel, rfl⟩
theorem rX12_yearLine_17 : tq_D cX12_yearLine 17 (.iload_n 2) 1 18 := ⟨by decide +kernel, rfl⟩
theorem rX12_yearLine_18 : tq_J cX12_yearLine 18 (.ifCond .ne) 25 21 := ⟨7, by decide +kernel, by decide, rfl⟩
theorem rX12_yearLine_21 : tq_D cX12_yearLine 21 (.iconst 2) 1 22 := ⟨by decide +kernel, rfl⟩
theorem rX12_yearLine_22 : tq_J cX12_yearLine 22 .goto 37 25 := ⟨15, by decide +kernel, by decide, rfl⟩
theorem rX12_yearLine_25 : tq_D cX12_yearLine 25 (.iload_n 2) 1 26 := ⟨by decide +kernel, rfl⟩
theorem rX12_yearLine_26 : tq_D cX12_yearLine 26 (.iconst 3) 1 27 := ⟨by decide +kernel, rfl⟩
theorem rX12_yearLine_27 : tq_J cX12_yearLine 27 (.if_icmp .ne) 34 30 := ⟨7, by decide +kernel, by decide, rfl⟩
theorem rX12_yearLine_30 : tq_D cX12_yearLine 30 (.iconst 3) 1 31 := ⟨by decide +kernel, rfl⟩
theorem rX12_yearLine_31 : tq_J cX12_yearLine 31 .goto 37 34 := ⟨6, by decide +kernel, by decide, rfl⟩
theorem rX12_yearLine_34 : tq_D cX12_yearLine 34 (.iload_n 2) 1 35 := ⟨by decide +kernel, rfl⟩
theorem rX12_yearLine_35 : tq_D cX12_yearLine 35 (.iconst 1) 1 36 := ⟨by decide +kernel, rfl⟩
theorem rX12_yearLine_36 : tq_D cX12_yearLine 36 (.isub) 1 37 := ⟨by decide +kernel, rfl⟩
theorem rX12_yearLine_37 : tq_D cX12_yearLine 37 (.istore_n 3) 1 38 := ⟨by decide +kernel, rfl⟩
theorem rX12_yearLine_38 : tq_D cX12_yearLine 38 (.aload_n 0) 1 39 := ⟨by decide +kernel, rfl⟩
theorem rX12_yearLine_39 : tq_D cX12_yearLine 39 (.getfield 111) 3 42 := ⟨by decide +kernel, rfl⟩
theorem rX12_yearLine_42 : tq_J cX12_yearLine 42 (.ifCond .ne) 62 45 := ⟨20, by decide +kernel, by decide, rfl⟩
theorem rX12_yearLine_45 : tq_D cX12_yearLine 45 (.aload_n 0) 1 46 := ⟨by decide +kernel, rfl⟩
theorem rX12_yearLine_46 : tq_D cX12_yearLine 46 (.getfield 17) 3 49 := ⟨by decide +kernel, rfl⟩
theorem rX12_yearLine_49 : tq_D cX12_yearLine 49 (.iconst 0) 1 50 := ⟨by decide +kernel, rfl⟩
theorem rX12_yearLine_50 : tq_D cX12_yearLine 50 (.iaload) 1 51 := ⟨by decide +kernel, rfl⟩
theorem rX12_yearLine_51 : tq_D cX12_yearLine 51 (.bipush 40) 2 53 := ⟨by decide +kernel, rfl⟩
theorem rX12_yearLine_53 : tq_J cX12_yearLine 53 (.if_icmp .lt) 62 56 := ⟨9, by decide +kernel, by decide, rfl⟩
theorem rX12_yearLine_56 : tq_D cX12_yearLine 56 (.aload_n 0) 1 57 := ⟨by decide +kernel, rfl⟩
theorem rX12_yearLine_57 : tq_D cX12_yearLine 57 (.iconst 3) 1 58 := ⟨by decide +kernel, rfl⟩
theorem rX12_yearLine_58 : tq_D cX12_yearLine 58 (.iload_n 1) 1 59 := ⟨by decide +kernel, rfl⟩
theorem rX12_yearLine_59 : tq_D cX12_yearLine 59 (.invokevirtual 122) 3 62 := ⟨by decide +kernel, rfl⟩
theorem rX12_yearLine_62 : tq_D cX12_yearLine 62 (.aload_n 0) 1 63 := ⟨by decide +kernel, rfl⟩
theorem rX12_yearLine_63 : tq_D cX12_yearLine 63 (.iconst 0) 1 64 := ⟨by decide +kernel, rfl⟩
theorem rX12_yearLine_64 : tq_D cX12_yearLine 64 (.iload_n 3) 1 65 := ⟨by decide +kernel, rfl⟩
theorem rX12_yearLine_65 : tq_D cX12_yearLine 65 (.iconst 3) 1 66 := ⟨by decide +kernel, rfl⟩
theorem rX12_yearLine_66 : tq_J cX12_yearLine 66 (.if_icmp .ne) 74 69 := ⟨8, by decide +kernel, by decide, rfl⟩
theorem rX12_yearLine_69 : tq_D cX12_yearLine 69 (.bipush 20) 2 71 := ⟨by decide +kernel, rfl⟩
theorem rX12_yearLine_71 : tq_J cX12_yearLine 71 .goto 76 74 := ⟨5, by decide +kernel, by decide, rfl⟩
theorem rX12_yearLine_74 : tq_D cX12_yearLine 74 (.bipush 7) 2 76 := ⟨by decide +kernel, rfl⟩
theorem rX12_yearLine_76 : tq_D cX12_yearLine 76 (.invokevirtual 133) 3 79 := ⟨by decide +kernel, rfl⟩
theorem rX12_yearLine_79 : tq_D cX12_yearLine 79 (.istore 4) 2 81 := ⟨by decide +kernel, rfl⟩
theorem rX12_yearLine_81 : tq_D cX12_yearLine 81 (.iload_n 3) 1 82 := ⟨by decide +kernel, rfl⟩
theorem rX12_yearLine_82 : tq_D cX12_yearLine 82 (.iconst 3) 1 83 := ⟨by decide +kernel, rfl⟩
theorem rX12_yearLine_83 : tq_J cX12_yearLine 83 (.if_icmp .ne) 90 86 := ⟨7, by decide +kernel, by decide, rfl⟩
theorem rX12_yearLine_86 : tq_D cX12_yearLine 86 (.iconst (-1)) 1 87 := ⟨by decide +kernel, rfl⟩
theorem rX12_yearLine_87 : tq_J cX12_yearLine 87 .goto 96 90 := ⟨9, by decide +kernel, by decide, rfl⟩
theorem rX12_yearLine_90 : tq_D cX12_yearLine 90 (.aload_n 0) 1 91 := ⟨by decide +kernel, rfl⟩
theorem rX12_yearLine_91 : tq_D cX12_yearLine 91 (.iconst 0) 1 92 := ⟨by decide +kernel, rfl⟩
theorem rX12_yearLine_92 : tq_D cX12_yearLine 92 (.iconst 5) 1 93 := ⟨by decide +kernel, rfl⟩
theorem rX12_yearLine_93 : tq_D cX12_yearLine 93 (.invokevirtual 133) 3 96 := ⟨by decide +kernel, rfl⟩
theorem rX12_yearLine_96 : tq_D cX12_yearLine 96 (.istore 5) 2 98 := ⟨by decide +kernel, rfl⟩
theorem rX12_yearLine_98 : tq_D cX12_yearLine 98 (.aload_n 0) 1 99 := ⟨by decide +kernel, rfl⟩
theorem rX12_yearLine_99 : tq_D cX12_yearLine 99 (.getfield 17) 3 102 := ⟨by decide +kernel, rfl⟩
theorem rX12_yearLine_102 : tq_D cX12_yearLine 102 (.iconst 0) 1 103 := ⟨by decide +kernel, rfl⟩
theorem rX12_yearLine_103 : tq_D cX12_yearLine 103 (.iaload) 1 104 := ⟨by decide +kernel, rfl⟩
theorem rX12_yearLine_104 : tq_D cX12_yearLine 104 (.bipush 40) 2 106 := ⟨by decide +kernel, rfl⟩
theorem rX12_yearLine_106 : tq_J cX12_yearLine 106 (.if_icmp .ge) 161 109 := ⟨55, by decide +kernel, by decide, rfl⟩
theorem rX12_yearLine_109 : tq_D cX12_yearLine 109 (.iconst 1) 1 110 := ⟨by decide +kernel, rfl⟩
theorem rX12_yearLine_110 : tq_D cX12_yearLine 110 (.iconst 3) 1 111 := ⟨by decide +kernel, rfl⟩
theorem rX12_yearLine_111 : tq_D cX12_yearLine 111 (.aload_n 0) 1 112 := ⟨by decide +kernel, rfl⟩
theorem rX12_yearLine_112 : tq_D cX12_yearLine 112 (.getfield 17) 3 115 := ⟨by decide +kernel, rfl⟩
theorem rX12_yearLine_115 : tq_D cX12_yearLine 115 (.iconst 0) 1 116 := ⟨by decide +kernel, rfl⟩
theorem rX12_yearLine_116 : tq_D cX12_yearLine 116 (.iaload) 1 117 := ⟨by decide +kernel, rfl⟩
theorem rX12_yearLine_117 : tq_D cX12_yearLine 117 (.imul) 1 118 := ⟨by decide +kernel, rfl⟩
theorem rX12_yearLine_118 : tq_D cX12_yearLine 118 (.iadd) 1 119 := ⟨by decide +kernel, rfl⟩
theorem rX12_yearLine_119 : tq_D cX12_yearLine 119 (.istore 6) 2 121 := ⟨by decide +kernel, rfl⟩
theorem rX12_yearLine_121 : tq_D cX12_yearLine 121 (.aload_n 0) 1 122 := ⟨by decide +kernel, rfl⟩
theorem rX12_yearLine_122 : tq_D cX12_yearLine 122 (.getfield 17) 3 125 := ⟨by decide +kernel, rfl⟩
theorem rX12_yearLine_125 : tq_D cX12_yearLine 125 (.iload 6) 2 127 := ⟨by decide +kernel, rfl⟩
theorem rX12_yearLine_127 : tq_D cX12_yearLine 127 (.iload_n 3) 1 128 := ⟨by decide +kernel, rfl⟩
theorem rX12_yearLine_128 : tq_D cX12_yearLine 128 (.iastore) 1 129 := ⟨by decide +kernel, rfl⟩
theorem rX12_yearLine_129 : tq_D cX12_yearLine 129 (.aload_n 0) 1 130 := ⟨by decide +kernel, rfl⟩
theorem rX12_yearLine_130 : tq_D cX12_yearLine 130 (.getfield 17) 3 133 := ⟨by decide +kernel, rfl⟩
theorem rX12_yearLine_133 : tq_D cX12_yearLine 133 (.iload 6) 2 135 := ⟨by decide +kernel, rfl⟩
theorem rX12_yearLine_135 : tq_D cX12_yearLine 135 (.iconst 1) 1 136 := ⟨by decide +kernel, rfl⟩
theorem rX12_yearLine_136 : tq_D cX12_yearLine 136 (.iadd) 1 137 := ⟨by decide +kernel, rfl⟩
theorem rX12_yearLine_137 : tq_D cX12_yearLine 137 (.iload 4) 2 139 := ⟨by decide +kernel, rfl⟩
theorem rX12_yearLine_139 : tq_D cX12_yearLine 139 (.iastore) 1 140 := ⟨by decide +kernel, rfl⟩
theorem rX12_yearLine_140 : tq_D cX12_yearLine 140 (.aload_n 0) 1 141 := ⟨by decide +kernel, rfl⟩
theorem rX12_yearLine_141 : tq_D cX12_yearLine 141 (.getfield 17) 3 144 := ⟨by decide +kernel, rfl⟩
theorem rX12_yearLine_144 : tq_D cX12_yearLine 144 (.iload 6) 2 146 := ⟨by decide +kernel, rfl⟩
theorem rX12_yearLine_146 : tq_D cX12_yearLine 146 (.iconst 2) 1 147 := ⟨by decide +kernel, rfl⟩
theorem rX12_yearLine_147 : tq_D cX12_yearLine 147 (.iadd) 1 148 := ⟨by decide +kernel, rfl⟩
theorem rX12_yearLine_148 : tq_D cX12_yearLine 148 (.iload 5) 2 150 := ⟨by decide +kernel, rfl⟩
theorem rX12_yearLine_150 : tq_D cX12_yearLine 150 (.iastore) 1 151 := ⟨by decide +kernel, rfl⟩
theorem rX12_yearLine_151 : tq_D cX12_yearLine 151 (.aload_n 0) 1 152 := ⟨by decide +kernel, rfl⟩
theorem rX12_yearLine_152 : tq_D cX12_yearLine 152 (.getfield 17) 3 155 := ⟨by decide +kernel, rfl⟩
theorem rX12_yearLine_155 : tq_D cX12_yearLine 155 (.iconst 0) 1 156 := ⟨by decide +kernel, rfl⟩
theorem rX12_yearLine_156 : tq_D cX12_yearLine 156 (.dup2) 1 157 := ⟨by decide +kernel, rfl⟩
theorem rX12_yearLine_157 : tq_D cX12_yearLine 157 (.iaload) 1 158 := ⟨by decide +kernel, rfl⟩
theorem rX12_yearLine_158 : tq_D cX12_yearLine 158 (.iconst 1) 1 159 := ⟨by decide +kernel, rfl⟩
theorem rX12_yearLine_159 : tq_D cX12_yearLine 159 (.iadd) 1 160 := ⟨by decide +kernel, rfl⟩
theorem rX12_yearLine_160 : tq_D cX12_yearLine 160 (.iastore) 1 161 := ⟨by decide +kernel, rfl⟩
theorem rX12_yearLine_161 : tq_D cX12_yearLine 161 (.aload_n 0) 1 162 := ⟨by decide +kernel, rfl⟩
theorem rX12_yearLine_162 : tq_D cX12_yearLine 162 (.invokevirtual 142) 3 165 := ⟨by decide +kernel, rfl⟩
theorem rX12_yearLine_165 : decode cX12_yearLine 165 = .ok (.return_, 1) := by decide +kernel
noncomputable def FX12_yearLine_j161 (I : tq_PI) (L : tq_PL) (a0 : Nat) : Option (tq_PI) :=
  ((FX12_endsLine I L a0).bind fun p11 => some p11)
noncomputable def FX12_yearLine_j96 (I : tq_PI) (L : tq_PL) (a0 : Nat) (a3 : Int32) (a4 : Int32) (b0 : Int32) : Option (tq_PI) :=
  (if 0 ≤ (0 : Int32) ∧ (0 : Int32) < 121 then (if (40 : Int32) ≤ (I (tq_rg a0 11) ((0 : Int32)).toNatClampNeg) then (FX12_yearLine_j161 I L a0) else (if 0 ≤ (0 : Int32) ∧ (0 : Int32) < 121 then (if 0 ≤ ((1 : Int32) + ((3 : Int32) * (I (tq_rg a0 11) ((0 : Int32)).toNatClampNeg))) ∧ ((1 : Int32) + ((3 : Int32) * (I (tq_rg a0 11) ((0 : Int32)).toNatClampNeg))) < 121 then (if 0 ≤ (((1 : Int32) + ((3 : Int32) * (I (tq_rg a0 11) ((0 : Int32)).toNatClampNeg))) + (1 : Int32)) ∧ (((1 : Int32) + ((3 : Int32) * (I (tq_rg a0 11) ((0 : Int32)).toNatClampNeg))) + (1 : Int32)) < 121 then (if 0 ≤ (((1 : Int32) + ((3 : Int32) * (I (tq_rg a0 11) ((0 : Int32)).toNatClampNeg))) + (2 : Int32)) ∧ (((1 : Int32) + ((3 : Int32) * (I (tq_rg a0 11) ((0 : Int32)).toNatClampNeg))) + (2 : Int32)) < 121 then (if 0 ≤ (0 : Int32) ∧ (0 : Int32) < 121 then (if 0 ≤ (0 : Int32) ∧ (0 : Int32) < 121 then (FX12_yearLine_j161 ((tq_up2 (tq_up2 (tq_up2 (tq_up2 I (tq_rg a0 11) (((1 : Int32) + ((3 : Int32) * (I (tq_rg a0 11) ((0 : Int32)).toNatClampNeg)))).toNatClampNeg a3) (tq_rg a0 11) ((((1 : Int32) + ((3 : Int32) * (I (tq_rg a0 11) ((0 : Int32)).toNatClampNeg))) + (1 : Int32))).toNatClampNeg a4) (tq_rg a0 11) ((((1 : Int32) + ((3 : Int32) * (I (tq_rg a0 11) ((0 : Int32)).toNatClampNeg))) + (2 : Int32))).toNatClampNeg b0) (tq_rg a0 11) ((0 : Int32)).toNatClampNeg ((((tq_up2 (tq_up2 (tq_up2 I (tq_rg a0 11) (((1 : Int32) + ((3 : Int32) * (I (tq_rg a0 11) ((0 : Int32)).toNatClampNeg)))).toNatClampNeg a3) (tq_rg a0 11) ((((1 : Int32) + ((3 : Int32) * (I (tq_rg a0 11) ((0 : Int32)).toNatClampNeg))) + (1 : Int32))).toNatClampNeg a4) (tq_rg a0 11) ((((1 : Int32) + ((3 : Int32) * (I (tq_rg a0 11) ((0 : Int32)).toNatClampNeg))) + (2 : Int32))).toNatClampNeg b0)) (tq_rg a0 11) ((0 : Int32)).toNatClampNeg) + (1 : Int32)))) L a0) else none) else none) else none) else none) else none) else none)) else none)
noncomputable def FX12_yearLine_j76 (I : tq_PI) (L : tq_PL) (a0 : Nat) (a3 : Int32) (b0 : Int32) (b1 : Int32) (b2 : Nat) : Option (tq_PI) :=
  ((FX12_numbered I L b2 b1 b0).bind fun p6 => (if a3 = (3 : Int32) then (FX12_yearLine_j96 p6.2 L a0 a3 p6.1 ((-1 : Int32))) else ((FX12_numbered p6.2 L a0 ((0 : Int32)) ((5 : Int32))).bind fun p8 => (FX12_yearLine_j96 p8.2 L a0 a3 p6.1 p8.1))))
noncomputable def FX12_yearLine_j62 (I : tq_PI) (L : tq_PL) (a0 : Nat) (a3 : Int32) : Option (tq_PI) :=
  (if a3 = (3 : Int32) then (FX12_yearLine_j76 I L a0 a3 ((20 : Int32)) ((0 : Int32)) a0) else (FX12_yearLine_j76 I L a0 a3 ((7 : Int32)) ((0 : Int32)) a0))
noncomputable def FX12_yearLine_j37 (I : tq_PI) (L : tq_PL) (a0 : Nat) (a1 : Int32) (b0 : Int32) : Option (tq_PI) :=
  (if (I a0 8) = 0 then (if 0 ≤ (0 : Int32) ∧ (0 : Int32) < 121 then (if (I (tq_rg a0 11) ((0 : Int32)).toNatClampNeg) < (40 : Int32) then (FX12_yearLine_j62 I L a0 b0) else ((FX12_also I L a0 ((3 : Int32)) a1).bind fun p20 => (FX12_yearLine_j62 p20 L a0 b0))) else none) else (FX12_yearLine_j62 I L a0 b0))
noncomputable def FX12_yearLine (I : tq_PI) (L : tq_PL) (a0 : Nat) : Option (tq_PI) :=
  ((FX12_wordIn I L a0 ((6 : Int32)) ((9 : Int32))).bind fun p1 => (if (p1.1 - (6 : Int32)) = 0 then (FX12_yearLine_j37 p1.2 L a0 ((I a0 4)) ((2 : Int32))) else (if (p1.1 - (6 : Int32)) = (3 : Int32) then (FX12_yearLine_j37 p1.2 L a0 ((I a0 4)) ((3 : Int32))) else (FX12_yearLine_j37 p1.2 L a0 ((I a0 4)) (((p1.1 - (6 : Int32)) - (1 : Int32)))))))
set_option maxRecDepth 100000 in
set_option maxHeartbeats 4000000 in
theorem FX12_yearLine_j161_x {S : Nat × (Nat → Int32)} {d : Nat} {I : tq_PI} {L : tq_PL} {a0 : Nat} (h0 : tq_sh0 a0 = 12) {q0 : Option Value → tq_PI → tq_PL → Prop} {out : tq_PI} (hf : FX12_yearLine_j161 I L a0 = some out) (hk : q0 none out L) : tq_X S mX12_yearLine (d + 5) tq_k0 161 ([.ref a0, tq_u, tq_u, tq_u, tq_u, tq_u, tq_u]) ([]) (tq_st I L) (tq_Q q0) := by
  unfold FX12_yearLine_j161 at hf
  refine tq_aload_n rX12_yearLine_161 rfl ?_
  obtain ⟨p11, e11, hf⟩ := Option.bind_eq_some_iff.mp hf
  refine ty_callVV ([]) ([]) rX12_yearLine_162 l_X12_142 moX12_endsLine mvX12_endsLine h0 rfl rfl (Nat.le_of_ble_eq_true rfl) ⟨rfl, rfl⟩ (CX12_endsLine h0 e11) ?_
  refine ty_vret rX12_yearLine_165 rfl rfl ?_
  have hf := Option.some.inj hf
  subst hf
  exact hk

set_option maxRecDepth 100000 in
set_option maxHeartbeats 4000000 in
theorem FX12_yearLine_j96_x {S : Nat × (Nat → Int32)} {d : Nat} {I : tq_PI} {L : tq_PL} {a0 : Nat} {a3 : Int32} {a4 : Int32} {b0 : Int32} (h0 : tq_sh0 a0 = 12) {q0 : Option Value → tq_PI → tq_PL → Prop} {out : tq_PI} (hf : FX12_yearLine_j96 I L a0 a3 a4 b0 = some out) (hk : q0 none out L) : tq_X S mX12_yearLine (d + 5) tq_k0 96 ([.ref a0, tq_u, tq_u, .int a3, .int a4, tq_u, tq_u]) ([.int b0]) (tq_st I L) (tq_Q q0) := by
  unfold FX12_yearLine_j96 at hf
  refine tq_istore ([.ref a0, tq_u, tq_u, .int a3, .int a4, .int b0, tq_u]) rX12_yearLine_96 (Nat.le_of_ble_eq_true rfl) rfl ?_
  refine tq_aload_n rX12_yearLine_98 rfl ?_
  refine ty_getR rX12_yearLine_99 f_X12_17 rfl h0 (hp_12_11 h0).1 ?_
  refine tq_iconst (0 : Int32) rX12_yearLine_102 (by decide) ?_
  obtain ⟨g9, hf⟩ := tq_chk hf
  refine ty_iald (v := 121) rX12_yearLine_103 (hp_12_11 h0).2.1 (hp_12_11 h0).2.2 rfl (by decide) g9 ?_
  refine tq_bipush (40 : Int32) rX12_yearLine_104 (by decide) ?_
  refine tq_icmp_ge rX12_yearLine_106 (fun c10 => ?_) (fun c10 => ?_)
  · rw [if_pos c10] at hf
    exact tq_forget _ (tq_le_s (tq_le_u (tq_le_u (tq_le_u (tq_le_u (tq_le_u (tq_le_u tq_le_n))))))) (FX12_yearLine_j161_x  h0 hf hk)
  · rw [if_neg c10] at hf
    refine tq_iconst (1 : Int32) rX12_yearLine_109 (by decide) ?_
    refine tq_iconst (3 : Int32) rX12_yearLine_110 (by decide) ?_
    refine tq_aload_n rX12_yearLine_111 rfl ?_
    refine ty_getR rX12_yearLine_112 f_X12_17 rfl h0 (hp_12_11 h0).1 ?_
    refine tq_iconst (0 : Int32) rX12_yearLine_115 (by decide) ?_
    obtain ⟨g12, hf⟩ := tq_chk hf
    refine ty_iald (v := 121) rX12_yearLine_116 (hp_12_11 h0).2.1 (hp_12_11 h0).2.2 rfl (by decide) g12 ?_
    refine tq_imul rX12_yearLine_117 ?_
    refine tq_iadd rX12_yearLine_118 ?_
    refine tq_istore ([.ref a0, tq_u, tq_u, .int a3, .int a4, .int b0, .int ((1 : Int32) + ((3 : Int32) * (I (tq_rg a0 11) ((0 : Int32)).toNatClampNeg)))]) rX12_yearLine_119 (Nat.le_of_ble_eq_true rfl) rfl ?_
    refine tq_aload_n rX12_yearLine_121 rfl ?_
    refine ty_getR rX12_yearLine_122 f_X12_17 rfl h0 (hp_12_11 h0).1 ?_
    refine tq_iload rX12_yearLine_125 rfl ?_
    refine tq_iload_n rX12_yearLine_127 rfl ?_
    obtain ⟨g13, hf⟩ := tq_chk hf
    refine ty_iast (v := 121) rX12_yearLine_128 (hp_12_11 h0).2.1 (hp_12_11 h0).2.2 rfl (by decide) g13 ?_
    refine tq_aload_n rX12_yearLine_129 rfl ?_
    refine ty_getR rX12_yearLine_130 f_X12_17 rfl h0 (hp_12_11 h0).1 ?_
    refine tq_iload rX12_yearLine_133 rfl ?_
    refine tq_iconst (1 : Int32) rX12_yearLine_135 (by decide) ?_
    refine tq_iadd rX12_yearLine_136 ?_
    refine tq_iload rX12_yearLine_137 rfl ?_
    obtain ⟨g14, hf⟩ := tq_chk hf
    refine ty_iast (v := 121) rX12_yearLine_139 (hp_12_11 h0).2.1 (hp_12_11 h0).2.2 rfl (by decide) g14 ?_
    refine tq_aload_n rX12_yearLine_140 rfl ?_
    refine ty_getR rX12_yearLine_141 f_X12_17 rfl h0 (hp_12_11 h0).1 ?_
    refine tq_iload rX12_yearLine_144 rfl ?_
    refine tq_iconst (2 : Int32) rX12_yearLine_146 (by decide) ?_
    refine tq_iadd rX12_yearLine_147 ?_
    refine tq_iload rX12_yearLine_148 rfl ?_
    obtain ⟨g15, hf⟩ := tq_chk hf
    refine ty_iast (v := 121) rX12_yearLine_150 (hp_12_11 h0).2.1 (hp_12_11 h0).2.2 rfl (by decide) g15 ?_
    refine tq_aload_n rX12_yearLine_151 rfl ?_
    refine ty_getR rX12_yearLine_152 f_X12_17 rfl h0 (hp_12_11 h0).1 ?_
    refine tq_iconst (0 : Int32) rX12_yearLine_155 (by decide) ?_
    refine tq_dup2 rX12_yearLine_156 rfl rfl ?_
    obtain ⟨g16, hf⟩ := tq_chk hf
    refine ty_iald (v := 121) rX12_yearLine_157 (hp_12_11 h0).2.1 (hp_12_11 h0).2.2 rfl (by decide) g16 ?_
    refine tq_iconst (1 : Int32) rX12_yearLine_158 (by decide) ?_
    refine tq_iadd rX12_yearLine_159 ?_
    obtain ⟨g17, hf⟩ := tq_chk hf
    refine ty_iast (v := 121) rX12_yearLine_160 (hp_12_11 h0).2.1 (hp_12_11 h0).2.2 rfl (by decide) g17 ?_
    exact tq_forget _ (tq_le_s (tq_le_u (tq_le_u (tq_le_u (tq_le_u (tq_le_u (tq_le_u tq_le_n))))))) (FX12_yearLine_j161_x  h0 hf hk)

set_option maxRecDepth 100000 in
set_option maxHeartbeats 4000000 in
theorem FX12_yearLine_j76_x {S : Nat × (Nat → Int32)} {d : Nat} {I : tq_PI} {L : tq_PL} {a0 : Nat} {a3 : Int32} {b0 : Int32} {b1 : Int32} {b2 : Nat} (h0 : tq_sh0 a0 = 12) (k2 : tq_sh0 b2 = 12) {q0 : Option Value → tq_PI → tq_PL → Prop} {out : tq_PI} (hf : FX12_yearLine_j76 I L a0 a3 b0 b1 b2 = some out) (hk : q0 none out L) : tq_X S mX12_yearLine (d + 5) tq_k0 76 ([.ref a0, tq_u, tq_u, .int a3, tq_u, tq_u, tq_u]) ([.int b0, .int b1, .ref b2]) (tq_st I L) (tq_Q q0) := by
  unfold FX12_yearLine_j76 at hf
  obtain ⟨p6, e6, hf⟩ := Option.bind_eq_some_iff.mp hf
  refine ty_callVI p6.1 ([.int b1, .int b0]) ([]) rX12_yearLine_76 l_X12_133 moX12_numbered mvX12_numbered k2 rfl rfl (Nat.le_of_ble_eq_true rfl) ⟨rfl, rfl⟩ (CX12_numbered k2 e6) ?_
  refine tq_istore ([.ref a0, tq_u, tq_u, .int a3, .int p6.1, tq_u, tq_u]) rX12_yearLine_79 (Nat.le_of_ble_eq_true rfl) rfl ?_
  refine tq_iload_n rX12_yearLine_81 rfl ?_
  refine tq_iconst (3 : Int32) rX12_yearLine_82 (by decide) ?_
  refine tq_icmp_ne rX12_yearLine_83 (fun c7 => ?_) (fun c7 => ?_)
  · rw [if_neg c7] at hf
    refine tq_aload_n rX12_yearLine_90 rfl ?_
    refine tq_iconst (0 : Int32) rX12_yearLine_91 (by decide) ?_
    refine tq_iconst (5 : Int32) rX12_yearLine_92 (by decide) ?_
    obtain ⟨p8, e8, hf⟩ := Option.bind_eq_some_iff.mp hf
    refine ty_callVI p8.1 ([.int (0 : Int32), .int (5 : Int32)]) ([]) rX12_yearLine_93 l_X12_133 moX12_numbered mvX12_numbered h0 rfl rfl (Nat.le_of_ble_eq_true rfl) ⟨rfl, rfl⟩ (CX12_numbered h0 e8) ?_
    exact tq_forget _ (tq_le_s (tq_le_u (tq_le_u (tq_le_s (tq_le_s (tq_le_u (tq_le_u tq_le_n))))))) (FX12_yearLine_j96_x  h0 hf hk)
  · rw [if_pos c7] at hf
    refine tq_iconst (-1 : Int32) rX12_yearLine_86 (by decide) ?_
    refine tq_goto rX12_yearLine_87 ?_
    exact tq_forget _ (tq_le_s (tq_le_u (tq_le_u (tq_le_s (tq_le_s (tq_le_u (tq_le_u tq_le_n))))))) (FX12_yearLine_j96_x  h0 hf hk)

set_option maxRecDepth 100000 in
set_option maxHeartbeats 4000000 in
theorem FX12_yearLine_j62_x {S : Nat × (Nat → Int32)} {d : Nat} {I : tq_PI} {L : tq_PL} {a0 : Nat} {a3 : Int32} (h0 : tq_sh0 a0 = 12) {q0 : Option Value → tq_PI → tq_PL → Prop} {out : tq_PI} (hf : FX12_yearLine_j62 I L a0 a3 = some out) (hk : q0 none out L) : tq_X S mX12_yearLine (d + 5) tq_k0 62 ([.ref a0, tq_u, tq_u, .int a3, tq_u, tq_u, tq_u]) ([]) (tq_st I L) (tq_Q q0) := by
  unfold FX12_yearLine_j62 at hf
  refine tq_aload_n rX12_yearLine_62 rfl ?_
  refine tq_iconst (0 : Int32) rX12_yearLine_63 (by decide) ?_
  refine tq_iload_n rX12_yearLine_64 rfl ?_
  refine tq_iconst (3 : Int32) rX12_yearLine_65 (by decide) ?_
  refine tq_icmp_ne rX12_yearLine_66 (fun c5 => ?_) (fun c5 => ?_)
  · rw [if_neg c5] at hf
    refine tq_bipush (7 : Int32) rX12_yearLine_74 (by decide) ?_
    exact tq_forget _ (tq_le_s (tq_le_u (tq_le_u (tq_le_s (tq_le_u (tq_le_u (tq_le_u tq_le_n))))))) (FX12_yearLine_j76_x  h0 h0 hf hk)
  · rw [if_pos c5] at hf
    refine tq_bipush (20 : Int32) rX12_yearLine_69 (by decide) ?_
    refine tq_goto rX12_yearLine_71 ?_
    exact tq_forget _ (tq_le_s (tq_le_u (tq_le_u (tq_le_s (tq_le_u (tq_le_u (tq_le_u tq_le_n))))))) (FX12_yearLine_j76_x  h0 h0 hf hk)

set_option maxRecDepth 100000 in
set_option maxHeartbeats 4000000 in
theorem FX12_yearLine_j37_x {S : Nat × (Nat → Int32)} {d : Nat} {I : tq_PI} {L : tq_PL} {a0 : Nat} {a1 : Int32} {b0 : Int32} (h0 : tq_sh0 a0 = 12) {q0 : Option Value → tq_PI → tq_PL → Prop} {out : tq_PI} (hf : FX12_yearLine_j37 I L a0 a1 b0 = some out) (hk : q0 none out L) : tq_X S mX12_yearLine (d + 5) tq_k0 37 ([.ref a0, .int a1, tq_u, tq_u, tq_u, tq_u, tq_u]) ([.int b0]) (tq_st I L) (tq_Q q0) := by
  unfold FX12_yearLine_j37 at hf
  refine tq_istore_n ([.ref a0, .int a1, tq_u, .int b0, tq_u, tq_u, tq_u]) rX12_yearLine_37 (Nat.le_of_ble_eq_true rfl) rfl ?_
  refine tq_aload_n rX12_yearLine_38 rfl ?_
  refine ty_getI rX12_yearLine_39 f_X12_111 rfl h0 ?_
  refine tq_if_ne rX12_yearLine_42 (fun c4 => ?_) (fun c4 => ?_)
  · rw [if_neg c4] at hf
    exact tq_forget _ (tq_le_s (tq_le_u (tq_le_u (tq_le_s (tq_le_u (tq_le_u (tq_le_u tq_le_n))))))) (FX12_yearLine_j62_x  h0 hf hk)
  · rw [if_pos c4] at hf
    refine tq_aload_n rX12_yearLine_45 rfl ?_
    refine ty_getR rX12_yearLine_46 f_X12_17 rfl h0 (hp_12_11 h0).1 ?_
    refine tq_iconst (0 : Int32) rX12_yearLine_49 (by decide) ?_
    obtain ⟨g18, hf⟩ := tq_chk hf
    refine ty_iald (v := 121) rX12_yearLine_50 (hp_12_11 h0).2.1 (hp_12_11 h0).2.2 rfl (by decide) g18 ?_
    refine tq_bipush (40 : Int32) rX12_yearLine_51 (by decide) ?_
    refine tq_icmp_lt rX12_yearLine_53 (fun c19 => ?_) (fun c19 => ?_)
    · rw [if_pos c19] at hf
      exact tq_forget _ (tq_le_s (tq_le_u (tq_le_u (tq_le_s (tq_le_u (tq_le_u (tq_le_u tq_le_n))))))) (FX12_yearLine_j62_x  h0 hf hk)
    · rw [if_neg c19] at hf
      refine tq_aload_n rX12_yearLine_56 rfl ?_
      refine tq_iconst (3 : Int32) rX12_yearLine_57 (by decide) ?_
      refine tq_iload_n rX12_yearLine_58 rfl ?_
      obtain ⟨p20, e20, hf⟩ := Option.bind_eq_some_iff.mp hf
      refine ty_callVV ([.int (3 : Int32), .int a1]) ([]) rX12_yearLine_59 l_X12_122 moX12_also mvX12_also h0 rfl rfl (Nat.le_of_ble_eq_true rfl) ⟨rfl, rfl⟩ (CX12_also h0 e20) ?_
      exact tq_forget _ (tq_le_s (tq_le_u (tq_le_u (tq_le_s (tq_le_u (tq_le_u (tq_le_u tq_le_n))))))) (FX12_yearLine_j62_x  h0 hf hk)

set_option maxRecDepth 100000 in
set_option maxHeartbeats 4000000 in
theorem CX12_yearLine {S : Nat × (Nat → Int32)} {d : Nat} {I : tq_PI} {L : tq_PL} {a0 : Nat} (h0 : tq_sh0 a0 = 12) {out : tq_PI} (hf : FX12_yearLine I L a0 = some out) : tq_K S mX12_yearLine (d + 5) [.ref a0] I L (tq_one2 (none) out L) := by
  unfold FX12_yearLine at hf
  refine tq_K_of (by decide) (Nat.le_of_ble_eq_true rfl) (ls := [.ref a0, tq_u, tq_u, tq_u, tq_u, tq_u, tq_u]) rfl ?_
  refine tq_aload_n rX12_yearLine_0 rfl ?_
  refine ty_getI rX12_yearLine_1 f_X12_84 rfl h0 ?_
  refine tq_istore_n ([.ref a0, .int (I a0 4), tq_u, tq_u, tq_u, tq_u, tq_u]) rX12_yearLine_4 (Nat.le_of_ble_eq_true rfl) rfl ?_
  refine tq_aload_n rX12_yearLine_5 rfl ?_
  refine tq_bipush (6 : Int32) rX12_yearLine_6 (by decide) ?_
  refine tq_bipush (9 : Int32) rX12_yearLine_8 (by decide) ?_
  obtain ⟨p1, e1, hf⟩ := Option.bind_eq_some_iff.mp hf
  refine ty_callVI p1.1 ([.int (6 : Int32), .int (9 : Int32)]) ([]) rX12_yearLine_10 l_X12_129 moX12_wordIn mvX12_wordIn h0 rfl rfl (Nat.le_of_ble_eq_true rfl) ⟨rfl, rfl⟩ (CX12_wordIn h0 e1) ?_
  refine tq_bipush (6 : Int32) rX12_yearLine_13 (by decide) ?_
  refine tq_isub rX12_yearLine_15 ?_
  refine tq_istore_n ([.ref a0, .int (I a0 4), .int (p1.1 - (6 : Int32)), tq_u, tq_u, tq_u, tq_u]) rX12_yearLine_16 (Nat.le_of_ble_eq_true rfl) rfl ?_
  refine tq_iload_n rX12_yearLine_17 rfl ?_
  refine tq_if_ne rX12_yearLine_18 (fun c2 => ?_) (fun c2 => ?_)
  · rw [if_neg c2] at hf
    refine tq_iload_n rX12_yearLine_25 rfl ?_
    refine tq_iconst (3 : Int32) rX12_yearLine_26 (by decide) ?_
    refine tq_icmp_ne rX12_yearLine_27 (fun c3 => ?_) (fun c3 => ?_)
    · rw [if_neg c3] at hf
      refine tq_iload_n rX12_yearLine_34 rfl ?_
      refine tq_iconst (1 : Int32) rX12_yearLine_35 (by decide) ?_
      refine tq_isub rX12_yearLine_36 ?_
      exact tq_forget _ (tq_le_s (tq_le_s (tq_le_u (tq_le_u (tq_le_u (tq_le_u (tq_le_u tq_le_n))))))) (FX12_yearLine_j37_x  h0 hf ⟨rfl, rfl, rfl⟩)
    · rw [if_pos c3] at hf
      refine tq_iconst (3 : Int32) rX12_yearLine_30 (by decide) ?_
      refine tq_goto rX12_yearLine_31 ?_
      exact tq_forget _ (tq_le_s (tq_le_s (tq_le_u (tq_le_u (tq_le_u (tq_le_u (tq_le_u tq_le_n))))))) (FX12_yearLine_j37_x  h0 hf ⟨rfl, rfl, rfl⟩)
  · rw [if_pos c2] at hf
    refine tq_iconst (2 : Int32) rX12_yearLine_21 (by decide) ?_
    refine tq_goto rX12_yearLine_22 ?_
    exact tq_forget _ (tq_le_s (tq_le_s (tq_le_u (tq_le_u (tq_le_u (tq_le_u (tq_le_u tq_le_n))))))) (FX12_yearLine_j37_x  h0 hf ⟨rfl, rfl, rfl⟩)

abbrev mX12_logLine : tq_M := (yX12_logLine, cX12_logLine, 5, (Option.none : Option Jvm.ClassFile.FieldType), 0, 0)
theorem rX12_logLine_0 : tq_D cX12_logLine 0 (.aload_n 0) 1 1 := ⟨by decide +kernel, rfl⟩
theorem rX12_logLine_1 : tq_D cX12_logLine 1 (.getfield 84) 3 4 := ⟨by decide +kernel, rfl⟩
theorem rX12_logLine_4 : tq_D cX12_logLine 4 (.istore_n 1) 1 5 := ⟨by decide +kernel, rfl⟩
theorem rX12_logLine_5 : tq_D cX12_logLine 5 (.aload_n 0) 1 6 := ⟨by decide +kernel, rfl⟩
theorem rX12_logLine_6 : tq_D cX12_logLine 6 (.bipush 10) 2 8 := ⟨by decide +kernel, rfl⟩
theorem rX12_logLine_8 : tq_D cX12_logLine 8 (.bipush 10) 2 10 := ⟨by decide +kernel, rfl⟩
theorem rX12_logLine_10 : tq_D cX12_logLine 10 (.invokevirtual 129) 3 13 := ⟨by decide +kernel, rfl⟩
theorem rX12_logLine_13 : tq_D cX12_logLine 13 (.pop) 1 14 := ⟨by decide +kernel, rfl⟩
theorem rX12_logLine_14 : tq_D cX12_logLine 14 (.aload_n 0) 1 15 := ⟨by decide +kernel, rfl⟩
theorem rX12_logLine_15 : tq_D cX12_logLine 15 (.getfield 111) 3 18 := ⟨by decide +kernel, rfl⟩
theorem rX12_logLine_18 : tq_J cX12_logLine 18 (.ifCond .ne) 38 21 := ⟨20, by decide +kernel, by decide, rfl⟩
theorem rX12_logLine_21 : tq_D cX12_logLine 21 (.aload_n 0) 1 22 := ⟨by decide +kernel, rfl⟩
theorem rX12_logLine_22 : tq_D cX12_logLine 22 (.getfield 17) 3 25 := ⟨by decide +kernel, rfl⟩
theorem rX12_logLine_25 : tq_D cX12_logLine 25 (.iconst 0) 1 26 := ⟨by decide +kernel, rfl⟩
theorem rX12_logLine_26 : tq_D cX12_logLine 26 (.iaload) 1 27 := ⟨by decide +kernel, rfl⟩
theorem rX12_logLine_27 : tq_D cX12_logLine 27 (.bipush 8) 2 29 := ⟨by decide +kernel, rfl⟩
theorem rX12_logLine_29 : tq_J cX12_logLine 29 (.if_icmp .lt) 38 32 := ⟨9, by decide +kernel, by decide, rfl⟩
theorem rX12_logLine_32 : tq_D cX12_logLine 32 (.aload_n 0) 1 33 := ⟨by decide +kernel, rfl⟩
theorem rX12_logLine_33 : tq_D cX12_logLine 33 (.iconst 3) 1 34 := ⟨by decide +kernel, rfl⟩
theorem rX12_logLine_34 : tq_D cX12_logLine 34 (.iload_n 1) 1 35 := ⟨by decide +kernel, rfl⟩
theorem rX12_logLine_35 : tq_D cX12_logLine 35 (.invokevirtual 122) 3 38 := ⟨by decide +kernel, rfl⟩
theorem rX12_logLine_38 : tq_D cX12_logLine 38 (.aload_n 0) 1 39 := ⟨by decide +kernel, rfl⟩
theorem rX12_logLine_39 : tq_D cX12_logLine 39 (.iconst 0) 1 40 := ⟨by decide +kernel, rfl⟩
theorem rX12_logLine_40 : tq_D cX12_logLine 40 (.bipush 7) 2 42 := ⟨by decide +kernel, rfl⟩
theorem rX12_logLine_42 : tq_D cX12_logLine 42 (.invokevirtual 133) 3 45 := ⟨by decide +kernel, rfl⟩
theorem rX12_logLine_45 : tq_D cX12_logLine 45 (.istore_n 2) 1 46 := ⟨by decide +kernel, rfl⟩
theorem rX12_logLine_46 : tq_D cX12_logLine 46 (.aload_n 0) 1 47 := ⟨by decide +kernel, rfl⟩
theorem rX12_logLine_47 : tq_D cX12_logLine 47 (.iconst 0) 1 48 := ⟨by decide +kernel, rfl⟩
theorem rX12_logLine_48 : tq_D cX12_logLine 48 (.iconst 5) 1 49 := ⟨by decide +kernel, rfl⟩
theorem rX12_logLine_49 : tq_D cX12_logLine 49 (.invokevirtual 133) 3 52 := ⟨by decide +kernel, rfl⟩
theorem rX12_logLine_52 : tq_D cX12_logLine 52 (.istore_n 3) 1 53 := ⟨by decide +kernel, rfl⟩
theorem rX12_logLine_53 : tq_D cX12_logLine 53 (.aload_n 0) 1 54 := ⟨by decide +kernel, rfl⟩
theorem rX12_logLine_54 : tq_D cX12_logLine 54 (.iconst 0) 1 55 := ⟨by decide +kernel, rfl⟩
theorem rX12_logLine_55 : tq_D cX12_logLine 55 (.bipush 9) 2 57 := ⟨by decide +kernel, rfl⟩
theorem rX12_logLine_57 : tq_D cX12_logLine 57 (.invokevirtual 133) 3 60 := ⟨by decide +kernel, rfl⟩
theorem rX12_logLine_60 : tq_D cX12_logLine 60 (.istore 4) 2 62 := ⟨by decide +kernel, rfl⟩
theorem rX12_logLine_62 : tq_D cX12_logLine 62 (.aload_n 0) 1 63 := ⟨by decide +kernel, rfl⟩
theorem rX12_logLine_63 : tq_D cX12_logLine 63 (.getfield 17) 3 66 := ⟨by decide +kernel, rfl⟩
theorem rX12_logLine_66 : tq_D cX12_logLine 66 (.iconst 0) 1 67 := ⟨by decide +kernel, rfl⟩
theorem rX12_logLine_67 : tq_D cX12_logLine 67 (.iaload) 1 68 := ⟨by decide +kernel, rfl⟩
theorem rX12_logLine_68 : tq_D cX12_logLine 68 (.bipush 8) 2 70 := ⟨by decide +kernel, rfl⟩
theorem rX12_logLine_70 : tq_J cX12_logLine 70 (.if_icmp .ge) 121 73 := ⟨51, by decide +kernel, by decide, rfl⟩
theorem rX12_logLine_73 : tq_D cX12_logLine 73 (.aload_n 0) 1 74 := ⟨by decide +kernel, rfl⟩
theorem rX12_logLine_74 : tq_D cX12_logLine 74 (.getfield 17) 3 77 := ⟨by decide +kernel, rfl⟩
theorem rX12_logLine_77 : tq_D cX12_logLine 77 (.iconst 1) 1 78 := ⟨by decide +kernel, rfl⟩
theorem rX12_logLine_78 : tq_D cX12_logLine 78 (.iconst 2) 1 79 := ⟨by decide +kernel, rfl⟩
theorem rX12_logLine_79 : tq_D cX12_logLine 79 (.aload_n 0) 1 80 := ⟨by decide +kernel, rfl⟩
theorem rX12_logLine_80 : tq_D cX12_logLine 80 (.getfield 17) 3 83 := ⟨by decide +kernel, rfl⟩
theorem rX12_logLine_83 : tq_D cX12_logLine 83 (.iconst 0) 1 84 := ⟨by decide +kernel, rfl⟩
theorem rX12_logLine_84 : tq_D cX12_logLine 84 (.iaload) 1 85 := ⟨by decide +kernel, rfl⟩
theorem rX12_logLine_85 : tq_D cX12_logLine 85 (.imul) 1 86 := ⟨by decide +kernel, rfl⟩
theorem rX12_logLine_86 : tq_D cX12_logLine 86 (.iadd) 1 87 := ⟨by decide +kernel, rfl⟩
theorem rX12_logLine_87 : tq_D cX12_logLine 87 (.bipush 8) 2 89 := ⟨by decide +kernel, rfl⟩
theorem rX12_logLine_89 : tq_D cX12_logLine 89 (.iload_n 3) 1 90 := ⟨by decide +kernel, rfl⟩
theorem rX12_logLine_90 : tq_D cX12_logLine 90 (.imul) 1 91 := ⟨by decide +kernel, rfl⟩
theorem rX12_logLine_91 : tq_D cX12_logLine 91 (.iload_n 2) 1 92 := ⟨by decide +kernel, rfl⟩
theorem rX12_logLine_92 : tq_D cX12_logLine 92 (.iadd) 1 93 := ⟨by decide +kernel, rfl⟩
theorem rX12_logLine_93 : tq_D cX12_logLine 93 (.iastore) 1 94 := ⟨by decide +kernel, rfl⟩
theorem rX12_logLine_94 : tq_D cX12_logLine 94 (.aload_n 0) 1 95 := ⟨by decide +kernel, rfl⟩
theorem rX12_logLine_95 : tq_D cX12_logLine 95 (.getfield 17) 3 98 := ⟨by decide +kernel, rfl⟩
theorem rX12_logLine_98 : tq_D cX12_logLine 98 (.iconst 2) 1 99 := ⟨by decide +kernel, rfl⟩
theorem rX12_logLine_99 : tq_D cX12_logLine 99 (.iconst 2) 1 100 := ⟨by decide +kernel, rfl⟩
theorem rX12_logLine_100 : tq_D cX12_logLine 100 (.aload_n 0) 1 101 := ⟨by decide +kernel, rfl⟩
theorem rX12_logLine_101 : tq_D cX12_logLine 101 (.getfield 17) 3 104 := ⟨by decide +kernel, rfl⟩
theorem rX12_logLine_104 : tq_D cX12_logLine 104 (.iconst 0) 1 105 := ⟨by decide +kernel, rfl⟩
theorem rX12_logLine_105 : tq_D cX12_logLine 105 (.iaload) 1 106 := ⟨by decide +kernel, rfl⟩
theorem rX12_logLine_106 : tq_D cX12_logLine 106 (.imul) 1 107 := ⟨by decide +kernel, rfl⟩
theorem rX12_logLine_107 : tq_D cX12_logLine 107 (.iadd) 1 108 := ⟨by decide +kernel, rfl⟩
theorem rX12_logLine_108 : tq_D cX12_logLine 108 (.iload 4) 2 110 := ⟨by decide +kernel, rfl⟩
theorem rX12_logLine_110 : tq_D cX12_logLine 110 (.iastore) 1 111 := ⟨by decide +kernel, rfl⟩
theorem rX12_logLine_111 : tq_D cX12_logLine 111 (.aload_n 0) 1 112 := ⟨by decide +kernel, rfl⟩
theorem rX12_logLine_112 : tq_D cX12_logLine 112 (.getfield 17) 3 115 := ⟨by decide +kernel, rfl⟩
theorem rX12_logLine_115 : tq_D cX12_logLine 115 (.iconst 0) 1 116 := ⟨by decide +kernel, rfl⟩
theorem rX12_logLine_116 : tq_D cX12_logLine 116 (.dup2) 1 117 := ⟨by decide +kernel, rfl⟩
theorem rX12_logLine_117 : tq_D cX12_logLine 117 (.iaload) 1 118 := ⟨by decide +kernel, rfl⟩
theorem rX12_logLine_118 : tq_D cX12_logLine 118 (.iconst 1) 1 119 := ⟨by decide +kernel, rfl⟩
theorem rX12_logLine_119 : tq_D cX12_logLine 119 (.iadd) 1 120 := ⟨by decide +kernel, rfl⟩
theorem rX12_logLine_120 : tq_D cX12_logLine 120 (.iastore) 1 121 := ⟨by decide +kernel, rfl⟩
theorem rX12_logLine_121 : tq_D cX12_logLine 121 (.aload_n 0) 1 122 := ⟨by decide +kernel, rfl⟩
theorem rX12_logLine_122 : tq_D cX12_logLine 122 (.invokevirtual 142) 3 125 := ⟨by decide +kernel, rfl⟩
theorem rX12_logLine_125 : decode cX12_logLine 125 = .ok (.return_, 1) := by decide +kernel
noncomputable def FX12_logLine_j121 (I : tq_PI) (L : tq_PL) (a0 : Nat) : Option (tq_PI) :=
  ((FX12_endsLine I L a0).bind fun p8 => some p8)
noncomputable def FX12_logLine_j38 (I : tq_PI) (L : tq_PL) (a0 : Nat) : Option (tq_PI) :=
  ((FX12_numbered I L a0 ((0 : Int32)) ((7 : Int32))).bind fun p3 => ((FX12_numbered p3.2 L a0 ((0 : Int32)) ((5 : Int32))).bind fun p4 => ((FX12_numbered p4.2 L a0 ((0 : Int32)) ((9 : Int32))).bind fun p5 => (if 0 ≤ (0 : Int32) ∧ (0 : Int32) < 121 then (if (8 : Int32) ≤ (p5.2 (tq_rg a0 11) ((0 : Int32)).toNatClampNeg) then (FX12_logLine_j121 p5.2 L a0) else (if 0 ≤ (0 : Int32) ∧ (0 : Int32) < 121 then (if 0 ≤ ((1 : Int32) + ((2 : Int32) * (p5.2 (tq_rg a0 11) ((0 : Int32)).toNatClampNeg))) ∧ ((1 : Int32) + ((2 : Int32) * (p5.2 (tq_rg a0 11) ((0 : Int32)).toNatClampNeg))) < 121 then (if 0 ≤ (0 : Int32) ∧ (0 : Int32) < 121 then (if 0 ≤ ((2 : Int32) + ((2 : Int32) * (((tq_up2 p5.2 (tq_rg a0 11) (((1 : Int32) + ((2 : Int32) * (p5.2 (tq_rg a0 11) ((0 : Int32)).toNatClampNeg)))).toNatClampNeg (((8 : Int32) * p4.1) + p3.1))) (tq_rg a0 11) ((0 : Int32)).toNatClampNeg))) ∧ ((2 : Int32) + ((2 : Int32) * (((tq_up2 p5.2 (tq_rg a0 11) (((1 : Int32) + ((2 : Int32) * (p5.2 (tq_rg a0 11) ((0 : Int32)).toNatClampNeg)))).toNatClampNeg (((8 : Int32) * p4.1) + p3.1))) (tq_rg a0 11) ((0 : Int32)).toNatClampNeg))) < 121 then (if 0 ≤ (0 : Int32) ∧ (0 : Int32) < 121 then (if 0 ≤ (0 : Int32) ∧ (0 : Int32) < 121 then (FX12_logLine_j121 ((tq_up2 (tq_up2 (tq_up2 p5.2 (tq_rg a0 11) (((1 : Int32) + ((2 : Int32) * (p5.2 (tq_rg a0 11) ((0 : Int32)).toNatClampNeg)))).toNatClampNeg (((8 : Int32) * p4.1) + p3.1)) (tq_rg a0 11) (((2 : Int32) + ((2 : Int32) * (((tq_up2 p5.2 (tq_rg a0 11) (((1 : Int32) + ((2 : Int32) * (p5.2 (tq_rg a0 11) ((0 : Int32)).toNatClampNeg)))).toNatClampNeg (((8 : Int32) * p4.1) + p3.1))) (tq_rg a0 11) ((0 : Int32)).toNatClampNeg)))).toNatClampNeg p5.1) (tq_rg a0 11) ((0 : Int32)).toNatClampNeg ((((tq_up2 (tq_up2 p5.2 (tq_rg a0 11) (((1 : Int32) + ((2 : Int32) * (p5.2 (tq_rg a0 11) ((0 : Int32)).toNatClampNeg)))).toNatClampNeg (((8 : Int32) * p4.1) + p3.1)) (tq_rg a0 11) (((2 : Int32) + ((2 : Int32) * (((tq_up2 p5.2 (tq_rg a0 11) (((1 : Int32) + ((2 : Int32) * (p5.2 (tq_rg a0 11) ((0 : Int32)).toNatClampNeg)))).toNatClampNeg (((8 : Int32) * p4.1) + p3.1))) (tq_rg a0 11) ((0 : Int32)).toNatClampNeg)))).toNatClampNeg p5.1)) (tq_rg a0 11) ((0 : Int32)).toNatClampNeg) + (1 : Int32)))) L a0) else none) else none) else none) else none) else none) else none)) else none))))
noncomputable def FX12_logLine (I : tq_PI) (L : tq_PL) (a0 : Nat) : Option (tq_PI) :=
  ((FX12_wordIn I L a0 ((10 : Int32)) ((10 : Int32))).bind fun p1 => (if (p1.2 a0 8) = 0 then (if 0 ≤ (0 : Int32) ∧ (0 : Int32) < 121 then (if (p1.2 (tq_rg a0 11) ((0 : Int32)).toNatClampNeg) < (8 : Int32) then (FX12_logLine_j38 p1.2 L a0) else ((FX12_also p1.2 L a0 ((3 : Int32)) ((I a0 4))).bind fun p17 => (FX12_logLine_j38 p17 L a0))) else none) else (FX12_logLine_j38 p1.2 L a0)))
set_option maxRecDepth 100000 in
set_option maxHeartbeats 4000000 in
theorem FX12_logLine_j121_x {S : Nat × (Nat → Int32)} {d : Nat} {I : tq_PI} {L : tq_PL} {a0 : Nat} (h0 : tq_sh0 a0 = 12) {q0 : Option Value → tq_PI → tq_PL → Prop} {out : tq_PI} (hf : FX12_logLine_j121 I L a0 = some out) (hk : q0 none out L) : tq_X S mX12_logLine (d + 5) tq_k0 121 ([.ref a0, tq_u, tq_u, tq_u, tq_u]) ([]) (tq_st I L) (tq_Q q0) := by
  unfold FX12_logLine_j121 at hf
  refine tq_aload_n rX12_logLine_121 rfl ?_
  obtain ⟨p8, e8, hf⟩ := Option.bind_eq_some_iff.mp hf
  refine ty_callVV ([]) ([]) rX12_logLine_122 l_X12_142 moX12_endsLine mvX12_endsLine h0 rfl rfl (Nat.le_of_ble_eq_true rfl) ⟨rfl, rfl⟩ (CX12_endsLine h0 e8) ?_
  refine ty_vret rX12_logLine_125 rfl rfl ?_
  have hf := Option.some.inj hf
  subst hf
  exact hk

set_option maxRecDepth 100000 in
set_option maxHeartbeats 4000000 in
theorem FX12_logLine_j38_x {S : Nat × (Nat → Int32)} {d : Nat} {I : tq_PI} {L : tq_PL} {a0 : Nat} (h0 : tq_sh0 a0 = 12) {q0 : Option Value → tq_PI → tq_PL → Prop} {out : tq_PI} (hf : FX12_logLine_j38 I L a0 = some out) (hk : q0 none out L) : tq_X S mX12_logLine (d + 5) tq_k0 38 ([.ref a0, tq_u, tq_u, tq_u, tq_u]) ([]) (tq_st I L) (tq_Q q0) := by
  unfold FX12_logLine_j38 at hf
  refine tq_aload_n rX12_logLine_38 rfl ?_
  refine tq_iconst (0 : Int32) rX12_logLine_39 (by decide) ?_
  refine tq_bipush (7 : Int32) rX12_logLine_40 (by decide) ?_
  obtain ⟨p3, e3, hf⟩ := Option.bind_eq_some_iff.mp hf
  refine ty_callVI p3.1 ([.int (0 : Int32), .int (7 : Int32)]) ([]) rX12_logLine_42 l_X12_133 moX12_numbered mvX12_numbered h0 rfl rfl (Nat.le_of_ble_eq_true rfl) ⟨rfl, rfl⟩ (CX12_numbered h0 e3) ?_
  refine tq_istore_n ([.ref a0, tq_u, .int p3.1, tq_u, tq_u]) rX12_logLine_45 (Nat.le_of_ble_eq_true rfl) rfl ?_
  refine tq_aload_n rX12_logLine_46 rfl ?_
  refine tq_iconst (0 : Int32) rX12_logLine_47 (by decide) ?_
  refine tq_iconst (5 : Int32) rX12_logLine_48 (by decide) ?_
  obtain ⟨p4, e4, hf⟩ := Option.bind_eq_some_iff.mp hf
  refine ty_callVI p4.1 ([.int (0 : Int32), .int (5 : Int32)]) ([]) rX12_logLine_49 l_X12_133 moX12_numbered mvX12_numbered h0 rfl rfl (Nat.le_of_ble_eq_true rfl) ⟨rfl, rfl⟩ (CX12_numbered h0 e4) ?_
  refine tq_istore_n ([.ref a0, tq_u, .int p3.1, .int p4.1, tq_u]) rX12_logLine_52 (Nat.le_of_ble_eq_true rfl) rfl ?_
  refine tq_aload_n rX12_logLine_53 rfl ?_
  refine tq_iconst (0 : Int32) rX12_logLine_54 (by decide) ?_
  refine tq_bipush (9 : Int32) rX12_logLine_55 (by decide) ?_
  obtain ⟨p5, e5, hf⟩ := Option.bind_eq_some_iff.mp hf
  refine ty_callVI p5.1 ([.int (0 : Int32), .int (9 : Int32)]) ([]) rX12_logLine_57 l_X12_133 moX12_numbered mvX12_numbered h0 rfl rfl (Nat.le_of_ble_eq_true rfl) ⟨rfl, rfl⟩ (CX12_numbered h0 e5) ?_
  refine tq_istore ([.ref a0, tq_u, .int p3.1, .int p4.1, .int p5.1]) rX12_logLine_60 (Nat.le_of_ble_eq_true rfl) rfl ?_
  refine tq_aload_n rX12_logLine_62 rfl ?_
  refine ty_getR rX12_logLine_63 f_X12_17 rfl h0 (hp_12_11 h0).1 ?_
  refine tq_iconst (0 : Int32) rX12_logLine_66 (by decide) ?_
  obtain ⟨g6, hf⟩ := tq_chk hf
  refine ty_iald (v := 121) rX12_logLine_67 (hp_12_11 h0).2.1 (hp_12_11 h0).2.2 rfl (by decide) g6 ?_
  refine tq_bipush (8 : Int32) rX12_logLine_68 (by decide) ?_
  refine tq_icmp_ge rX12_logLine_70 (fun c7 => ?_) (fun c7 => ?_)
  · rw [if_pos c7] at hf
    exact tq_forget _ (tq_le_s (tq_le_u (tq_le_u (tq_le_u (tq_le_u tq_le_n))))) (FX12_logLine_j121_x  h0 hf hk)
  · rw [if_neg c7] at hf
    refine tq_aload_n rX12_logLine_73 rfl ?_
    refine ty_getR rX12_logLine_74 f_X12_17 rfl h0 (hp_12_11 h0).1 ?_
    refine tq_iconst (1 : Int32) rX12_logLine_77 (by decide) ?_
    refine tq_iconst (2 : Int32) rX12_logLine_78 (by decide) ?_
    refine tq_aload_n rX12_logLine_79 rfl ?_
    refine ty_getR rX12_logLine_80 f_X12_17 rfl h0 (hp_12_11 h0).1 ?_
    refine tq_iconst (0 : Int32) rX12_logLine_83 (by decide) ?_
    obtain ⟨g9, hf⟩ := tq_chk hf
    refine ty_iald (v := 121) rX12_logLine_84 (hp_12_11 h0).2.1 (hp_12_11 h0).2.2 rfl (by decide) g9 ?_
    refine tq_imul rX12_logLine_85 ?_
    refine tq_iadd rX12_logLine_86 ?_
    refine tq_bipush (8 : Int32) rX12_logLine_87 (by decide) ?_
    refine tq_iload_n rX12_logLine_89 rfl ?_
    refine tq_imul rX12_logLine_90 ?_
    refine tq_iload_n rX12_logLine_91 rfl ?_
    refine tq_iadd rX12_logLine_92 ?_
    obtain ⟨g10, hf⟩ := tq_chk hf
    refine ty_iast (v := 121) rX12_logLine_93 (hp_12_11 h0).2.1 (hp_12_11 h0).2.2 rfl (by decide) g10 ?_
    refine tq_aload_n rX12_logLine_94 rfl ?_
    refine ty_getR rX12_logLine_95 f_X12_17 rfl h0 (hp_12_11 h0).1 ?_
    refine tq_iconst (2 : Int32) rX12_logLine_98 (by decide) ?_
    refine tq_iconst (2 : Int32) rX12_logLine_99 (by decide) ?_
    refine tq_aload_n rX12_logLine_100 rfl ?_
    refine ty_getR rX12_logLine_101 f_X12_17 rfl h0 (hp_12_11 h0).1 ?_
    refine tq_iconst (0 : Int32) rX12_logLine_104 (by decide) ?_
    obtain ⟨g11, hf⟩ := tq_chk hf
    refine ty_iald (v := 121) rX12_logLine_105 (hp_12_11 h0).2.1 (hp_12_11 h0).2.2 rfl (by decide) g11 ?_
    refine tq_imul rX12_logLine_106 ?_
    refine tq_iadd rX12_logLine_107 ?_
    refine tq_iload rX12_logLine_108 rfl ?_
    obtain ⟨g12, hf⟩ := tq_chk hf
    refine ty_iast (v := 121) rX12_logLine_110 (hp_12_11 h0).2.1 (hp_12_11 h0).2.2 rfl (by decide) g12 ?_
    refine tq_aload_n rX12_logLine_111 rfl ?_
    refine ty_getR rX12_logLine_112 f_X12_17 rfl h0 (hp_12_11 h0).1 ?_
    refine tq_iconst (0 : Int32) rX12_logLine_115 (by decide) ?_
    refine tq_dup2 rX12_logLine_116 rfl rfl ?_
    obtain ⟨g13, hf⟩ := tq_chk hf
    refine ty_iald (v := 121) rX12_logLine_117 (hp_12_11 h0).2.1 (hp_12_11 h0).2.2 rfl (by decide) g13 ?_
    refine tq_iconst (1 : Int32) rX12_logLine_118 (by decide) ?_
    refine tq_iadd rX12_logLine_119 ?_
    obtain ⟨g14, hf⟩ := tq_chk hf
    refine ty_iast (v := 121) rX12_logLine_120 (hp_12_11 h0).2.1 (hp_12_11 h0).2.2 rfl (by decide) g14 ?_
    exact tq_forget _ (tq_le_s (tq_le_u (tq_le_u (tq_le_u (tq_le_u tq_le_n))))) (FX12_logLine_j121_x  h0 hf hk)

set_option maxRecDepth 100000 in
set_option maxHeartbeats 4000000 in
theorem CX12_logLine {S : Nat × (Nat → Int32)} {d : Nat} {I : tq_PI} {L : tq_PL} {a0 : Nat} (h0 : tq_sh0 a0 = 12) {out : tq_PI} (hf : FX12_logLine I L a0 = some out) : tq_K S mX12_logLine (d + 5) [.ref a0] I L (tq_one2 (none) out L) := by
  unfold FX12_logLine at hf
  refine tq_K_of (by decide) (Nat.le_of_ble_eq_true rfl) (ls := [.ref a0, tq_u, tq_u, tq_u, tq_u]) rfl ?_
  refine tq_aload_n rX12_logLine_0 rfl ?_
  refine ty_getI rX12_logLine_1 f_X12_84 rfl h0 ?_
  refine tq_istore_n ([.ref a0, .int (I a0 4), tq_u, tq_u, tq_u]) rX12_logLine_4 (Nat.le_of_ble_eq_true rfl) rfl ?_
  refine tq_aload_n rX12_logLine_5 rfl ?_
  refine tq_bipush (10 : Int32) rX12_logLine_6 (by decide) ?_
  refine tq_bipush (10 : Int32) rX12_logLine_8 (by decide) ?_
  obtain ⟨p1, e1, hf⟩ := Option.bind_eq_some_iff.mp hf
  refine ty_callVI p1.1 ([.int (10 : Int32), .int (10 : Int32)]) ([]) rX12_logLine_10 l_X12_129 moX12_wordIn mvX12_wordIn h0 rfl rfl (Nat.le_of_ble_eq_true rfl) ⟨rfl, rfl⟩ (CX12_wordIn h0 e1) ?_
  refine tq_pop rX12_logLine_13 rfl ?_
  refine tq_aload_n rX12_logLine_14 rfl ?_
  refine ty_getI rX12_logLine_15 f_X12_111 rfl h0 ?_
  refine tq_if_ne rX12_logLine_18 (fun c2 => ?_) (fun c2 => ?_)
  · rw [if_neg c2] at hf
    exact tq_forget _ (tq_le_s (tq_le_u (tq_le_u (tq_le_u (tq_le_u tq_le_n))))) (FX12_logLine_j38_x  h0 hf ⟨rfl, rfl, rfl⟩)
  · rw [if_pos c2] at hf
    refine tq_aload_n rX12_logLine_21 rfl ?_
    refine ty_getR rX12_logLine_22 f_X12_17 rfl h0 (hp_12_11 h0).1 ?_
    refine tq_iconst (0 : Int32) rX12_logLine_25 (by decide) ?_
    obtain ⟨g15, hf⟩ := tq_chk hf
    refine ty_iald (v := 121) rX12_logLine_26 (hp_12_11 h0).2.1 (hp_12_11 h0).2.2 rfl (by decide) g15 ?_
    refine tq_bipush (8 : Int32) rX12_logLine_27 (by decide) ?_
    refine tq_icmp_lt rX12_logLine_29 (fun c16 => ?_) (fun c16 => ?_)
    · rw [if_pos c16] at hf
      exact tq_forget _ (tq_le_s (tq_le_u (tq_le_u (tq_le_u (tq_le_u tq_le_n))))) (FX12_logLine_j38_x  h0 hf ⟨rfl, rfl, rfl⟩)
    · rw [if_neg c16] at hf
      refine tq_aload_n rX12_logLine_32 rfl ?_
      refine tq_iconst (3 : Int32) rX12_logLine_33 (by decide) ?_
      refine tq_iload_n rX12_logLine_34 rfl ?_
      obtain ⟨p17, e17, hf⟩ := Option.bind_eq_some_iff.mp hf
      refine ty_callVV ([.int (3 : Int32), .int (I a0 4)]) ([]) rX12_logLine_35 l_X12_122 moX12_also mvX12_also h0 rfl rfl (Nat.le_of_ble_eq_true rfl) ⟨rfl, rfl⟩ (CX12_also h0 e17) ?_
      exact tq_forget _ (tq_le_s (tq_le_u (tq_le_u (tq_le_u (tq_le_u tq_le_n))))) (FX12_logLine_j38_x  h0 hf ⟨rfl, rfl, rfl⟩)

abbrev mX12_talkLine : tq_M := (yX12_talkLine, cX12_talkLine, 3, (Option.none : Option Jvm.ClassFile.FieldType), 0, 0)
theorem rX12_talkLine_0 : tq_D cX12_talkLine 0 (.aload_n 0) 1 1 := ⟨by decide +kernel, rfl⟩
theorem rX12_talkLine_1 : tq_D cX12_talkLine 1 (.getfield 84) 3 4 := ⟨by decide +kernel, rfl⟩
theorem rX12_talkLine_4 : tq_D cX12_talkLine 4 (.istore_n 1) 1 5 := ⟨by decide +kernel, rfl⟩
theorem rX12_talkLine_5 : tq_D cX12_talkLine 5 (.aload_n 0) 1 6 := ⟨by decide +kernel, rfl⟩
theorem rX12_talkLine_6 : tq_D cX12_talkLine 6 (.bipush 11) 2 8 := ⟨by decide +kernel, rfl⟩
theorem rX12_talkLine_8 : tq_D cX12_talkLine 8 (.bipush 11) 2 10 := ⟨by decide +kernel, rfl⟩
theorem rX12_talkLine_10 : tq_D cX12_talkLine 10 (.invokevirtual 129) 3 13 := ⟨by decide +kernel, rfl⟩
theorem rX12_talkLine_13 : tq_D cX12_talkLine 13 (.pop) 1 14 := ⟨by decide +kernel, rfl⟩
theorem rX12_talkLine_14 : tq_D cX12_talkLine 14 (.aload_n 0) 1 15 := ⟨by decide +kernel, rfl⟩
theorem rX12_talkLine_15 : tq_D cX12_talkLine 15 (.getfield 111) 3 18 := ⟨by decide +kernel, rfl⟩
theorem rX12_talkLine_18 : tq_J cX12_talkLine 18 (.ifCond .ne) 38 21 := ⟨20, by decide +kernel, by decide, rfl⟩
theorem rX12_talkLine_21 : tq_D cX12_talkLine 21 (.aload_n 0) 1 22 := ⟨by decide +kernel, rfl⟩
theorem rX12_talkLine_22 : tq_D cX12_talkLine 22 (.getfield 17) 3 25 := ⟨by decide +kernel, rfl⟩
theorem rX12_talkLine_25 : tq_D cX12_talkLine 25 (.iconst 0) 1 26 := ⟨by decide +kernel, rfl⟩
theorem rX12_talkLine_26 : tq_D cX12_talkLine 26 (.iaload) 1 27 := ⟨by decide +kernel, rfl⟩
theorem rX12_talkLine_27 : tq_D cX12_talkLine 27 (.bipush 8) 2 29 := ⟨by decide +kernel, rfl⟩
theorem rX12_talkLine_29 : tq_J cX12_talkLine 29 (.if_icmp .lt) 38 32 := ⟨9, by decide +kernel, by decide, rfl⟩
theorem rX12_talkLine_32 : tq_D cX12_talkLine 32 (.aload_n 0) 1 33 := ⟨by decide +kernel, rfl⟩
theorem rX12_talkLine_33 : tq_D cX12_talkLine 33 (.iconst 3) 1 34 := ⟨by decide +kernel, rfl⟩
theorem rX12_talkLine_34 : tq_D cX12_talkLine 34 (.iload_n 1) 1 35 := ⟨by decide +kernel, rfl⟩
theorem rX12_talkLine_35 : tq_D cX12_talkLine 35 (.invokevirtual 122) 3 38 := ⟨by decide +kernel, rfl⟩
theorem rX12_talkLine_38 : tq_D cX12_talkLine 38 (.aload_n 0) 1 39 := ⟨by decide +kernel, rfl⟩
theorem rX12_talkLine_39 : tq_D cX12_talkLine 39 (.iconst 0) 1 40 := ⟨by decide +kernel, rfl⟩
theorem rX12_talkLine_40 : tq_D cX12_talkLine 40 (.bipush 99) 2 42 := ⟨by decide +kernel, rfl⟩
theorem rX12_talkLine_42 : tq_D cX12_talkLine 42 (.invokevirtual 133) 3 45 := ⟨by decide +kernel, rfl⟩
theorem rX12_talkLine_45 : tq_D cX12_talkLine 45 (.istore_n 2) 1 46 := ⟨by decide +kernel, rfl⟩
theorem rX12_talkLine_46 : tq_D cX12_talkLine 46 (.aload_n 0) 1 47 := ⟨by decide +kernel, rfl⟩
theorem rX12_talkLine_47 : tq_D cX12_talkLine 47 (.getfield 17) 3 50 := ⟨by decide +kernel, rfl⟩
theorem rX12_talkLine_50 : tq_D cX12_talkLine 50 (.iconst 0) 1 51 := ⟨by decide +kernel, rfl⟩
theorem rX12_talkLine_51 : tq_D cX12_talkLine 51 (.iaload) 1 52 := ⟨by decide +kernel, rfl⟩
theorem rX12_talkLine_52 : tq_D cX12_talkLine 52 (.bipush 8) 2 54 := ⟨by decide +kernel, rfl⟩
theorem rX12_talkLine_54 : tq_J cX12_talkLine 54 (.if_icmp .ge) 81 57 := ⟨27, by decide +kernel, by decide, rfl⟩
theorem rX12_talkLine_57 : tq_D cX12_talkLine 57 (.aload_n 0) 1 58 := ⟨by decide +kernel, rfl⟩
theorem rX12_talkLine_58 : tq_D cX12_talkLine 58 (.getfield 17) 3 61 := ⟨by decide +kernel, rfl⟩
theorem rX12_talkLine_61 : tq_D cX12_talkLine 61 (.iconst 1) 1 62 := ⟨by decide +kernel, rfl⟩
theorem rX12_talkLine_62 : tq_D cX12_talkLine 62 (.aload_n 0) 1 63 := ⟨by decide +kernel, rfl⟩
theorem rX12_talkLine_63 : tq_D cX12_talkLine 63 (.getfield 17) 3 66 := ⟨by decide +kernel, rfl⟩
theorem rX12_talkLine_66 : tq_D cX12_talkLine 66 (.iconst 0) 1 67 := ⟨by decide +kernel, rfl⟩
theorem rX12_talkLine_67 : tq_D cX12_talkLine 67 (.iaload) 1 68 := ⟨by decide +kernel, rfl⟩
theorem rX12_talkLine_68 : tq_D cX12_talkLine 68 (.iadd) 1 69 := ⟨by decide +kernel, rfl⟩
theorem rX12_talkLine_69 : tq_D cX12_talkLine 69 (.iload_n 2) 1 70 := ⟨by decide +kernel, rfl⟩
theorem rX12_talkLine_70 : tq_D cX12_talkLine 70 (.iastore) 1 71 := ⟨by decide +kernel, rfl⟩
theorem rX12_talkLine_71 : tq_D cX12_talkLine 71 (.aload_n 0) 1 72 := ⟨by decide +kernel, rfl⟩
theorem rX12_talkLine_72 : tq_D cX12_talkLine 72 (.getfield 17) 3 75 := ⟨by decide +kernel, rfl⟩
theorem rX12_talkLine_75 : tq_D cX12_talkLine 75 (.iconst 0) 1 76 := ⟨by decide +kernel, rfl⟩
theorem rX12_talkLine_76 : tq_D cX12_talkLine 76 (.dup2) 1 77 := ⟨by decide +kernel, rfl⟩
theorem rX12_talkLine_77 : tq_D cX12_talkLine 77 (.iaload) 1 78 := ⟨by decide +kernel, rfl⟩
theorem rX12_talkLine_78 : tq_D cX12_talkLine 78 (.iconst 1) 1 79 := ⟨by decide +kernel, rfl⟩
theorem rX12_talkLine_79 : tq_D cX12_talkLine 79 (.iadd) 1 80 := ⟨by decide +kernel, rfl⟩
theorem rX12_talkLine_80 : tq_D cX12_talkLine 80 (.iastore) 1 81 := ⟨by decide +kernel, rfl⟩
theorem rX12_talkLine_81 : tq_D cX12_talkLine 81 (.aload_n 0) 1 82 := ⟨by decide +kernel, rfl⟩
theorem rX12_talkLine_82 : tq_D cX12_talkLine 82 (.invokevirtual 142) 3 85 := ⟨by decide +kernel, rfl⟩
theorem rX12_talkLine_85 : decode cX12_talkLine 85 = .ok (.return_, 1) := by decide +kernel
noncomputable def FX12_talkLine_j81 (I : tq_PI) (L : tq_PL) (a0 : Nat) : Option (tq_PI) :=
  ((FX12_endsLine I L a0).bind fun p6 => some p6)
noncomputable def FX12_talkLine_j38 (I : tq_PI) (L : tq_PL) (a0 : Nat) : Option (tq_PI) :=
  ((FX12_numbered I L a0 ((0 : Int32)) ((99 : Int32))).bind fun p3 => (if 0 ≤ (0 : Int32) ∧ (0 : Int32) < 121 then (if (8 : Int32) ≤ (p3.2 (tq_rg a0 11) ((0 : Int32)).toNatClampNeg) then (FX12_talkLine_j81 p3.2 L a0) else (if 0 ≤ (0 : Int32) ∧ (0 : Int32) < 121 then (if 0 ≤ ((1 : Int32) + (p3.2 (tq_rg a0 11) ((0 : Int32)).toNatClampNeg)) ∧ ((1 : Int32) + (p3.2 (tq_rg a0 11) ((0 : Int32)).toNatClampNeg)) < 121 then (if 0 ≤ (0 : Int32) ∧ (0 : Int32) < 121 then (if 0 ≤ (0 : Int32) ∧ (0 : Int32) < 121 then (FX12_talkLine_j81 ((tq_up2 (tq_up2 p3.2 (tq_rg a0 11) (((1 : Int32) + (p3.2 (tq_rg a0 11) ((0 : Int32)).toNatClampNeg))).toNatClampNeg p3.1) (tq_rg a0 11) ((0 : Int32)).toNatClampNeg ((((tq_up2 p3.2 (tq_rg a0 11) (((1 : Int32) + (p3.2 (tq_rg a0 11) ((0 : Int32)).toNatClampNeg))).toNatClampNeg p3.1)) (tq_rg a0 11) ((0 : Int32)).toNatClampNeg) + (1 : Int32)))) L a0) else none) else none) else none) else none)) else none))
noncomputable def FX12_talkLine (I : tq_PI) (L : tq_PL) (a0 : Nat) : Option (tq_PI) :=
  ((FX12_wordIn I L a0 ((11 : Int32)) ((11 : Int32))).bind fun p1 => (if (p1.2 a0 8) = 0 then (if 0 ≤ (0 : Int32) ∧ (0 : Int32) < 121 then (if (p1.2 (tq_rg a0 11) ((0 : Int32)).toNatClampNeg) < (8 : Int32) then (FX12_talkLine_j38 p1.2 L a0) else ((FX12_also p1.2 L a0 ((3 : Int32)) ((I a0 4))).bind fun p13 => (FX12_talkLine_j38 p13 L a0))) else none) else (FX12_talkLine_j38 p1.2 L a0)))
set_option maxRecDepth 100000 in
set_option maxHeartbeats 4000000 in
theorem FX12_talkLine_j81_x {S : Nat × (Nat → Int32)} {d : Nat} {I : tq_PI} {L : tq_PL} {a0 : Nat} (h0 : tq_sh0 a0 = 12) {q0 : Option Value → tq_PI → tq_PL → Prop} {out : tq_PI} (hf : FX12_talkLine_j81 I L a0 = some out) (hk : q0 none out L) : tq_X S mX12_talkLine (d + 5) tq_k0 81 ([.ref a0, tq_u, tq_u]) ([]) (tq_st I L) (tq_Q q0) := by
  unfold FX12_talkLine_j81 at hf
  refine tq_aload_n rX12_talkLine_81 rfl ?_
  obtain ⟨p6, e6, hf⟩ := Option.bind_eq_some_iff.mp hf
  refine ty_callVV ([]) ([]) rX12_talkLine_82 l_X12_142 moX12_endsLine mvX12_endsLine h0 rfl rfl (Nat.le_of_ble_eq_true rfl) ⟨rfl, rfl⟩ (CX12_endsLine h0 e6) ?_
  refine ty_vret rX12_talkLine_85 rfl rfl ?_
  have hf := Option.some.inj hf
  subst hf
  exact hk

set_option maxRecDepth 100000 in
set_option maxHeartbeats 4000000 in
theorem FX12_talkLine_j38_x {S : Nat × (Nat → Int32)} {d : Nat} {I : tq_PI} {L : tq_PL} {a0 : Nat} (h0 : tq_sh0 a0 = 12) {q0 : Option Value → tq_PI → tq_PL → Prop} {out : tq_PI} (hf : FX12_talkLine_j38 I L a0 = some out) (hk : q0 none out L) : tq_X S mX12_talkLine (d + 5) tq_k0 38 ([.ref a0, tq_u, tq_u]) ([]) (tq_st I L) (tq_Q q0) := by
  unfold FX12_talkLine_j38 at hf
  refine tq_aload_n rX12_talkLine_38 rfl ?_
  refine tq_iconst (0 : Int32) rX12_talkLine_39 (by decide) ?_
  refine tq_bipush (99 : Int32) rX12_talkLine_40 (by decide) ?_
  obtain ⟨p3, e3, hf⟩ := Option.bind_eq_some_iff.mp hf
  refine ty_callVI p3.1 ([.int (0 : Int32), .int (99 : Int32)]) ([]) rX12_talkLine_42 l_X12_133 moX12_numbered mvX12_numbered h0 rfl rfl (Nat.le_of_ble_eq_true rfl) ⟨rfl, rfl⟩ (CX12_numbered h0 e3) ?_
  refine tq_istore_n ([.ref a0, tq_u, .int p3.1]) rX12_talkLine_45 (Nat.le_of_ble_eq_true rfl) rfl ?_
  refine tq_aload_n rX12_talkLine_46 rfl ?_
  refine ty_getR rX12_talkLine_47 f_X12_17 rfl h0 (hp_12_11 h0).1 ?_
  refine tq_iconst (0 : Int32) rX12_talkLine_50 (by decide) ?_
  obtain ⟨g4, hf⟩ := tq_chk hf
  refine ty_iald (v := 121) rX12_talkLine_51 (hp_12_11 h0).2.1 (hp_12_11 h0).2.2 rfl (by decide) g4 ?_
  refine tq_bipush (8 : Int32) rX12_talkLine_52 (by decide) ?_
  refine tq_icmp_ge rX12_talkLine_54 (fun c5 => ?_) (fun c5 => ?_)
  · rw [if_pos c5] at hf
    exact tq_forget _ (tq_le_s (tq_le_u (tq_le_u tq_le_n))) (FX12_talkLine_j81_x  h0 hf hk)
  · rw [if_neg c5] at hf
    refine tq_aload_n rX12_talkLine_57 rfl ?_
    refine ty_getR rX12_talkLine_58 f_X12_17 rfl h0 (hp_12_11 h0).1 ?_
    refine tq_iconst (1 : Int32) rX12_talkLine_61 (by decide) ?_
    refine tq_aload_n rX12_talkLine_62 rfl ?_
    refine ty_getR rX12_talkLine_63 f_X12_17 rfl h0 (hp_12_11 h0).1 ?_
    refine tq_iconst (0 : Int32) rX12_talkLine_66 (by decide) ?_
    obtain ⟨g7, hf⟩ := tq_chk hf
    refine ty_iald (v := 121) rX12_talkLine_67 (hp_12_11 h0).2.1 (hp_12_11 h0).2.2 rfl (by decide) g7 ?_
    refine tq_iadd rX12_talkLine_68 ?_
    refine tq_iload_n rX12_talkLine_69 rfl ?_
    obtain ⟨g8, hf⟩ := tq_chk hf
    refine ty_iast (v := 121) rX12_talkLine_70 (hp_12_11 h0).2.1 (hp_12_11 h0).2.2 rfl (by decide) g8 ?_
    refine tq_aload_n rX12_talkLine_71 rfl ?_
    refine ty_getR rX12_talkLine_72 f_X12_17 rfl h0 (hp_12_11 h0).1 ?_
    refine tq_iconst (0 : Int32) rX12_talkLine_75 (by decide) ?_
    refine tq_dup2 rX12_talkLine_76 rfl rfl ?_
    obtain ⟨g9, hf⟩ := tq_chk hf
    refine ty_iald (v := 121) rX12_talkLine_77 (hp_12_11 h0).2.1 (hp_12_11 h0).2.2 rfl (by decide) g9 ?_
    refine tq_iconst (1 : Int32) rX12_talkLine_78 (by decide) ?_
    refine tq_iadd rX12_talkLine_79 ?_
    obtain ⟨g10, hf⟩ := tq_chk hf
    refine ty_iast (v := 121) rX12_talkLine_80 (hp_12_11 h0).2.1 (hp_12_11 h0).2.2 rfl (by decide) g10 ?_
    exact tq_forget _ (tq_le_s (tq_le_u (tq_le_u tq_le_n))) (FX12_talkLine_j81_x  h0 hf hk)

set_option maxRecDepth 100000 in
set_option maxHeartbeats 4000000 in
theorem CX12_talkLine {S : Nat × (Nat → Int32)} {d : Nat} {I : tq_PI} {L : tq_PL} {a0 : Nat} (h0 : tq_sh0 a0 = 12) {out : tq_PI} (hf : FX12_talkLine I L a0 = some out) : tq_K S mX12_talkLine (d + 5) [.ref a0] I L (tq_one2 (none) out L) := by
  unfold FX12_talkLine at hf
  refine tq_K_of (by decide) (Nat.le_of_ble_eq_true rfl) (ls := [.ref a0, tq_u, tq_u]) rfl ?_
  refine tq_aload_n rX12_talkLine_0 rfl ?_
  refine ty_getI rX12_talkLine_1 f_X12_84 rfl h0 ?_
  refine tq_istore_n ([.ref a0, .int (I a0 4), tq_u]) rX12_talkLine_4 (Nat.le_of_ble_eq_true rfl) rfl ?_
  refine tq_aload_n rX12_talkLine_5 rfl ?_
  refine tq_bipush (11 : Int32) rX12_talkLine_6 (by decide) ?_
  refine tq_bipush (11 : Int32) rX12_talkLine_8 (by decide) ?_
  obtain ⟨p1, e1, hf⟩ := Option.bind_eq_some_iff.mp hf
  refine ty_callVI p1.1 ([.int (11 : Int32), .int (11 : Int32)]) ([]) rX12_talkLine_10 l_X12_129 moX12_wordIn mvX12_wordIn h0 rfl rfl (Nat.le_of_ble_eq_true rfl) ⟨rfl, rfl⟩ (CX12_wordIn h0 e1) ?_
  refine tq_pop rX12_talkLine_13 rfl ?_
  refine tq_aload_n rX12_talkLine_14 rfl ?_
  refine ty_getI rX12_talkLine_15 f_X12_111 rfl h0 ?_
  refine tq_if_ne rX12_talkLine_18 (fun c2 => ?_) (fun c2 => ?_)
  · rw [if_neg c2] at hf
    exact tq_forget _ (tq_le_s (tq_le_u (tq_le_u tq_le_n))) (FX12_talkLine_j38_x  h0 hf ⟨rfl, rfl, rfl⟩)
  · rw [if_pos c2] at hf
    refine tq_aload_n rX12_talkLine_21 rfl ?_
    refine ty_getR rX12_talkLine_22 f_X12_17 rfl h0 (hp_12_11 h0).1 ?_
    refine tq_iconst (0 : Int32) rX12_talkLine_25 (by decide) ?_
    obtain ⟨g11, hf⟩ := tq_chk hf
    refine ty_iald (v := 121) rX12_talkLine_26 (hp_12_11 h0).2.1 (hp_12_11 h0).2.2 rfl (by decide) g11 ?_
    refine tq_bipush (8 : Int32) rX12_talkLine_27 (by decide) ?_
    refine tq_icmp_lt rX12_talkLine_29 (fun c12 => ?_) (fun c12 => ?_)
    · rw [if_pos c12] at hf
      exact tq_forget _ (tq_le_s (tq_le_u (tq_le_u tq_le_n))) (FX12_talkLine_j38_x  h0 hf ⟨rfl, rfl, rfl⟩)
    · rw [if_neg c12] at hf
      refine tq_aload_n rX12_talkLine_32 rfl ?_
      refine tq_iconst (3 : Int32) rX12_talkLine_33 (by decide) ?_
      refine tq_iload_n rX12_talkLine_34 rfl ?_
      obtain ⟨p13, e13, hf⟩ := Option.bind_eq_some_iff.mp hf
      refine ty_callVV ([.int (3 : Int32), .int (I a0 4)]) ([]) rX12_talkLine_35 l_X12_122 moX12_also mvX12_also h0 rfl rfl (Nat.le_of_ble_eq_true rfl) ⟨rfl, rfl⟩ (CX12_also h0 e13) ?_
      exact tq_forget _ (tq_le_s (tq_le_u (tq_le_u tq_le_n))) (FX12_talkLine_j38_x  h0 hf ⟨rfl, rfl, rfl⟩)

abbrev mX12_settles : tq_M := (yX12_settles, cX12_settles, 2, (Option.none : Option Jvm.ClassFile.FieldType), 0, 0)
theorem f_X12_20 : tq_fok RX12 20 12 15 := ⟨by decide, by decide, Or.inl (tq_sg6 _ (List.mem_of_getElem? (i := 88) rfl))⟩
theorem rX12_settles_0 : tq_D cX12_settles 0 (.iconst 0) 1 1 := ⟨by decide +kernel, rfl⟩
theorem rX12_settles_1 : tq_D cX12_settles 1 (.istore_n 1) 1 2 := ⟨by decide +kernel, rfl⟩
theorem rX12_settles_2 : tq_D cX12_settles 2 (.iload_n 1) 1 3 := ⟨by decide +kernel, rfl⟩
theorem rX12_settles_3 : tq_D cX12_settles 3 (.bipush 48) 2 5 := ⟨by decide +kernel, rfl⟩
theorem rX12_settles_5 : tq_J cX12_settles 5 (.if_icmp .ge) 68 8 := ⟨63, by decide +kernel, by decide, rfl⟩
theorem rX12_settles_8 : tq_D cX12_settles 8 (.aload_n 0) 1 9 := ⟨by decide +kernel, rfl⟩
theorem rX12_settles_9 : tq_D cX12_settles 9 (.getfield 20) 3 12 := ⟨by decide +kernel, rfl⟩
theorem rX12_settles_12 : tq_D cX12_settles 12 (.iload_n 1) 1 13 := ⟨by decide +kernel, rfl⟩
theorem rX12_settles_13 : tq_D cX12_settles 13 (.iload_n 1) 1 14 := ⟨by decide +kernel, rfl⟩
theorem rX12_settles_14 : tq_D cX12_settles 14 (.aload_n 0) 1 15 := ⟨by decide +kernel, rfl⟩
theorem rX12_settles_15 : tq_D cX12_settles 15 (.getfield 17) 3 18 := ⟨by decide +kernel, rfl⟩
theorem rX12_settles_18 : tq_D cX12_settles 18 (.iconst 0) 1 19 := ⟨by decide +kernel, rfl⟩
theorem rX12_settles_19 : tq_D cX12_settles 19 (.iaload) 1 20 := ⟨by decide +kernel, rfl⟩
theorem rX12_settles_20 : tq_D cX12_settles 20 (.aload_n 0) 1 21 := ⟨by decide +kernel, rfl⟩
theorem rX12_settles_21 : tq_D cX12_settles 21 (.getfield 17) 3 24 := ⟨by decide +kernel, rfl⟩
theorem rX12_settles_24 : tq_D cX12_settles 24 (.iconst 1) 1 25 := ⟨by decide +kernel, rfl⟩
theorem rX12_settles_25 : tq_D cX12_settles 25 (.iaload) 1 26 := ⟨by decide +kernel, rfl⟩
theorem rX12_settles_26 : tq_D cX12_settles 26 (.imul) 1 27 := ⟨by decide +kernel, rfl⟩
theorem rX12_settles_27 : tq_J cX12_settles 27 (.if_icmp .ge) 60 30 := ⟨33, by decide +kernel, by decide, rfl⟩
theorem rX12_settles_30 : tq_D cX12_settles 30 (.aload_n 0) 1 31 := ⟨by decide +kernel, rfl⟩
theorem rX12_settles_31 : tq_D cX12_settles 31 (.getfield 17) 3 34 := ⟨by decide +kernel, rfl⟩
theorem rX12_settles_34 : tq_D cX12_settles 34 (.iconst 2) 1 35 := ⟨by decide +kernel, rfl⟩
theorem rX12_settles_35 : tq_D cX12_settles 35 (.bipush 8) 2 37 := ⟨by decide +kernel, rfl⟩
theorem rX12_settles_37 : tq_D cX12_settles 37 (.iload_n 1) 1 38 := ⟨by decide +kernel, rfl⟩
theorem rX12_settles_38 : tq_D cX12_settles 38 (.aload_n 0) 1 39 := ⟨by decide +kernel, rfl⟩
theorem rX12_settles_39 : tq_D cX12_settles 39 (.getfield 17) 3 42 := ⟨by decide +kernel, rfl⟩
theorem rX12_settles_42 : tq_D cX12_settles 42 (.iconst 0) 1 43 := ⟨by decide +kernel, rfl⟩
theorem rX12_settles_43 : tq_D cX12_settles 43 (.iaload) 1 44 := ⟨by decide +kernel, rfl⟩
theorem rX12_settles_44 : tq_D cX12_settles 44 (.idiv) 1 45 := ⟨by decide +kernel, rfl⟩
theorem rX12_settles_45 : tq_D cX12_settles 45 (.imul) 1 46 := ⟨by decide +kernel, rfl⟩
theorem rX12_settles_46 : tq_D cX12_settles 46 (.iadd) 1 47 := ⟨by decide +kernel, rfl⟩
theorem rX12_settles_47 : tq_D cX12_settles 47 (.iload_n 1) 1 48 := ⟨by decide +kernel, rfl⟩
theorem rX12_settles_48 : tq_D cX12_settles 48 (.aload_n 0) 1 49 := ⟨by decide +kernel, rfl⟩
theorem rX12_settles_49 : tq_D cX12_settles 49 (.getfield 17) 3 52 := ⟨by decide +kernel, rfl⟩
theorem rX12_settles_52 : tq_D cX12_settles 52 (.iconst 0) 1 53 := ⟨by decide +kernel, rfl⟩
theorem rX12_settles_53 : tq_D cX12_settles 53 (.iaload) 1 54 := ⟨by decide +kernel, rfl⟩
theorem rX12_settles_54 : tq_D cX12_settles 54 (.irem) 1 55 := ⟨by decide +kernel, rfl⟩
theorem rX12_settles_55 : tq_D cX12_settles 55 (.iadd) 1 56 := ⟨by decide +kernel, rfl⟩
theorem rX12_settles_56 : tq_D cX12_settles 56 (.iaload) 1 57 := ⟨by decide +kernel, rfl⟩
theorem rX12_settles_57 : tq_J cX12_settles 57 .goto 61 60 := ⟨4, by decide +kernel, by decide, rfl⟩
theorem rX12_settles_60 : tq_D cX12_settles 60 (.iconst 0) 1 61 := ⟨by decide +kernel, rfl⟩
theorem rX12_settles_61 : tq_D cX12_settles 61 (.iastore) 1 62 := ⟨by decide +kernel, rfl⟩
theorem rX12_settles_62 : tq_D cX12_settles 62 (.iinc 1 1) 3 65 := ⟨by decide +kernel, rfl⟩
theorem rX12_settles_65 : tq_J cX12_settles 65 .goto 2 68 := ⟨(-63), by decide +kernel, by decide, rfl⟩
theorem rX12_settles_68 : tq_D cX12_settles 68 (.iconst 0) 1 69 := ⟨by decide +kernel, rfl⟩
theorem rX12_settles_69 : tq_D cX12_settles 69 (.istore_n 1) 1 70 := ⟨by decide +kernel, rfl⟩
theorem rX12_settles_70 : tq_D cX12_settles 70 (.iload_n 1) 1 71 := ⟨by decide +kernel, rfl⟩
theorem rX12_settles_71 : tq_D cX12_settles 71 (.bipush 48) 2 73 := ⟨by decide +kernel, rfl⟩
theorem rX12_settles_73 : tq_J cX12_settles 73 (.if_icmp .ge) 96 76 := ⟨23, by decide +kernel, by decide, rfl⟩
theorem rX12_settles_76 : tq_D cX12_settles 76 (.aload_n 0) 1 77 := ⟨by decide +kernel, rfl⟩
theorem rX12_settles_77 : tq_D cX12_settles 77 (.getfield 17) 3 80 := ⟨by decide +kernel, rfl⟩
theorem rX12_settles_80 : tq_D cX12_settles 80 (.iconst 2) 1 81 := ⟨by decide +kernel, rfl⟩
theorem rX12_settles_81 : tq_D cX12_settles 81 (.iload_n 1) 1 82 := ⟨by decide +kernel, rfl⟩
theorem rX12_settles_82 : tq_D cX12_settles 82 (.iadd) 1 83 := ⟨by decide +kernel, rfl⟩
theorem rX12_settles_83 : tq_D cX12_settles 83 (.aload_n 0) 1 84 := ⟨by decide +kernel, rfl⟩
theorem rX12_settles_84 : tq_D cX12_settles 84 (.getfield 20) 3 87 := ⟨by decide +kernel, rfl⟩
theorem rX12_settles_87 : tq_D cX12_settles 87 (.iload_n 1) 1 88 := ⟨by decide +kernel, rfl⟩
theorem rX12_settles_88 : tq_D cX12_settles 88 (.iaload) 1 89 := ⟨by decide +kernel, rfl⟩
theorem rX12_settles_89 : tq_D cX12_settles 89 (.iastore) 1 90 := ⟨by decide +kernel, rfl⟩
theorem rX12_settles_90 : tq_D cX12_settles 90 (.iinc 1 1) 3 93 := ⟨by decide +kernel, rfl⟩
theorem rX12_settles_93 : tq_J cX12_settles 93 .goto 70 96 := ⟨(-23), by decide +kernel, by decide, rfl⟩
theorem rX12_settles_96 : decode cX12_settles 96 = .ok (.return_, 1) := by decide +kernel
noncomputable def FX12_settles_j61L2 (I : tq_PI) (L : tq_PL) (a0 : Nat) (a1 : Int32) (b0 : Int32) (b1 : Int32) (b2 : Nat) : Option ((Int32 × tq_PI) ⊕ (tq_PI)) :=
  (if 0 ≤ b1 ∧ b1 < 192 then some (.inl ((a1 + 1), (tq_up2 I b2 b1.toNatClampNeg b0))) else none)
noncomputable def FX12_settles_s2 (I : tq_PI) (L : tq_PL) (a0 : Nat) (a1 : Int32) : Option ((Int32 × tq_PI) ⊕ (tq_PI)) :=
  (if (48 : Int32) ≤ a1 then some (.inr I) else (if 0 ≤ (0 : Int32) ∧ (0 : Int32) < 121 then (if 0 ≤ (1 : Int32) ∧ (1 : Int32) < 121 then (if ((I (tq_rg a0 11) ((0 : Int32)).toNatClampNeg) * (I (tq_rg a0 11) ((1 : Int32)).toNatClampNeg)) ≤ a1 then (FX12_settles_j61L2 I L a0 a1 ((0 : Int32)) a1 ((tq_rg a0 15))) else (if 0 ≤ (0 : Int32) ∧ (0 : Int32) < 121 then (if ¬ (I (tq_rg a0 11) ((0 : Int32)).toNatClampNeg) = 0 then (if 0 ≤ (0 : Int32) ∧ (0 : Int32) < 121 then (if ¬ (I (tq_rg a0 11) ((0 : Int32)).toNatClampNeg) = 0 then (if 0 ≤ (((2 : Int32) + ((8 : Int32) * (a1 / (I (tq_rg a0 11) ((0 : Int32)).toNatClampNeg)))) + (a1 - a1 / (I (tq_rg a0 11) ((0 : Int32)).toNatClampNeg) * (I (tq_rg a0 11) ((0 : Int32)).toNatClampNeg))) ∧ (((2 : Int32) + ((8 : Int32) * (a1 / (I (tq_rg a0 11) ((0 : Int32)).toNatClampNeg)))) + (a1 - a1 / (I (tq_rg a0 11) ((0 : Int32)).toNatClampNeg) * (I (tq_rg a0 11) ((0 : Int32)).toNatClampNeg))) < 121 then (FX12_settles_j61L2 I L a0 a1 ((I (tq_rg a0 11) ((((2 : Int32) + ((8 : Int32) * (a1 / (I (tq_rg a0 11) ((0 : Int32)).toNatClampNeg)))) + (a1 - a1 / (I (tq_rg a0 11) ((0 : Int32)).toNatClampNeg) * (I (tq_rg a0 11) ((0 : Int32)).toNatClampNeg)))).toNatClampNeg)) a1 ((tq_rg a0 15))) else none) else none) else none) else none) else none)) else none) else none))
noncomputable def FX12_settles_s70 (I : tq_PI) (L : tq_PL) (a0 : Nat) (a1 : Int32) : Option ((Int32 × tq_PI) ⊕ (tq_PI)) :=
  (if (48 : Int32) ≤ a1 then some (.inr I) else (if 0 ≤ a1 ∧ a1 < 192 then (if 0 ≤ ((2 : Int32) + a1) ∧ ((2 : Int32) + a1) < 121 then some (.inl ((a1 + 1), (tq_up2 I (tq_rg a0 11) (((2 : Int32) + a1)).toNatClampNeg (I (tq_rg a0 15) a1.toNatClampNeg)))) else none) else none))
noncomputable def FX12_settles (I : tq_PI) (L : tq_PL) (a0 : Nat) : Option (tq_PI) :=
  ((tq_it (fun p : Int32 × tq_PI => FX12_settles_s2 p.2 L a0 p.1) tq_N ((0 : Int32), I)).bind fun p11 => ((tq_it (fun p : Int32 × tq_PI => FX12_settles_s70 p.2 L a0 p.1) tq_N ((0 : Int32), p11)).bind fun p15 => some p15))
set_option maxRecDepth 100000 in
set_option maxHeartbeats 4000000 in
theorem FX12_settles_j61L2_x {S : Nat × (Nat → Int32)} {d : Nat} {I : tq_PI} {L : tq_PL} {a0 : Nat} {a1 : Int32} {b0 : Int32} {b1 : Int32} {b2 : Nat} (h0 : tq_sh0 a0 = 12) (k2 : tq_sh0 b2 = 100) (k2n : tq_ln0 b2 = 192) {q0 : Option Value → tq_PI → tq_PL → Prop} {out : (Int32 × tq_PI) ⊕ (tq_PI)} (hf : FX12_settles_j61L2 I L a0 a1 b0 b1 b2 = some out) (hk : Sum.elim (fun p : Int32 × tq_PI => tq_X S mX12_settles d tq_k0 2 ([.ref a0, .int p.1]) [] (tq_st p.2 L) (tq_Q q0)) (fun p : tq_PI => tq_X S mX12_settles d tq_k0 68 ([.ref a0, tq_u]) [] (tq_st p L) (tq_Q q0)) out) : tq_X S mX12_settles d tq_k0 61 ([.ref a0, .int a1]) ([.int b0, .int b1, .ref b2]) (tq_st I L) (tq_Q q0) := by
  unfold FX12_settles_j61L2 at hf
  obtain ⟨g5, hf⟩ := tq_chk hf
  refine ty_iast (v := 192) rX12_settles_61 k2 k2n rfl (by decide) g5 ?_
  refine tq_iinc (a1 + 1) ([.ref a0, .int (a1 + 1)]) rX12_settles_62 rfl (tq_inc (by decide)) (Nat.le_of_ble_eq_true rfl) rfl ?_
  refine tq_goto rX12_settles_65 ?_
  have hf := Option.some.inj hf
  subst hf
  exact tq_forget _ (tq_le_s (tq_le_s tq_le_n)) hk

set_option maxRecDepth 100000 in
set_option maxHeartbeats 4000000 in
theorem FX12_settles_s2_x {S : Nat × (Nat → Int32)} {d : Nat} {I : tq_PI} {L : tq_PL} {a0 : Nat} {a1 : Int32} (h0 : tq_sh0 a0 = 12) {q0 : Option Value → tq_PI → tq_PL → Prop} {out : (Int32 × tq_PI) ⊕ (tq_PI)} (hf : FX12_settles_s2 I L a0 a1 = some out) (hk : Sum.elim (fun p : Int32 × tq_PI => tq_X S mX12_settles d tq_k0 2 ([.ref a0, .int p.1]) [] (tq_st p.2 L) (tq_Q q0)) (fun p : tq_PI => tq_X S mX12_settles d tq_k0 68 ([.ref a0, tq_u]) [] (tq_st p L) (tq_Q q0)) out) : tq_X S mX12_settles d tq_k0 2 ([.ref a0, .int a1]) [] (tq_st I L) (tq_Q q0) := by
  unfold FX12_settles_s2 at hf
  refine tq_iload_n rX12_settles_2 rfl ?_
  refine tq_bipush (48 : Int32) rX12_settles_3 (by decide) ?_
  refine tq_icmp_ge rX12_settles_5 (fun c1 => ?_) (fun c1 => ?_)
  · rw [if_pos c1] at hf
    have hf := Option.some.inj hf
    subst hf
    exact tq_forget _ (tq_le_s (tq_le_u tq_le_n)) hk
  · rw [if_neg c1] at hf
    refine tq_aload_n rX12_settles_8 rfl ?_
    refine ty_getR rX12_settles_9 f_X12_20 rfl h0 (hp_12_15 h0).1 ?_
    refine tq_iload_n rX12_settles_12 rfl ?_
    refine tq_iload_n rX12_settles_13 rfl ?_
    refine tq_aload_n rX12_settles_14 rfl ?_
    refine ty_getR rX12_settles_15 f_X12_17 rfl h0 (hp_12_11 h0).1 ?_
    refine tq_iconst (0 : Int32) rX12_settles_18 (by decide) ?_
    obtain ⟨g2, hf⟩ := tq_chk hf
    refine ty_iald (v := 121) rX12_settles_19 (hp_12_11 h0).2.1 (hp_12_11 h0).2.2 rfl (by decide) g2 ?_
    refine tq_aload_n rX12_settles_20 rfl ?_
    refine ty_getR rX12_settles_21 f_X12_17 rfl h0 (hp_12_11 h0).1 ?_
    refine tq_iconst (1 : Int32) rX12_settles_24 (by decide) ?_
    obtain ⟨g3, hf⟩ := tq_chk hf
    refine ty_iald (v := 121) rX12_settles_25 (hp_12_11 h0).2.1 (hp_12_11 h0).2.2 rfl (by decide) g3 ?_
    refine tq_imul rX12_settles_26 ?_
    refine tq_icmp_ge rX12_settles_27 (fun c4 => ?_) (fun c4 => ?_)
    · rw [if_pos c4] at hf
      refine tq_iconst (0 : Int32) rX12_settles_60 (by decide) ?_
      exact tq_forget _ (tq_le_s (tq_le_s tq_le_n)) (FX12_settles_j61L2_x  h0 (hp_12_15 h0).2.1 (hp_12_15 h0).2.2 hf hk)
    · rw [if_neg c4] at hf
      refine tq_aload_n rX12_settles_30 rfl ?_
      refine ty_getR rX12_settles_31 f_X12_17 rfl h0 (hp_12_11 h0).1 ?_
      refine tq_iconst (2 : Int32) rX12_settles_34 (by decide) ?_
      refine tq_bipush (8 : Int32) rX12_settles_35 (by decide) ?_
      refine tq_iload_n rX12_settles_37 rfl ?_
      refine tq_aload_n rX12_settles_38 rfl ?_
      refine ty_getR rX12_settles_39 f_X12_17 rfl h0 (hp_12_11 h0).1 ?_
      refine tq_iconst (0 : Int32) rX12_settles_42 (by decide) ?_
      obtain ⟨g6, hf⟩ := tq_chk hf
      refine ty_iald (v := 121) rX12_settles_43 (hp_12_11 h0).2.1 (hp_12_11 h0).2.2 rfl (by decide) g6 ?_
      obtain ⟨g7, hf⟩ := tq_chk hf
      refine tq_idiv rX12_settles_44 g7 ?_
      refine tq_imul rX12_settles_45 ?_
      refine tq_iadd rX12_settles_46 ?_
      refine tq_iload_n rX12_settles_47 rfl ?_
      refine tq_aload_n rX12_settles_48 rfl ?_
      refine ty_getR rX12_settles_49 f_X12_17 rfl h0 (hp_12_11 h0).1 ?_
      refine tq_iconst (0 : Int32) rX12_settles_52 (by decide) ?_
      obtain ⟨g8, hf⟩ := tq_chk hf
      refine ty_iald (v := 121) rX12_settles_53 (hp_12_11 h0).2.1 (hp_12_11 h0).2.2 rfl (by decide) g8 ?_
      obtain ⟨g9, hf⟩ := tq_chk hf
      refine tq_irem rX12_settles_54 g9 ?_
      refine tq_iadd rX12_settles_55 ?_
      obtain ⟨g10, hf⟩ := tq_chk hf
      refine ty_iald (v := 121) rX12_settles_56 (hp_12_11 h0).2.1 (hp_12_11 h0).2.2 rfl (by decide) g10 ?_
      refine tq_goto rX12_settles_57 ?_
      exact tq_forget _ (tq_le_s (tq_le_s tq_le_n)) (FX12_settles_j61L2_x  h0 (hp_12_15 h0).2.1 (hp_12_15 h0).2.2 hf hk)

set_option maxRecDepth 100000 in
set_option maxHeartbeats 4000000 in
theorem FX12_settles_s70_x {S : Nat × (Nat → Int32)} {d : Nat} {I : tq_PI} {L : tq_PL} {a0 : Nat} {a1 : Int32} (h0 : tq_sh0 a0 = 12) {q0 : Option Value → tq_PI → tq_PL → Prop} {out : (Int32 × tq_PI) ⊕ (tq_PI)} (hf : FX12_settles_s70 I L a0 a1 = some out) (hk : Sum.elim (fun p : Int32 × tq_PI => tq_X S mX12_settles d tq_k0 70 ([.ref a0, .int p.1]) [] (tq_st p.2 L) (tq_Q q0)) (fun p : tq_PI => tq_X S mX12_settles d tq_k0 96 ([tq_u, tq_u]) [] (tq_st p L) (tq_Q q0)) out) : tq_X S mX12_settles d tq_k0 70 ([.ref a0, .int a1]) [] (tq_st I L) (tq_Q q0) := by
  unfold FX12_settles_s70 at hf
  refine tq_iload_n rX12_settles_70 rfl ?_
  refine tq_bipush (48 : Int32) rX12_settles_71 (by decide) ?_
  refine tq_icmp_ge rX12_settles_73 (fun c12 => ?_) (fun c12 => ?_)
  · rw [if_pos c12] at hf
    have hf := Option.some.inj hf
    subst hf
    exact tq_forget _ (tq_le_u (tq_le_u tq_le_n)) hk
  · rw [if_neg c12] at hf
    refine tq_aload_n rX12_settles_76 rfl ?_
    refine ty_getR rX12_settles_77 f_X12_17 rfl h0 (hp_12_11 h0).1 ?_
    refine tq_iconst (2 : Int32) rX12_settles_80 (by decide) ?_
    refine tq_iload_n rX12_settles_81 rfl ?_
    refine tq_iadd rX12_settles_82 ?_
    refine tq_aload_n rX12_settles_83 rfl ?_
    refine ty_getR rX12_settles_84 f_X12_20 rfl h0 (hp_12_15 h0).1 ?_
    refine tq_iload_n rX12_settles_87 rfl ?_
    obtain ⟨g13, hf⟩ := tq_chk hf
    refine ty_iald (v := 192) rX12_settles_88 (hp_12_15 h0).2.1 (hp_12_15 h0).2.2 rfl (by decide) g13 ?_
    obtain ⟨g14, hf⟩ := tq_chk hf
    refine ty_iast (v := 121) rX12_settles_89 (hp_12_11 h0).2.1 (hp_12_11 h0).2.2 rfl (by decide) g14 ?_
    refine tq_iinc (a1 + 1) ([.ref a0, .int (a1 + 1)]) rX12_settles_90 rfl (tq_inc (by decide)) (Nat.le_of_ble_eq_true rfl) rfl ?_
    refine tq_goto rX12_settles_93 ?_
    have hf := Option.some.inj hf
    subst hf
    exact tq_forget _ (tq_le_s (tq_le_s tq_le_n)) hk

set_option maxRecDepth 100000 in
set_option maxHeartbeats 4000000 in
theorem CX12_settles {S : Nat × (Nat → Int32)} {d : Nat} {I : tq_PI} {L : tq_PL} {a0 : Nat} (h0 : tq_sh0 a0 = 12) {out : tq_PI} (hf : FX12_settles I L a0 = some out) : tq_K S mX12_settles d [.ref a0] I L (tq_one2 (none) out L) := by
  unfold FX12_settles at hf
  refine tq_K_of (by decide) (Nat.le_of_ble_eq_true rfl) (ls := [.ref a0, tq_u]) rfl ?_
  refine tq_iconst (0 : Int32) rX12_settles_0 (by decide) ?_
  refine tq_istore_n ([.ref a0, .int (0 : Int32)]) rX12_settles_1 (Nat.le_of_ble_eq_true rfl) rfl ?_
  obtain ⟨p11, e11, hf⟩ := Option.bind_eq_some_iff.mp hf
  refine tq_forget _ (tq_le_s (tq_le_s tq_le_n)) ?_
  refine tq_it_elim (P := fun p : Int32 × tq_PI => tq_X S mX12_settles d tq_k0 2 ([.ref a0, .int p.1]) [] (tq_st p.2 L) (tq_Q (tq_one2 (none) out L))) (R := fun p : tq_PI => tq_X S mX12_settles d tq_k0 68 ([.ref a0, tq_u]) [] (tq_st p L) (tq_Q (tq_one2 (none) out L))) (fun p o hp hk => FX12_settles_s2_x  h0 hp hk) _ (((0 : Int32), I)) _ e11 ?_
  show tq_X _ _ _ _ _ _ _ _ _
  refine tq_iconst (0 : Int32) rX12_settles_68 (by decide) ?_
  refine tq_istore_n ([.ref a0, .int (0 : Int32)]) rX12_settles_69 (Nat.le_of_ble_eq_true rfl) rfl ?_
  obtain ⟨p15, e15, hf⟩ := Option.bind_eq_some_iff.mp hf
  refine tq_forget _ (tq_le_s (tq_le_s tq_le_n)) ?_
  refine tq_it_elim (P := fun p : Int32 × tq_PI => tq_X S mX12_settles d tq_k0 70 ([.ref a0, .int p.1]) [] (tq_st p.2 L) (tq_Q (tq_one2 (none) out L))) (R := fun p : tq_PI => tq_X S mX12_settles d tq_k0 96 ([tq_u, tq_u]) [] (tq_st p L) (tq_Q (tq_one2 (none) out L))) (fun p o hp hk => FX12_settles_s70_x  h0 hp hk) _ (((0 : Int32), p11)) _ e15 ?_
  show tq_X _ _ _ _ _ _ _ _ _
  refine ty_vret rX12_settles_96 rfl rfl ?_
  have hf := Option.some.inj hf
  subst hf
  exact ⟨rfl, rfl, rfl⟩

abbrev mX12_many : tq_M := (yX12_many, cX12_many, 1, (Option.some Jvm.ClassFile.FieldType.int), 0, 0)
theorem f_X12_148 : tq_fok RX12 148 12 13 := ⟨by decide, by decide, Or.inl (tq_sg6 _ (List.mem_of_getElem? (i := 86) rfl))⟩
theorem f_X12_151 : tq_fok RX12 151 12 14 := ⟨by decide, by decide, Or.inl (tq_sg6 _ (List.mem_of_getElem? (i := 87) rfl))⟩
theorem rX12_many_0 : tq_D cX12_many 0 (.aload_n 0) 1 1 := ⟨by decide +kernel, rfl⟩
theorem rX12_many_1 : tq_D cX12_many 1 (.getfield 148) 3 4 := ⟨by decide +kernel, rfl⟩
theorem rX12_many_4 : tq_D cX12_many 4 (.aload_n 0) 1 5 := ⟨by decide +kernel, rfl⟩
theorem rX12_many_5 : tq_D cX12_many 5 (.getfield 151) 3 8 := ⟨by decide +kernel, rfl⟩
theorem rX12_many_8 : tq_D cX12_many 8 (.imul) 1 9 := ⟨by decide +kernel, rfl⟩
theorem rX12_many_9 : decode cX12_many 9 = .ok (.ireturn, 1) := by decide +kernel
noncomputable def FX12_many (I : tq_PI) (L : tq_PL) (a0 : Nat) : Int32 :=
  ((I a0 13) * (I a0 14))
set_option maxRecDepth 100000 in
set_option maxHeartbeats 4000000 in
theorem CX12_many {S : Nat × (Nat → Int32)} {d : Nat} {I : tq_PI} {L : tq_PL} {a0 : Nat} (h0 : tq_sh0 a0 = 12) {out : Int32} (hf : FX12_many I L a0 = out) : tq_K S mX12_many d [.ref a0] I L (tq_one2 (some (.int out)) I L) := by
  unfold FX12_many at hf
  refine tq_K_of (by decide) (Nat.le_of_ble_eq_true rfl) (ls := [.ref a0]) rfl ?_
  refine tq_aload_n rX12_many_0 rfl ?_
  refine ty_getI rX12_many_1 f_X12_148 rfl h0 ?_
  refine tq_aload_n rX12_many_4 rfl ?_
  refine ty_getI rX12_many_5 f_X12_151 rfl h0 ?_
  refine tq_imul rX12_many_8 ?_
  refine ty_iret rX12_many_9 rfl rfl ?_
  subst hf
  exact ⟨rfl, rfl, rfl⟩

abbrev mX12_kindOf : tq_M := (yX12_kindOf, cX12_kindOf, 3, (Option.some Jvm.ClassFile.FieldType.int), 0, 0)
theorem rX12_kindOf_0 : tq_D cX12_kindOf 0 (.aload_n 0) 1 1 := ⟨by decide +kernel, rfl⟩
theorem rX12_kindOf_1 : tq_D cX12_kindOf 1 (.getfield 20) 3 4 := ⟨by decide +kernel, rfl⟩
theorem rX12_kindOf_4 : tq_D cX12_kindOf 4 (.bipush 48) 2 6 := ⟨by decide +kernel, rfl⟩
theorem rX12_kindOf_6 : tq_D cX12_kindOf 6 (.iload_n 1) 1 7 := ⟨by decide +kernel, rfl⟩
theorem rX12_kindOf_7 : tq_D cX12_kindOf 7 (.imul) 1 8 := ⟨by decide +kernel, rfl⟩
theorem rX12_kindOf_8 : tq_D cX12_kindOf 8 (.iload_n 2) 1 9 := ⟨by decide +kernel, rfl⟩
theorem rX12_kindOf_9 : tq_D cX12_kindOf 9 (.iadd) 1 10 := ⟨by decide +kernel, rfl⟩
theorem rX12_kindOf_10 : tq_D cX12_kindOf 10 (.iaload) 1 11 := ⟨by decide +kernel, rfl⟩
theorem rX12_kindOf_11 : decode cX12_kindOf 11 = .ok (.ireturn, 1) := by decide +kernel
noncomputable def FX12_kindOf (I : tq_PI) (L : tq_PL) (a0 : Nat) (a1 : Int32) (a2 : Int32) : Option (Int32) :=
  (if 0 ≤ (((48 : Int32) * a1) + a2) ∧ (((48 : Int32) * a1) + a2) < 192 then some (I (tq_rg a0 15) ((((48 : Int32) * a1) + a2)).toNatClampNeg) else none)
set_option maxRecDepth 100000 in
set_option maxHeartbeats 4000000 in
theorem CX12_kindOf {S : Nat × (Nat → Int32)} {d : Nat} {I : tq_PI} {L : tq_PL} {a0 : Nat} {a1 : Int32} {a2 : Int32} (h0 : tq_sh0 a0 = 12) {out : Int32} (hf : FX12_kindOf I L a0 a1 a2 = some out) : tq_K S mX12_kindOf d [.ref a0, .int a1, .int a2] I L (tq_one2 (some (.int out)) I L) := by
  unfold FX12_kindOf at hf
  refine tq_K_of (by decide) (Nat.le_of_ble_eq_true rfl) (ls := [.ref a0, .int a1, .int a2]) rfl ?_
  refine tq_aload_n rX12_kindOf_0 rfl ?_
  refine ty_getR rX12_kindOf_1 f_X12_20 rfl h0 (hp_12_15 h0).1 ?_
  refine tq_bipush (48 : Int32) rX12_kindOf_4 (by decide) ?_
  refine tq_iload_n rX12_kindOf_6 rfl ?_
  refine tq_imul rX12_kindOf_7 ?_
  refine tq_iload_n rX12_kindOf_8 rfl ?_
  refine tq_iadd rX12_kindOf_9 ?_
  obtain ⟨g1, hf⟩ := tq_chk hf
  refine ty_iald (v := 192) rX12_kindOf_10 (hp_12_15 h0).2.1 (hp_12_15 h0).2.2 rfl (by decide) g1 ?_
  refine ty_iret rX12_kindOf_11 rfl rfl ?_
  have hf := Option.some.inj hf
  subst hf
  exact ⟨rfl, rfl, rfl⟩

abbrev mX12_stands : tq_M := (yX12_stands, cX12_stands, 3, (Option.some Jvm.ClassFile.FieldType.boolean), 0, 0)
theorem moX12_kindOf : tq_mok mX12_kindOf 2 := ⟨tq_sg1 _ (List.mem_of_getElem? (i := 13) rfl), tq_sg7 _ (List.mem_of_getElem? (i := 59) rfl), ⟨by decide, by decide, by decide +kernel⟩, by decide⟩
theorem mvX12_kindOf : 12 < 13 ∧ (tq_cl 12).1 = mX12_kindOf.1.cls ∧ Cond.instanceMethod mX12_kindOf.1 ∈ lw_tbl ∧ Cond.selects mX12_kindOf.1.cls mX12_kindOf.1 mX12_kindOf.1 ∈ lw_tbl := ⟨by decide, rfl, tq_sg7 _ (List.mem_of_getElem? (i := 58) rfl), List.mem_append_left _ (List.mem_map.mpr ⟨_, List.mem_of_getElem? (i := 59) rfl, rfl⟩)⟩
theorem l_X12_193 : tq_lok RX12 193 mX12_kindOf.1 := Or.inl (tq_sg7 _ (List.mem_of_getElem? (i := 56) rfl))
theorem rX12_stands_0 : tq_D cX12_stands 0 (.aload_n 0) 1 1 := ⟨by decide +kernel, rfl⟩
theorem rX12_stands_1 : tq_D cX12_stands 1 (.iload_n 1) 1 2 := ⟨by decide +kernel, rfl⟩
theorem rX12_stands_2 : tq_D cX12_stands 2 (.iload_n 2) 1 3 := ⟨by decide +kernel, rfl⟩
theorem rX12_stands_3 : tq_D cX12_stands 3 (.invokevirtual 193) 3 6 := ⟨by decide +kernel, rfl⟩
theorem rX12_stands_6 : tq_J cX12_stands 6 (.ifCond .eq) 38 9 := ⟨32, by decide +kernel, by decide, rfl⟩
theorem rX12_stands_9 : tq_D cX12_stands 9 (.iload_n 2) 1 10 := ⟨by decide +kernel, rfl⟩
theorem rX12_stands_10 : tq_D cX12_stands 10 (.aload_n 0) 1 11 := ⟨by decide +kernel, rfl⟩
theorem rX12_stands_11 : tq_D cX12_stands 11 (.getfield 148) 3 14 := ⟨by decide +kernel, rfl⟩
theorem rX12_stands_14 : tq_D cX12_stands 14 (.aload_n 0) 1 15 := ⟨by decide +kernel, rfl⟩
theorem rX12_stands_15 : tq_D cX12_stands 15 (.getfield 151) 3 18 := ⟨by decide +kernel, rfl⟩
theorem rX12_stands_18 : tq_D cX12_stands 18 (.iconst 1) 1 19 := ⟨by decide +kernel, rfl⟩
theorem rX12_stands_19 : tq_D cX12_stands 19 (.isub) 1 20 := ⟨by decide +kernel, rfl⟩
theorem rX12_stands_20 : tq_D cX12_stands 20 (.imul) 1 21 := ⟨by decide +kernel, rfl⟩
theorem rX12_stands_21 : tq_J cX12_stands 21 (.if_icmp .ge) 38 24 := ⟨17, by decide +kernel, by decide, rfl⟩
theorem rX12_stands_24 : tq_D cX12_stands 24 (.aload_n 0) 1 25 := ⟨by decide +kernel, rfl⟩
theorem rX12_stands_25 : tq_D cX12_stands 25 (.iload_n 1) 1 26 := ⟨by decide +kernel, rfl⟩
theorem rX12_stands_26 : tq_D cX12_stands 26 (.iload_n 2) 1 27 := ⟨by decide +kernel, rfl⟩
theorem rX12_stands_27 : tq_D cX12_stands 27 (.aload_n 0) 1 28 := ⟨by decide +kernel, rfl⟩
theorem rX12_stands_28 : tq_D cX12_stands 28 (.getfield 148) 3 31 := ⟨by decide +kernel, rfl⟩
theorem rX12_stands_31 : tq_D cX12_stands 31 (.iadd) 1 32 := ⟨by decide +kernel, rfl⟩
theorem rX12_stands_32 : tq_D cX12_stands 32 (.invokevirtual 193) 3 35 := ⟨by decide +kernel, rfl⟩
theorem rX12_stands_35 : tq_J cX12_stands 35 (.ifCond .eq) 40 38 := ⟨5, by decide +kernel, by decide, rfl⟩
theorem rX12_stands_38 : tq_D cX12_stands 38 (.iconst 1) 1 39 := ⟨by decide +kernel, rfl⟩
theorem rX12_stands_39 : decode cX12_stands 39 = .ok (.ireturn, 1) := by decide +kernel
theorem rX12_stands_40 : tq_D cX12_stands 40 (.iload_n 2) 1 41 := ⟨by decide +kernel, rfl⟩
theorem rX12_stands_41 : tq_D cX12_stands 41 (.aload_n 0) 1 42 := ⟨by decide +kernel, rfl⟩
theorem rX12_stands_42 : tq_D cX12_stands 42 (.getfield 148) 3 45 := ⟨by decide +kernel, rfl⟩
theorem rX12_stands_45 : tq_D cX12_stands 45 (.irem) 1 46 := ⟨by decide +kernel, rfl⟩
theorem rX12_stands_46 : tq_J cX12_stands 46 (.ifCond .le) 90 49 := ⟨44, by decide +kernel, by decide, rfl⟩
theorem rX12_stands_49 : tq_D cX12_stands 49 (.iload_n 2) 1 50 := ⟨by decide +kernel, rfl⟩
theorem rX12_stands_50 : tq_D cX12_stands 50 (.aload_n 0) 1 51 := ⟨by decide +kernel, rfl⟩
theorem rX12_stands_51 : tq_D cX12_stands 51 (.getfield 148) 3 54 := ⟨by decide +kernel, rfl⟩
theorem rX12_stands_54 : tq_D cX12_stands 54 (.irem) 1 55 := ⟨by decide +kernel, rfl⟩
theorem rX12_stands_55 : tq_D cX12_stands 55 (.aload_n 0) 1 56 := ⟨by decide +kernel, rfl⟩
theorem rX12_stands_56 : tq_D cX12_stands 56 (.getfield 148) 3 59 := ⟨by decide +kernel, rfl⟩
theorem rX12_stands_59 : tq_D cX12_stands 59 (.iconst 1) 1 60 := ⟨by decide +kernel, rfl⟩
theorem rX12_stands_60 : tq_D cX12_stands 60 (.isub) 1 61 := ⟨by decide +kernel, rfl⟩
theorem rX12_stands_61 : tq_J cX12_stands 61 (.if_icmp .ge) 90 64 := ⟨29, by decide +kernel, by decide, rfl⟩
theorem rX12_stands_64 : tq_D cX12_stands 64 (.aload_n 0) 1 65 := ⟨by decide +kernel, rfl⟩
theorem rX12_stands_65 : tq_D cX12_stands 65 (.iload_n 1) 1 66 := ⟨by decide +kernel, rfl⟩
theorem rX12_stands_66 : tq_D cX12_stands 66 (.iload_n 2) 1 67 := ⟨by decide +kernel, rfl⟩
theorem rX12_stands_67 : tq_D cX12_stands 67 (.iconst 1) 1 68 := ⟨by decide +kernel, rfl⟩
theorem rX12_stands_68 : tq_D cX12_stands 68 (.isub) 1 69 := ⟨by decide +kernel, rfl⟩
theorem rX12_stands_69 : tq_D cX12_stands 69 (.invokevirtual 193) 3 72 := ⟨by decide +kernel, rfl⟩
theorem rX12_stands_72 : tq_J cX12_stands 72 (.ifCond .eq) 90 75 := ⟨18, by decide +kernel, by decide, rfl⟩
theorem rX12_stands_75 : tq_D cX12_stands 75 (.aload_n 0) 1 76 := ⟨by decide +kernel, rfl⟩
theorem rX12_stands_76 : tq_D cX12_stands 76 (.iload_n 1) 1 77 := ⟨by decide +kernel, rfl⟩
theorem rX12_stands_77 : tq_D cX12_stands 77 (.iload_n 2) 1 78 := ⟨by decide +kernel, rfl⟩
theorem rX12_stands_78 : tq_D cX12_stands 78 (.iconst 1) 1 79 := ⟨by decide +kernel, rfl⟩
theorem rX12_stands_79 : tq_D cX12_stands 79 (.iadd) 1 80 := ⟨by decide +kernel, rfl⟩
theorem rX12_stands_80 : tq_D cX12_stands 80 (.invokevirtual 193) 3 83 := ⟨by decide +kernel, rfl⟩
theorem rX12_stands_83 : tq_J cX12_stands 83 (.ifCond .eq) 90 86 := ⟨7, by decide +kernel, by decide, rfl⟩
theorem rX12_stands_86 : tq_D cX12_stands 86 (.iconst 1) 1 87 := ⟨by decide +kernel, rfl⟩
theorem rX12_stands_87 : tq_J cX12_stands 87 .goto 91 90 := ⟨4, by decide +kernel, by decide, rfl⟩
theorem rX12_stands_90 : tq_D cX12_stands 90 (.iconst 0) 1 91 := ⟨by decide +kernel, rfl⟩
theorem rX12_stands_91 : decode cX12_stands 91 = .ok (.ireturn, 1) := by decide +kernel
noncomputable def FX12_stands_j38 (I : tq_PI) (L : tq_PL)  : Option (Bool) :=
  some true
noncomputable def FX12_stands_j90 (I : tq_PI) (L : tq_PL)  : Option (Bool) :=
  some false
noncomputable def FX12_stands (I : tq_PI) (L : tq_PL) (a0 : Nat) (a1 : Int32) (a2 : Int32) : Option (Bool) :=
  ((FX12_kindOf I L a0 a1 a2).bind fun p1 => (if p1 = 0 then (FX12_stands_j38 I L ) else (if ((I a0 13) * ((I a0 14) - (1 : Int32))) ≤ a2 then (FX12_stands_j38 I L ) else ((FX12_kindOf I L a0 a1 ((a2 + (I a0 13)))).bind fun p4 => (if p4 = 0 then (if ¬ (I a0 13) = 0 then (if (a2 - a2 / (I a0 13) * (I a0 13)) ≤ 0 then (FX12_stands_j90 I L ) else (if ¬ (I a0 13) = 0 then (if ((I a0 13) - (1 : Int32)) ≤ (a2 - a2 / (I a0 13) * (I a0 13)) then (FX12_stands_j90 I L ) else ((FX12_kindOf I L a0 a1 ((a2 - (1 : Int32)))).bind fun p10 => (if p10 = 0 then (FX12_stands_j90 I L ) else ((FX12_kindOf I L a0 a1 ((a2 + (1 : Int32)))).bind fun p12 => (if p12 = 0 then (FX12_stands_j90 I L ) else some true))))) else none)) else none) else (FX12_stands_j38 I L ))))))
set_option maxRecDepth 100000 in
set_option maxHeartbeats 4000000 in
theorem FX12_stands_j38_x {S : Nat × (Nat → Int32)} {d : Nat} {I : tq_PI} {L : tq_PL}   {q0 : Option Value → tq_PI → tq_PL → Prop} {out : Bool} (hf : FX12_stands_j38 I L = some out) (hk : q0 (some (.int (tq_b out))) I L) : tq_X S mX12_stands (d + 1) tq_k0 38 ([tq_u, tq_u, tq_u]) ([]) (tq_st I L) (tq_Q q0) := by
  unfold FX12_stands_j38 at hf
  refine tq_iconst (1 : Int32) rX12_stands_38 (by decide) ?_
  refine ty_zret (ty := .boolean) rX12_stands_39 rfl rfl rfl ?_
  have hf := Option.some.inj hf
  subst hf
  exact hk

set_option maxRecDepth 100000 in
set_option maxHeartbeats 4000000 in
theorem FX12_stands_j90_x {S : Nat × (Nat → Int32)} {d : Nat} {I : tq_PI} {L : tq_PL}   {q0 : Option Value → tq_PI → tq_PL → Prop} {out : Bool} (hf : FX12_stands_j90 I L = some out) (hk : q0 (some (.int (tq_b out))) I L) : tq_X S mX12_stands (d + 1) tq_k0 90 ([tq_u, tq_u, tq_u]) ([]) (tq_st I L) (tq_Q q0) := by
  unfold FX12_stands_j90 at hf
  refine tq_iconst (0 : Int32) rX12_stands_90 (by decide) ?_
  refine ty_zret (ty := .boolean) rX12_stands_91 rfl rfl rfl ?_
  have hf := Option.some.inj hf
  subst hf
  exact hk

set_option maxRecDepth 100000 in
set_option maxHeartbeats 4000000 in
theorem CX12_stands {S : Nat × (Nat → Int32)} {d : Nat} {I : tq_PI} {L : tq_PL} {a0 : Nat} {a1 : Int32} {a2 : Int32} (h0 : tq_sh0 a0 = 12) {out : Bool} (hf : FX12_stands I L a0 a1 a2 = some out) : tq_K S mX12_stands (d + 1) [.ref a0, .int a1, .int a2] I L (tq_one2 (some (.int (tq_b out))) I L) := by
  unfold FX12_stands at hf
  refine tq_K_of (by decide) (Nat.le_of_ble_eq_true rfl) (ls := [.ref a0, .int a1, .int a2]) rfl ?_
  refine tq_aload_n rX12_stands_0 rfl ?_
  refine tq_iload_n rX12_stands_1 rfl ?_
  refine tq_iload_n rX12_stands_2 rfl ?_
  obtain ⟨p1, e1, hf⟩ := Option.bind_eq_some_iff.mp hf
  refine ty_callVI p1 ([.int a1, .int a2]) ([]) rX12_stands_3 l_X12_193 moX12_kindOf mvX12_kindOf h0 rfl rfl (Nat.le_of_ble_eq_true rfl) ⟨rfl, rfl⟩ (CX12_kindOf h0 e1) ?_
  refine tq_if_eq rX12_stands_6 (fun c2 => ?_) (fun c2 => ?_)
  · rw [if_pos c2] at hf
    exact tq_forget _ (tq_le_u (tq_le_u (tq_le_u tq_le_n))) (FX12_stands_j38_x   hf ⟨rfl, rfl, rfl⟩)
  · rw [if_neg c2] at hf
    refine tq_iload_n rX12_stands_9 rfl ?_
    refine tq_aload_n rX12_stands_10 rfl ?_
    refine ty_getI rX12_stands_11 f_X12_148 rfl h0 ?_
    refine tq_aload_n rX12_stands_14 rfl ?_
    refine ty_getI rX12_stands_15 f_X12_151 rfl h0 ?_
    refine tq_iconst (1 : Int32) rX12_stands_18 (by decide) ?_
    refine tq_isub rX12_stands_19 ?_
    refine tq_imul rX12_stands_20 ?_
    refine tq_icmp_ge rX12_stands_21 (fun c3 => ?_) (fun c3 => ?_)
    · rw [if_pos c3] at hf
      exact tq_forget _ (tq_le_u (tq_le_u (tq_le_u tq_le_n))) (FX12_stands_j38_x   hf ⟨rfl, rfl, rfl⟩)
    · rw [if_neg c3] at hf
      refine tq_aload_n rX12_stands_24 rfl ?_
      refine tq_iload_n rX12_stands_25 rfl ?_
      refine tq_iload_n rX12_stands_26 rfl ?_
      refine tq_aload_n rX12_stands_27 rfl ?_
      refine ty_getI rX12_stands_28 f_X12_148 rfl h0 ?_
      refine tq_iadd rX12_stands_31 ?_
      obtain ⟨p4, e4, hf⟩ := Option.bind_eq_some_iff.mp hf
      refine ty_callVI p4 ([.int a1, .int (a2 + (I a0 13))]) ([]) rX12_stands_32 l_X12_193 moX12_kindOf mvX12_kindOf h0 rfl rfl (Nat.le_of_ble_eq_true rfl) ⟨rfl, rfl⟩ (CX12_kindOf h0 e4) ?_
      refine tq_if_eq rX12_stands_35 (fun c5 => ?_) (fun c5 => ?_)
      · rw [if_pos c5] at hf
        refine tq_iload_n rX12_stands_40 rfl ?_
        refine tq_aload_n rX12_stands_41 rfl ?_
        refine ty_getI rX12_stands_42 f_X12_148 rfl h0 ?_
        obtain ⟨g6, hf⟩ := tq_chk hf
        refine tq_irem rX12_stands_45 g6 ?_
        refine tq_if_le rX12_stands_46 (fun c7 => ?_) (fun c7 => ?_)
        · rw [if_pos c7] at hf
          exact tq_forget _ (tq_le_u (tq_le_u (tq_le_u tq_le_n))) (FX12_stands_j90_x   hf ⟨rfl, rfl, rfl⟩)
        · rw [if_neg c7] at hf
          refine tq_iload_n rX12_stands_49 rfl ?_
          refine tq_aload_n rX12_stands_50 rfl ?_
          refine ty_getI rX12_stands_51 f_X12_148 rfl h0 ?_
          obtain ⟨g8, hf⟩ := tq_chk hf
          refine tq_irem rX12_stands_54 g8 ?_
          refine tq_aload_n rX12_stands_55 rfl ?_
          refine ty_getI rX12_stands_56 f_X12_148 rfl h0 ?_
          refine tq_iconst (1 : Int32) rX12_stands_59 (by decide) ?_
          refine tq_isub rX12_stands_60 ?_
          refine tq_icmp_ge rX12_stands_61 (fun c9 => ?_) (fun c9 => ?_)
          · rw [if_pos c9] at hf
            exact tq_forget _ (tq_le_u (tq_le_u (tq_le_u tq_le_n))) (FX12_stands_j90_x   hf ⟨rfl, rfl, rfl⟩)
          · rw [if_neg c9] at hf
            refine tq_aload_n rX12_stands_64 rfl ?_
            refine tq_iload_n rX12_stands_65 rfl ?_
            refine tq_iload_n rX12_stands_66 rfl ?_
            refine tq_iconst (1 : Int32) rX12_stands_67 (by decide) ?_
            refine tq_isub rX12_stands_68 ?_
            obtain ⟨p10, e10, hf⟩ := Option.bind_eq_some_iff.mp hf
            refine ty_callVI p10 ([.int a1, .int (a2 - (1 : Int32))]) ([]) rX12_stands_69 l_X12_193 moX12_kindOf mvX12_kindOf h0 rfl rfl (Nat.le_of_ble_eq_true rfl) ⟨rfl, rfl⟩ (CX12_kindOf h0 e10) ?_
            refine tq_if_eq rX12_stands_72 (fun c11 => ?_) (fun c11 => ?_)
            · rw [if_pos c11] at hf
              exact tq_forget _ (tq_le_u (tq_le_u (tq_le_u tq_le_n))) (FX12_stands_j90_x   hf ⟨rfl, rfl, rfl⟩)
            · rw [if_neg c11] at hf
              refine tq_aload_n rX12_stands_75 rfl ?_
              refine tq_iload_n rX12_stands_76 rfl ?_
              refine tq_iload_n rX12_stands_77 rfl ?_
              refine tq_iconst (1 : Int32) rX12_stands_78 (by decide) ?_
              refine tq_iadd rX12_stands_79 ?_
              obtain ⟨p12, e12, hf⟩ := Option.bind_eq_some_iff.mp hf
              refine ty_callVI p12 ([.int a1, .int (a2 + (1 : Int32))]) ([]) rX12_stands_80 l_X12_193 moX12_kindOf mvX12_kindOf h0 rfl rfl (Nat.le_of_ble_eq_true rfl) ⟨rfl, rfl⟩ (CX12_kindOf h0 e12) ?_
              refine tq_if_eq rX12_stands_83 (fun c13 => ?_) (fun c13 => ?_)
              · rw [if_pos c13] at hf
                exact tq_forget _ (tq_le_u (tq_le_u (tq_le_u tq_le_n))) (FX12_stands_j90_x   hf ⟨rfl, rfl, rfl⟩)
              · rw [if_neg c13] at hf
                refine tq_iconst (1 : Int32) rX12_stands_86 (by decide) ?_
                refine tq_goto rX12_stands_87 ?_
                refine ty_zret (ty := .boolean) rX12_stands_91 rfl rfl rfl ?_
                have hf := Option.some.inj hf
                subst hf
                exact ⟨rfl, rfl, rfl⟩
      · rw [if_neg c5] at hf
        exact tq_forget _ (tq_le_u (tq_le_u (tq_le_u tq_le_n))) (FX12_stands_j38_x   hf ⟨rfl, rfl, rfl⟩)

abbrev mX12_firstThatFalls : tq_M := (yX12_firstThatFalls, cX12_firstThatFalls, 3, (Option.some Jvm.ClassFile.FieldType.int), 0, 0)
theorem moX12_many : tq_mok mX12_many 0 := ⟨tq_sg1 _ (List.mem_of_getElem? (i := 13) rfl), tq_sg7 _ (List.mem_of_getElem? (i := 51) rfl), ⟨by decide, by decide, by decide +kernel⟩, by decide⟩
theorem mvX12_many : 12 < 13 ∧ (tq_cl 12).1 = mX12_many.1.cls ∧ Cond.instanceMethod mX12_many.1 ∈ lw_tbl ∧ Cond.selects mX12_many.1.cls mX12_many.1 mX12_many.1 ∈ lw_tbl := ⟨by decide, rfl, tq_sg7 _ (List.mem_of_getElem? (i := 50) rfl), List.mem_append_left _ (List.mem_map.mpr ⟨_, List.mem_of_getElem? (i := 57) rfl, rfl⟩)⟩
theorem moX12_stands : tq_mok mX12_stands 2 := ⟨tq_sg1 _ (List.mem_of_getElem? (i := 13) rfl), tq_sg7 _ (List.mem_of_getElem? (i := 55) rfl), ⟨by decide, by decide, by decide +kernel⟩, by decide⟩
theorem mvX12_stands : 12 < 13 ∧ (tq_cl 12).1 = mX12_stands.1.cls ∧ Cond.instanceMethod mX12_stands.1 ∈ lw_tbl ∧ Cond.selects mX12_stands.1.cls mX12_stands.1 mX12_stands.1 ∈ lw_tbl := ⟨by decide, rfl, tq_sg7 _ (List.mem_of_getElem? (i := 54) rfl), List.mem_append_left _ (List.mem_map.mpr ⟨_, List.mem_of_getElem? (i := 58) rfl, rfl⟩)⟩
theorem l_X12_190 : tq_lok RX12 190 mX12_many.1 := Or.inl (tq_sg7 _ (List.mem_of_getElem? (i := 48) rfl))
theorem l_X12_196 : tq_lok RX12 196 mX12_stands.1 := Or.inl (tq_sg7 _ (List.mem_of_getElem? (i := 52) rfl))
theorem rX12_firstThatFalls_0 : tq_D cX12_firstThatFalls 0 (.iconst 0) 1 1 := ⟨by decide +kernel, rfl⟩
theorem rX12_firstThatFalls_1 : tq_D cX12_firstThatFalls 1 (.istore_n 2) 1 2 := ⟨by decide +kernel, rfl⟩
theorem rX12_firstThatFalls_2 : tq_D cX12_firstThatFalls 2 (.iload_n 2) 1 3 := ⟨by decide +kernel, rfl⟩
theorem rX12_firstThatFalls_3 : tq_D cX12_firstThatFalls 3 (.aload_n 0) 1 4 := ⟨by decide +kernel, rfl⟩
theorem rX12_firstThatFalls_4 : tq_D cX12_firstThatFalls 4 (.invokevirtual 190) 3 7 := ⟨by decide +kernel, rfl⟩
theorem rX12_firstThatFalls_7 : tq_J cX12_firstThatFalls 7 (.if_icmp .ge) 27 10 := ⟨20, by decide +kernel, by decide, rfl⟩
theorem rX12_firstThatFalls_10 : tq_D cX12_firstThatFalls 10 (.aload_n 0) 1 11 := ⟨by decide +kernel, rfl⟩
theorem rX12_firstThatFalls_11 : tq_D cX12_firstThatFalls 11 (.iload_n 1) 1 12 := ⟨by decide +kernel, rfl⟩
theorem rX12_firstThatFalls_12 : tq_D cX12_firstThatFalls 12 (.iload_n 2) 1 13 := ⟨by decide +kernel, rfl⟩
theorem rX12_firstThatFalls_13 : tq_D cX12_firstThatFalls 13 (.invokevirtual 196) 3 16 := ⟨by decide +kernel, rfl⟩
theorem rX12_firstThatFalls_16 : tq_J cX12_firstThatFalls 16 (.ifCond .ne) 21 19 := ⟨5, by decide +kernel, by decide, rfl⟩
theorem rX12_firstThatFalls_19 : tq_D cX12_firstThatFalls 19 (.iload_n 2) 1 20 := ⟨by decide +kernel, rfl⟩
theorem rX12_firstThatFalls_20 : decode cX12_firstThatFalls 20 = .ok (.ireturn, 1) := by decide +kernel
theorem rX12_firstThatFalls_21 : tq_D cX12_firstThatFalls 21 (.iinc 2 1) 3 24 := ⟨by decide +kernel, rfl⟩
theorem rX12_firstThatFalls_24 : tq_J cX12_firstThatFalls 24 .goto 2 27 := ⟨(-22), by decide +kernel, by decide, rfl⟩
theorem rX12_firstThatFalls_27 : tq_D cX12_firstThatFalls 27 (.iconst (-1)) 1 28 := ⟨by decide +kernel, rfl⟩
theorem rX12_firstThatFalls_28 : decode cX12_firstThatFalls 28 = .ok (.ireturn, 1) := by decide +kernel
noncomputable def FX12_firstThatFalls_s2 (I : tq_PI) (L : tq_PL) (a0 : Nat) (a1 : Int32) (a2 : Int32) : Option ((Int32) ⊕ ((Unit) ⊕ (Int32))) :=
  (tq_let (FX12_many I L a0) fun p1 => (if p1 ≤ a2 then some (.inr (.inl ())) else ((FX12_stands I L a0 a1 a2).bind fun p3 => (if (tq_b p3) = 0 then some (.inr (.inr a2)) else some (.inl (a2 + 1))))))
noncomputable def FX12_firstThatFalls (I : tq_PI) (L : tq_PL) (a0 : Nat) (a1 : Int32) : Option (Int32) :=
  ((tq_it (fun p : Int32 => FX12_firstThatFalls_s2 I L a0 a1 p) tq_N (0 : Int32)).bind fun p5 => p5.elim (fun t6 => some (-1 : Int32)) (fun t6 => some t6))
set_option maxRecDepth 100000 in
set_option maxHeartbeats 4000000 in
theorem FX12_firstThatFalls_s2_x {S : Nat × (Nat → Int32)} {d : Nat} {I : tq_PI} {L : tq_PL} {a0 : Nat} {a1 : Int32} {a2 : Int32} (h0 : tq_sh0 a0 = 12) {q0 : Option Value → tq_PI → tq_PL → Prop} {out : (Int32) ⊕ ((Unit) ⊕ (Int32))} (hf : FX12_firstThatFalls_s2 I L a0 a1 a2 = some out) (hk : Sum.elim (fun p : Int32 => tq_X S mX12_firstThatFalls (d + 2) tq_k0 2 ([.ref a0, .int a1, .int p]) [] (tq_st I L) (tq_Q q0)) (Sum.elim (fun p : Unit => tq_X S mX12_firstThatFalls (d + 2) tq_k0 27 ([tq_u, tq_u, tq_u]) [] (tq_st I L) (tq_Q q0)) (fun p : Int32 => q0 (some (.int p)) I L)) out) : tq_X S mX12_firstThatFalls (d + 2) tq_k0 2 ([.ref a0, .int a1, .int a2]) [] (tq_st I L) (tq_Q q0) := by
  unfold FX12_firstThatFalls_s2 at hf
  refine tq_iload_n rX12_firstThatFalls_2 rfl ?_
  refine tq_aload_n rX12_firstThatFalls_3 rfl ?_
  obtain ⟨p1, e1, hf⟩ := tq_let_elim hf
  refine ty_callVI p1 ([]) ([.int a2]) rX12_firstThatFalls_4 l_X12_190 moX12_many mvX12_many h0 rfl rfl (Nat.le_of_ble_eq_true rfl) ⟨rfl, rfl⟩ (CX12_many h0 e1) ?_
  refine tq_icmp_ge rX12_firstThatFalls_7 (fun c2 => ?_) (fun c2 => ?_)
  · rw [if_pos c2] at hf
    have hf := Option.some.inj hf
    subst hf
    exact tq_forget _ (tq_le_u (tq_le_u (tq_le_u tq_le_n))) hk
  · rw [if_neg c2] at hf
    refine tq_aload_n rX12_firstThatFalls_10 rfl ?_
    refine tq_iload_n rX12_firstThatFalls_11 rfl ?_
    refine tq_iload_n rX12_firstThatFalls_12 rfl ?_
    obtain ⟨p3, e3, hf⟩ := Option.bind_eq_some_iff.mp hf
    refine ty_callVI (tq_b p3) ([.int a1, .int a2]) ([]) rX12_firstThatFalls_13 l_X12_196 moX12_stands mvX12_stands h0 rfl rfl (Nat.le_of_ble_eq_true rfl) ⟨rfl, rfl⟩ (CX12_stands h0 e3) ?_
    refine tq_if_ne rX12_firstThatFalls_16 (fun c4 => ?_) (fun c4 => ?_)
    · rw [if_neg c4] at hf
      refine tq_iinc (a2 + 1) ([.ref a0, .int a1, .int (a2 + 1)]) rX12_firstThatFalls_21 rfl (tq_inc (by decide)) (Nat.le_of_ble_eq_true rfl) rfl ?_
      refine tq_goto rX12_firstThatFalls_24 ?_
      have hf := Option.some.inj hf
      subst hf
      exact tq_forget _ (tq_le_s (tq_le_s (tq_le_s tq_le_n))) hk
    · rw [if_pos c4] at hf
      refine tq_iload_n rX12_firstThatFalls_19 rfl ?_
      refine ty_iret rX12_firstThatFalls_20 rfl rfl ?_
      have hf := Option.some.inj hf
      subst hf
      exact hk

set_option maxRecDepth 100000 in
set_option maxHeartbeats 4000000 in
theorem CX12_firstThatFalls {S : Nat × (Nat → Int32)} {d : Nat} {I : tq_PI} {L : tq_PL} {a0 : Nat} {a1 : Int32} (h0 : tq_sh0 a0 = 12) {out : Int32} (hf : FX12_firstThatFalls I L a0 a1 = some out) : tq_K S mX12_firstThatFalls (d + 2) [.ref a0, .int a1] I L (tq_one2 (some (.int out)) I L) := by
  unfold FX12_firstThatFalls at hf
  refine tq_K_of (by decide) (Nat.le_of_ble_eq_true rfl) (ls := [.ref a0, .int a1, tq_u]) rfl ?_
  refine tq_iconst (0 : Int32) rX12_firstThatFalls_0 (by decide) ?_
  refine tq_istore_n ([.ref a0, .int a1, .int (0 : Int32)]) rX12_firstThatFalls_1 (Nat.le_of_ble_eq_true rfl) rfl ?_
  obtain ⟨p5, e5, hf⟩ := Option.bind_eq_some_iff.mp hf
  refine tq_forget _ (tq_le_s (tq_le_s (tq_le_s tq_le_n))) ?_
  refine tq_it_elim (P := fun p : Int32 => tq_X S mX12_firstThatFalls (d + 2) tq_k0 2 ([.ref a0, .int a1, .int p]) [] (tq_st I L) (tq_Q (tq_one2 (some (.int out)) I L))) (R := Sum.elim (fun p : Unit => tq_X S mX12_firstThatFalls (d + 2) tq_k0 27 ([tq_u, tq_u, tq_u]) [] (tq_st I L) (tq_Q (tq_one2 (some (.int out)) I L))) (fun p : Int32 => (tq_one2 (some (.int out)) I L) (some (.int p)) I L)) (fun p o hp hk => FX12_firstThatFalls_s2_x  h0 hp hk) _ ((0 : Int32)) _ e5 ?_
  rcases tq_selim hf with ⟨t6, t6q, hf⟩ | ⟨t6, t6q, hf⟩
  · rw [t6q]
    show tq_X _ _ _ _ _ _ _ _ _
    refine tq_iconst (-1 : Int32) rX12_firstThatFalls_27 (by decide) ?_
    refine ty_iret rX12_firstThatFalls_28 rfl rfl ?_
    have hf := Option.some.inj hf
    subst hf
    exact ⟨rfl, rfl, rfl⟩
  · rw [t6q]
    have hf := Option.some.inj hf
    subst hf
    exact ⟨rfl, rfl, rfl⟩

abbrev mX12_hillFault : tq_M := (yX12_hillFault, cX12_hillFault, 1, (Option.some Jvm.ClassFile.FieldType.int), 0, 0)
theorem moX12_firstThatFalls : tq_mok mX12_firstThatFalls 1 := ⟨tq_sg1 _ (List.mem_of_getElem? (i := 13) rfl), tq_sg7 _ (List.mem_of_getElem? (i := 47) rfl), ⟨by decide, by decide, by decide +kernel⟩, by decide⟩
theorem mvX12_firstThatFalls : 12 < 13 ∧ (tq_cl 12).1 = mX12_firstThatFalls.1.cls ∧ Cond.instanceMethod mX12_firstThatFalls.1 ∈ lw_tbl ∧ Cond.selects mX12_firstThatFalls.1.cls mX12_firstThatFalls.1 mX12_firstThatFalls.1 ∈ lw_tbl := ⟨by decide, rfl, tq_sg7 _ (List.mem_of_getElem? (i := 46) rfl), List.mem_append_left _ (List.mem_map.mpr ⟨_, List.mem_of_getElem? (i := 56) rfl, rfl⟩)⟩
theorem moX12_settles : tq_mok mX12_settles 0 := ⟨tq_sg1 _ (List.mem_of_getElem? (i := 13) rfl), tq_sg7 _ (List.mem_of_getElem? (i := 43) rfl), ⟨by decide, by decide, by decide +kernel⟩, by decide⟩
theorem mvX12_settles : 12 < 13 ∧ (tq_cl 12).1 = mX12_settles.1.cls ∧ Cond.instanceMethod mX12_settles.1 ∈ lw_tbl ∧ Cond.selects mX12_settles.1.cls mX12_settles.1 mX12_settles.1 ∈ lw_tbl := ⟨by decide, rfl, tq_sg7 _ (List.mem_of_getElem? (i := 42) rfl), List.mem_append_left _ (List.mem_map.mpr ⟨_, List.mem_of_getElem? (i := 55) rfl, rfl⟩)⟩
theorem l_X12_145 : tq_lok RX12 145 mX12_settles.1 := Or.inl (tq_sg7 _ (List.mem_of_getElem? (i := 40) rfl))
theorem l_X12_154 : tq_lok RX12 154 mX12_firstThatFalls.1 := Or.inl (tq_sg7 _ (List.mem_of_getElem? (i := 44) rfl))
theorem rX12_hillFault_0 : tq_D cX12_hillFault 0 (.aload_n 0) 1 1 := ⟨by decide +kernel, rfl⟩
theorem rX12_hillFault_1 : tq_D cX12_hillFault 1 (.getfield 136) 3 4 := ⟨by decide +kernel, rfl⟩
theorem rX12_hillFault_4 : tq_D cX12_hillFault 4 (.aload_n 0) 1 5 := ⟨by decide +kernel, rfl⟩
theorem rX12_hillFault_5 : tq_D cX12_hillFault 5 (.getfield 17) 3 8 := ⟨by decide +kernel, rfl⟩
theorem rX12_hillFault_8 : tq_D cX12_hillFault 8 (.iconst 0) 1 9 := ⟨by decide +kernel, rfl⟩
theorem rX12_hillFault_9 : tq_D cX12_hillFault 9 (.iaload) 1 10 := ⟨by decide +kernel, rfl⟩
theorem rX12_hillFault_10 : tq_J cX12_hillFault 10 (.if_icmp .ge) 26 13 := ⟨16, by decide +kernel, by decide, rfl⟩
theorem rX12_hillFault_13 : tq_D cX12_hillFault 13 (.aload_n 0) 1 14 := ⟨by decide +kernel, rfl⟩
theorem rX12_hillFault_14 : tq_D cX12_hillFault 14 (.getfield 139) 3 17 := ⟨by decide +kernel, rfl⟩
theorem rX12_hillFault_17 : tq_D cX12_hillFault 17 (.aload_n 0) 1 18 := ⟨by decide +kernel, rfl⟩
theorem rX12_hillFault_18 : tq_D cX12_hillFault 18 (.getfield 17) 3 21 := ⟨by decide +kernel, rfl⟩
theorem rX12_hillFault_21 : tq_D cX12_hillFault 21 (.iconst 1) 1 22 := ⟨by decide +kernel, rfl⟩
theorem rX12_hillFault_22 : tq_D cX12_hillFault 22 (.iaload) 1 23 := ⟨by decide +kernel, rfl⟩
theorem rX12_hillFault_23 : tq_J cX12_hillFault 23 (.if_icmp .lt) 28 26 := ⟨5, by decide +kernel, by decide, rfl⟩
theorem rX12_hillFault_26 : tq_D cX12_hillFault 26 (.iconst 4) 1 27 := ⟨by decide +kernel, rfl⟩
theorem rX12_hillFault_27 : decode cX12_hillFault 27 = .ok (.ireturn, 1) := by decide +kernel
theorem rX12_hillFault_28 : tq_D cX12_hillFault 28 (.aload_n 0) 1 29 := ⟨by decide +kernel, rfl⟩
theorem rX12_hillFault_29 : tq_D cX12_hillFault 29 (.invokevirtual 145) 3 32 := ⟨by decide +kernel, rfl⟩
theorem rX12_hillFault_32 : tq_D cX12_hillFault 32 (.aload_n 0) 1 33 := ⟨by decide +kernel, rfl⟩
theorem rX12_hillFault_33 : tq_D cX12_hillFault 33 (.aload_n 0) 1 34 := ⟨by decide +kernel, rfl⟩
theorem rX12_hillFault_34 : tq_D cX12_hillFault 34 (.getfield 17) 3 37 := ⟨by decide +kernel, rfl⟩
theorem rX12_hillFault_37 : tq_D cX12_hillFault 37 (.iconst 0) 1 38 := ⟨by decide +kernel, rfl⟩
theorem rX12_hillFault_38 : tq_D cX12_hillFault 38 (.iaload) 1 39 := ⟨by decide +kernel, rfl⟩
theorem rX12_hillFault_39 : tq_D cX12_hillFault 39 (.putfield 148) 3 42 := ⟨by decide +kernel, rfl⟩
theorem rX12_hillFault_42 : tq_D cX12_hillFault 42 (.aload_n 0) 1 43 := ⟨by decide +kernel, rfl⟩
theorem rX12_hillFault_43 : tq_D cX12_hillFault 43 (.aload_n 0) 1 44 := ⟨by decide +kernel, rfl⟩
theorem rX12_hillFault_44 : tq_D cX12_hillFault 44 (.getfield 17) 3 47 := ⟨by decide +kernel, rfl⟩
theorem rX12_hillFault_47 : tq_D cX12_hillFault 47 (.iconst 1) 1 48 := ⟨by decide +kernel, rfl⟩
theorem rX12_hillFault_48 : tq_D cX12_hillFault 48 (.iaload) 1 49 := ⟨by decide +kernel, rfl⟩
theorem rX12_hillFault_49 : tq_D cX12_hillFault 49 (.putfield 151) 3 52 := ⟨by decide +kernel, rfl⟩
theorem rX12_hillFault_52 : tq_D cX12_hillFault 52 (.aload_n 0) 1 53 := ⟨by decide +kernel, rfl⟩
theorem rX12_hillFault_53 : tq_D cX12_hillFault 53 (.iconst 0) 1 54 := ⟨by decide +kernel, rfl⟩
theorem rX12_hillFault_54 : tq_D cX12_hillFault 54 (.invokevirtual 154) 3 57 := ⟨by decide +kernel, rfl⟩
theorem rX12_hillFault_57 : tq_D cX12_hillFault 57 (.iconst (-1)) 1 58 := ⟨by decide +kernel, rfl⟩
theorem rX12_hillFault_58 : tq_J cX12_hillFault 58 (.if_icmp .ne) 65 61 := ⟨7, by decide +kernel, by decide, rfl⟩
theorem rX12_hillFault_61 : tq_D cX12_hillFault 61 (.iconst 0) 1 62 := ⟨by decide +kernel, rfl⟩
theorem rX12_hillFault_62 : tq_J cX12_hillFault 62 .goto 66 65 := ⟨4, by decide +kernel, by decide, rfl⟩
theorem rX12_hillFault_65 : tq_D cX12_hillFault 65 (.iconst 5) 1 66 := ⟨by decide +kernel, rfl⟩
theorem rX12_hillFault_66 : decode cX12_hillFault 66 = .ok (.ireturn, 1) := by decide +kernel
noncomputable def FX12_hillFault_j26 (I : tq_PI) (L : tq_PL)  : Option (Int32 × tq_PI) :=
  some ((4 : Int32), I)
noncomputable def FX12_hillFault (I : tq_PI) (L : tq_PL) (a0 : Nat) : Option (Int32 × tq_PI) :=
  (if 0 ≤ (0 : Int32) ∧ (0 : Int32) < 121 then (if (I (tq_rg a0 11) ((0 : Int32)).toNatClampNeg) ≤ (I a0 9) then (FX12_hillFault_j26 I L ) else (if 0 ≤ (1 : Int32) ∧ (1 : Int32) < 121 then (if (I a0 10) < (I (tq_rg a0 11) ((1 : Int32)).toNatClampNeg) then ((FX12_settles I L a0).bind fun p5 => (if 0 ≤ (0 : Int32) ∧ (0 : Int32) < 121 then (if 0 ≤ (1 : Int32) ∧ (1 : Int32) < 121 then ((FX12_firstThatFalls ((tq_up2 (tq_up2 p5 a0 13 (p5 (tq_rg a0 11) ((0 : Int32)).toNatClampNeg)) a0 14 (((tq_up2 p5 a0 13 (p5 (tq_rg a0 11) ((0 : Int32)).toNatClampNeg))) (tq_rg a0 11) ((1 : Int32)).toNatClampNeg))) L a0 ((0 : Int32))).bind fun p8 => (if p8 = (-1 : Int32) then some ((0 : Int32), (tq_up2 (tq_up2 p5 a0 13 (p5 (tq_rg a0 11) ((0 : Int32)).toNatClampNeg)) a0 14 (((tq_up2 p5 a0 13 (p5 (tq_rg a0 11) ((0 : Int32)).toNatClampNeg))) (tq_rg a0 11) ((1 : Int32)).toNatClampNeg))) else some ((5 : Int32), (tq_up2 (tq_up2 p5 a0 13 (p5 (tq_rg a0 11) ((0 : Int32)).toNatClampNeg)) a0 14 (((tq_up2 p5 a0 13 (p5 (tq_rg a0 11) ((0 : Int32)).toNatClampNeg))) (tq_rg a0 11) ((1 : Int32)).toNatClampNeg))))) else none) else none)) else (FX12_hillFault_j26 I L )) else none)) else none)
set_option maxRecDepth 100000 in
set_option maxHeartbeats 4000000 in
theorem FX12_hillFault_j26_x {S : Nat × (Nat → Int32)} {d : Nat} {I : tq_PI} {L : tq_PL}   {q0 : Option Value → tq_PI → tq_PL → Prop} {out : Int32 × tq_PI} (hf : FX12_hillFault_j26 I L = some out) (hk : q0 (some (.int out.1)) out.2 L) : tq_X S mX12_hillFault (d + 3) tq_k0 26 ([tq_u]) ([]) (tq_st I L) (tq_Q q0) := by
  unfold FX12_hillFault_j26 at hf
  refine tq_iconst (4 : Int32) rX12_hillFault_26 (by decide) ?_
  refine ty_iret rX12_hillFault_27 rfl rfl ?_
  have hf := Option.some.inj hf
  subst hf
  exact hk

set_option maxRecDepth 100000 in
set_option maxHeartbeats 4000000 in
theorem CX12_hillFault {S : Nat × (Nat → Int32)} {d : Nat} {I : tq_PI} {L : tq_PL} {a0 : Nat} (h0 : tq_sh0 a0 = 12) {out : Int32 × tq_PI} (hf : FX12_hillFault I L a0 = some out) : tq_K S mX12_hillFault (d + 3) [.ref a0] I L (tq_one2 (some (.int out.1)) out.2 L) := by
  unfold FX12_hillFault at hf
  refine tq_K_of (by decide) (Nat.le_of_ble_eq_true rfl) (ls := [.ref a0]) rfl ?_
  refine tq_aload_n rX12_hillFault_0 rfl ?_
  refine ty_getI rX12_hillFault_1 f_X12_136 rfl h0 ?_
  refine tq_aload_n rX12_hillFault_4 rfl ?_
  refine ty_getR rX12_hillFault_5 f_X12_17 rfl h0 (hp_12_11 h0).1 ?_
  refine tq_iconst (0 : Int32) rX12_hillFault_8 (by decide) ?_
  obtain ⟨g1, hf⟩ := tq_chk hf
  refine ty_iald (v := 121) rX12_hillFault_9 (hp_12_11 h0).2.1 (hp_12_11 h0).2.2 rfl (by decide) g1 ?_
  refine tq_icmp_ge rX12_hillFault_10 (fun c2 => ?_) (fun c2 => ?_)
  · rw [if_pos c2] at hf
    exact tq_forget _ (tq_le_u tq_le_n) (FX12_hillFault_j26_x   hf ⟨rfl, rfl, rfl⟩)
  · rw [if_neg c2] at hf
    refine tq_aload_n rX12_hillFault_13 rfl ?_
    refine ty_getI rX12_hillFault_14 f_X12_139 rfl h0 ?_
    refine tq_aload_n rX12_hillFault_17 rfl ?_
    refine ty_getR rX12_hillFault_18 f_X12_17 rfl h0 (hp_12_11 h0).1 ?_
    refine tq_iconst (1 : Int32) rX12_hillFault_21 (by decide) ?_
    obtain ⟨g3, hf⟩ := tq_chk hf
    refine ty_iald (v := 121) rX12_hillFault_22 (hp_12_11 h0).2.1 (hp_12_11 h0).2.2 rfl (by decide) g3 ?_
    refine tq_icmp_lt rX12_hillFault_23 (fun c4 => ?_) (fun c4 => ?_)
    · rw [if_pos c4] at hf
      refine tq_aload_n rX12_hillFault_28 rfl ?_
      obtain ⟨p5, e5, hf⟩ := Option.bind_eq_some_iff.mp hf
      refine ty_callVV ([]) ([]) rX12_hillFault_29 l_X12_145 moX12_settles mvX12_settles h0 rfl rfl (Nat.le_of_ble_eq_true rfl) ⟨rfl, rfl⟩ (CX12_settles h0 e5) ?_
      refine tq_aload_n rX12_hillFault_32 rfl ?_
      refine tq_aload_n rX12_hillFault_33 rfl ?_
      refine ty_getR rX12_hillFault_34 f_X12_17 rfl h0 (hp_12_11 h0).1 ?_
      refine tq_iconst (0 : Int32) rX12_hillFault_37 (by decide) ?_
      obtain ⟨g6, hf⟩ := tq_chk hf
      refine ty_iald (v := 121) rX12_hillFault_38 (hp_12_11 h0).2.1 (hp_12_11 h0).2.2 rfl (by decide) g6 ?_
      refine ty_putI rX12_hillFault_39 f_X12_148 rfl h0 rfl ?_
      refine tq_aload_n rX12_hillFault_42 rfl ?_
      refine tq_aload_n rX12_hillFault_43 rfl ?_
      refine ty_getR rX12_hillFault_44 f_X12_17 rfl h0 (hp_12_11 h0).1 ?_
      refine tq_iconst (1 : Int32) rX12_hillFault_47 (by decide) ?_
      obtain ⟨g7, hf⟩ := tq_chk hf
      refine ty_iald (v := 121) rX12_hillFault_48 (hp_12_11 h0).2.1 (hp_12_11 h0).2.2 rfl (by decide) g7 ?_
      refine ty_putI rX12_hillFault_49 f_X12_151 rfl h0 rfl ?_
      refine tq_aload_n rX12_hillFault_52 rfl ?_
      refine tq_iconst (0 : Int32) rX12_hillFault_53 (by decide) ?_
      obtain ⟨p8, e8, hf⟩ := Option.bind_eq_some_iff.mp hf
      refine ty_callVI p8 ([.int (0 : Int32)]) ([]) rX12_hillFault_54 l_X12_154 moX12_firstThatFalls mvX12_firstThatFalls h0 rfl rfl (Nat.le_of_ble_eq_true rfl) ⟨rfl, rfl⟩ (CX12_firstThatFalls h0 e8) ?_
      refine tq_iconst (-1 : Int32) rX12_hillFault_57 (by decide) ?_
      refine tq_icmp_ne rX12_hillFault_58 (fun c9 => ?_) (fun c9 => ?_)
      · rw [if_neg c9] at hf
        refine tq_iconst (5 : Int32) rX12_hillFault_65 (by decide) ?_
        refine ty_iret rX12_hillFault_66 rfl rfl ?_
        have hf := Option.some.inj hf
        subst hf
        exact ⟨rfl, rfl, rfl⟩
      · rw [if_pos c9] at hf
        refine tq_iconst (0 : Int32) rX12_hillFault_61 (by decide) ?_
        refine tq_goto rX12_hillFault_62 ?_
        refine ty_iret rX12_hillFault_66 rfl rfl ?_
        have hf := Option.some.inj hf
        subst hf
        exact ⟨rfl, rfl, rfl⟩
    · rw [if_neg c4] at hf
      exact tq_forget _ (tq_le_u tq_le_n) (FX12_hillFault_j26_x   hf ⟨rfl, rfl, rfl⟩)

abbrev mX12_placeOf : tq_M := (yX12_placeOf, cX12_placeOf, 2, (Option.some Jvm.ClassFile.FieldType.int), 0, 0)
theorem rX12_placeOf_0 : tq_D cX12_placeOf 0 (.iload_n 0) 1 1 := ⟨by decide +kernel, rfl⟩
theorem rX12_placeOf_1 : tq_J cX12_placeOf 1 (.ifCond .ne) 15 4 := ⟨14, by decide +kernel, by decide, rfl⟩
theorem rX12_placeOf_4 : tq_D cX12_placeOf 4 (.sipush 610) 3 7 := ⟨by decide +kernel, rfl⟩
theorem rX12_placeOf_7 : tq_D cX12_placeOf 7 (.bipush 50) 2 9 := ⟨by decide +kernel, rfl⟩
theorem rX12_placeOf_9 : tq_D cX12_placeOf 9 (.iload_n 1) 1 10 := ⟨by decide +kernel, rfl⟩
theorem rX12_placeOf_10 : tq_D cX12_placeOf 10 (.imul) 1 11 := ⟨by decide +kernel, rfl⟩
theorem rX12_placeOf_11 : tq_D cX12_placeOf 11 (.iadd) 1 12 := ⟨by decide +kernel, rfl⟩
theorem rX12_placeOf_12 : tq_J cX12_placeOf 12 .goto 55 15 := ⟨43, by decide +kernel, by decide, rfl⟩
theorem rX12_placeOf_15 : tq_D cX12_placeOf 15 (.iload_n 0) 1 16 := ⟨by decide +kernel, rfl⟩
theorem rX12_placeOf_16 : tq_D cX12_placeOf 16 (.iconst 1) 1 17 := ⟨by decide +kernel, rfl⟩
theorem rX12_placeOf_17 : tq_J cX12_placeOf 17 (.if_icmp .ne) 31 20 := ⟨14, by decide +kernel, by decide, rfl⟩
theorem rX12_placeOf_20 : tq_D cX12_placeOf 20 (.sipush 710) 3 23 := ⟨by decide +kernel, rfl⟩
theorem rX12_placeOf_23 : tq_D cX12_placeOf 23 (.bipush 121) 2 25 := ⟨by decide +kernel, rfl⟩
theorem rX12_placeOf_25 : tq_D cX12_placeOf 25 (.iload_n 1) 1 26 := ⟨by decide +kernel, rfl⟩
theorem rX12_placeOf_26 : tq_D cX12_placeOf 26 (.imul) 1 27 := ⟨by decide +kernel, rfl⟩
theorem rX12_placeOf_27 : tq_D cX12_placeOf 27 (.iadd) 1 28 := ⟨by decide +kernel, rfl⟩
theorem rX12_placeOf_28 : tq_J cX12_placeOf 28 .goto 55 31 := ⟨27, by decide +kernel, by decide, rfl⟩
theorem rX12_placeOf_31 : tq_D cX12_placeOf 31 (.iload_n 0) 1 32 := ⟨by decide +kernel, rfl⟩
theorem rX12_placeOf_32 : tq_D cX12_placeOf 32 (.iconst 2) 1 33 := ⟨by decide +kernel, rfl⟩
theorem rX12_placeOf_33 : tq_J cX12_placeOf 33 (.if_icmp .ne) 47 36 := ⟨14, by decide +kernel, by decide, rfl⟩
theorem rX12_placeOf_36 : tq_D cX12_placeOf 36 (.sipush 952) 3 39 := ⟨by decide +kernel, rfl⟩
theorem rX12_placeOf_39 : tq_D cX12_placeOf 39 (.bipush 17) 2 41 := ⟨by decide +kernel, rfl⟩
theorem rX12_placeOf_41 : tq_D cX12_placeOf 41 (.iload_n 1) 1 42 := ⟨by decide +kernel, rfl⟩
theorem rX12_placeOf_42 : tq_D cX12_placeOf 42 (.imul) 1 43 := ⟨by decide +kernel, rfl⟩
theorem rX12_placeOf_43 : tq_D cX12_placeOf 43 (.iadd) 1 44 := ⟨by decide +kernel, rfl⟩
theorem rX12_placeOf_44 : tq_J cX12_placeOf 44 .goto 55 47 := ⟨11, by decide +kernel, by decide, rfl⟩
theorem rX12_placeOf_47 : tq_D cX12_placeOf 47 (.sipush 986) 3 50 := ⟨by decide +kernel, rfl⟩
theorem rX12_placeOf_50 : tq_D cX12_placeOf 50 (.bipush 9) 2 52 := ⟨by decide +kernel, rfl⟩
theorem rX12_placeOf_52 : tq_D cX12_placeOf 52 (.iload_n 1) 1 53 := ⟨by decide +kernel, rfl⟩
theorem rX12_placeOf_53 : tq_D cX12_placeOf 53 (.imul) 1 54 := ⟨by decide +kernel, rfl⟩
theorem rX12_placeOf_54 : tq_D cX12_placeOf 54 (.iadd) 1 55 := ⟨by decide +kernel, rfl⟩
theorem rX12_placeOf_55 : decode cX12_placeOf 55 = .ok (.ireturn, 1) := by decide +kernel
noncomputable def FX12_placeOf (I : tq_PI) (L : tq_PL) (a0 : Int32) (a1 : Int32) : Int32 :=
  (if a0 = 0 then ((610 : Int32) + ((50 : Int32) * a1)) else (if a0 = (1 : Int32) then ((710 : Int32) + ((121 : Int32) * a1)) else (if a0 = (2 : Int32) then ((952 : Int32) + ((17 : Int32) * a1)) else ((986 : Int32) + ((9 : Int32) * a1)))))
set_option maxRecDepth 100000 in
set_option maxHeartbeats 4000000 in
theorem CX12_placeOf {S : Nat × (Nat → Int32)} {d : Nat} {I : tq_PI} {L : tq_PL} {a0 : Int32} {a1 : Int32}  {out : Int32} (hf : FX12_placeOf I L a0 a1 = out) : tq_K S mX12_placeOf d [.int a0, .int a1] I L (tq_one2 (some (.int out)) I L) := by
  unfold FX12_placeOf at hf
  refine tq_K_of (by decide) (Nat.le_of_ble_eq_true rfl) (ls := [.int a0, .int a1]) rfl ?_
  refine tq_iload_n rX12_placeOf_0 rfl ?_
  refine tq_if_ne rX12_placeOf_1 (fun c1 => ?_) (fun c1 => ?_)
  · rw [if_neg c1] at hf
    refine tq_iload_n rX12_placeOf_15 rfl ?_
    refine tq_iconst (1 : Int32) rX12_placeOf_16 (by decide) ?_
    refine tq_icmp_ne rX12_placeOf_17 (fun c2 => ?_) (fun c2 => ?_)
    · rw [if_neg c2] at hf
      refine tq_iload_n rX12_placeOf_31 rfl ?_
      refine tq_iconst (2 : Int32) rX12_placeOf_32 (by decide) ?_
      refine tq_icmp_ne rX12_placeOf_33 (fun c3 => ?_) (fun c3 => ?_)
      · rw [if_neg c3] at hf
        refine tq_sipush (986 : Int32) rX12_placeOf_47 (by decide) ?_
        refine tq_bipush (9 : Int32) rX12_placeOf_50 (by decide) ?_
        refine tq_iload_n rX12_placeOf_52 rfl ?_
        refine tq_imul rX12_placeOf_53 ?_
        refine tq_iadd rX12_placeOf_54 ?_
        refine ty_iret rX12_placeOf_55 rfl rfl ?_
        subst hf
        exact ⟨rfl, rfl, rfl⟩
      · rw [if_pos c3] at hf
        refine tq_sipush (952 : Int32) rX12_placeOf_36 (by decide) ?_
        refine tq_bipush (17 : Int32) rX12_placeOf_39 (by decide) ?_
        refine tq_iload_n rX12_placeOf_41 rfl ?_
        refine tq_imul rX12_placeOf_42 ?_
        refine tq_iadd rX12_placeOf_43 ?_
        refine tq_goto rX12_placeOf_44 ?_
        refine ty_iret rX12_placeOf_55 rfl rfl ?_
        subst hf
        exact ⟨rfl, rfl, rfl⟩
    · rw [if_pos c2] at hf
      refine tq_sipush (710 : Int32) rX12_placeOf_20 (by decide) ?_
      refine tq_bipush (121 : Int32) rX12_placeOf_23 (by decide) ?_
      refine tq_iload_n rX12_placeOf_25 rfl ?_
      refine tq_imul rX12_placeOf_26 ?_
      refine tq_iadd rX12_placeOf_27 ?_
      refine tq_goto rX12_placeOf_28 ?_
      refine ty_iret rX12_placeOf_55 rfl rfl ?_
      subst hf
      exact ⟨rfl, rfl, rfl⟩
  · rw [if_pos c1] at hf
    refine tq_sipush (610 : Int32) rX12_placeOf_4 (by decide) ?_
    refine tq_bipush (50 : Int32) rX12_placeOf_7 (by decide) ?_
    refine tq_iload_n rX12_placeOf_9 rfl ?_
    refine tq_imul rX12_placeOf_10 ?_
    refine tq_iadd rX12_placeOf_11 ?_
    refine tq_goto rX12_placeOf_12 ?_
    refine ty_iret rX12_placeOf_55 rfl rfl ?_
    subst hf
    exact ⟨rfl, rfl, rfl⟩

abbrev mX12_sizeOf : tq_M := (yX12_sizeOf, cX12_sizeOf, 1, (Option.some Jvm.ClassFile.FieldType.int), 0, 0)
theorem rX12_sizeOf_0 : tq_D cX12_sizeOf 0 (.iload_n 0) 1 1 := ⟨by decide +kernel, rfl⟩
theorem rX12_sizeOf_1 : tq_J cX12_sizeOf 1 (.ifCond .ne) 9 4 := ⟨8, by decide +kernel, by decide, rfl⟩
theorem rX12_sizeOf_4 : tq_D cX12_sizeOf 4 (.bipush 50) 2 6 := ⟨by decide +kernel, rfl⟩
theorem rX12_sizeOf_6 : tq_J cX12_sizeOf 6 .goto 31 9 := ⟨25, by decide +kernel, by decide, rfl⟩
theorem rX12_sizeOf_9 : tq_D cX12_sizeOf 9 (.iload_n 0) 1 10 := ⟨by decide +kernel, rfl⟩
theorem rX12_sizeOf_10 : tq_D cX12_sizeOf 10 (.iconst 1) 1 11 := ⟨by decide +kernel, rfl⟩
theorem rX12_sizeOf_11 : tq_J cX12_sizeOf 11 (.if_icmp .ne) 19 14 := ⟨8, by decide +kernel, by decide, rfl⟩
theorem rX12_sizeOf_14 : tq_D cX12_sizeOf 14 (.bipush 121) 2 16 := ⟨by decide +kernel, rfl⟩
theorem rX12_sizeOf_16 : tq_J cX12_sizeOf 16 .goto 31 19 := ⟨15, by decide +kernel, by decide, rfl⟩
theorem rX12_sizeOf_19 : tq_D cX12_sizeOf 19 (.iload_n 0) 1 20 := ⟨by decide +kernel, rfl⟩
theorem rX12_sizeOf_20 : tq_D cX12_sizeOf 20 (.iconst 2) 1 21 := ⟨by decide +kernel, rfl⟩
theorem rX12_sizeOf_21 : tq_J cX12_sizeOf 21 (.if_icmp .ne) 29 24 := ⟨8, by decide +kernel, by decide, rfl⟩
theorem rX12_sizeOf_24 : tq_D cX12_sizeOf 24 (.bipush 17) 2 26 := ⟨by decide +kernel, rfl⟩
theorem rX12_sizeOf_26 : tq_J cX12_sizeOf 26 .goto 31 29 := ⟨5, by decide +kernel, by decide, rfl⟩
theorem rX12_sizeOf_29 : tq_D cX12_sizeOf 29 (.bipush 9) 2 31 := ⟨by decide +kernel, rfl⟩
theorem rX12_sizeOf_31 : decode cX12_sizeOf 31 = .ok (.ireturn, 1) := by decide +kernel
noncomputable def FX12_sizeOf (I : tq_PI) (L : tq_PL) (a0 : Int32) : Int32 :=
  (if a0 = 0 then (50 : Int32) else (if a0 = (1 : Int32) then (121 : Int32) else (if a0 = (2 : Int32) then (17 : Int32) else (9 : Int32))))
set_option maxRecDepth 100000 in
set_option maxHeartbeats 4000000 in
theorem CX12_sizeOf {S : Nat × (Nat → Int32)} {d : Nat} {I : tq_PI} {L : tq_PL} {a0 : Int32}  {out : Int32} (hf : FX12_sizeOf I L a0 = out) : tq_K S mX12_sizeOf d [.int a0] I L (tq_one2 (some (.int out)) I L) := by
  unfold FX12_sizeOf at hf
  refine tq_K_of (by decide) (Nat.le_of_ble_eq_true rfl) (ls := [.int a0]) rfl ?_
  refine tq_iload_n rX12_sizeOf_0 rfl ?_
  refine tq_if_ne rX12_sizeOf_1 (fun c1 => ?_) (fun c1 => ?_)
  · rw [if_neg c1] at hf
    refine tq_iload_n rX12_sizeOf_9 rfl ?_
    refine tq_iconst (1 : Int32) rX12_sizeOf_10 (by decide) ?_
    refine tq_icmp_ne rX12_sizeOf_11 (fun c2 => ?_) (fun c2 => ?_)
    · rw [if_neg c2] at hf
      refine tq_iload_n rX12_sizeOf_19 rfl ?_
      refine tq_iconst (2 : Int32) rX12_sizeOf_20 (by decide) ?_
      refine tq_icmp_ne rX12_sizeOf_21 (fun c3 => ?_) (fun c3 => ?_)
      · rw [if_neg c3] at hf
        refine tq_bipush (9 : Int32) rX12_sizeOf_29 (by decide) ?_
        refine ty_iret rX12_sizeOf_31 rfl rfl ?_
        subst hf
        exact ⟨rfl, rfl, rfl⟩
      · rw [if_pos c3] at hf
        refine tq_bipush (17 : Int32) rX12_sizeOf_24 (by decide) ?_
        refine tq_goto rX12_sizeOf_26 ?_
        refine ty_iret rX12_sizeOf_31 rfl rfl ?_
        subst hf
        exact ⟨rfl, rfl, rfl⟩
    · rw [if_pos c2] at hf
      refine tq_bipush (121 : Int32) rX12_sizeOf_14 (by decide) ?_
      refine tq_goto rX12_sizeOf_16 ?_
      refine ty_iret rX12_sizeOf_31 rfl rfl ?_
      subst hf
      exact ⟨rfl, rfl, rfl⟩
  · rw [if_pos c1] at hf
    refine tq_bipush (50 : Int32) rX12_sizeOf_4 (by decide) ?_
    refine tq_goto rX12_sizeOf_6 ?_
    refine ty_iret rX12_sizeOf_31 rfl rfl ?_
    subst hf
    exact ⟨rfl, rfl, rfl⟩

abbrev mX12_isOf : tq_M := (yX12_isOf, cX12_isOf, 3, (Option.some Jvm.ClassFile.FieldType.boolean), 0, 0)
theorem rX12_isOf_0 : tq_D cX12_isOf 0 (.iload_n 2) 1 1 := ⟨by decide +kernel, rfl⟩
theorem rX12_isOf_1 : tq_D cX12_isOf 1 (.iconst 0) 1 2 := ⟨by decide +kernel, rfl⟩
theorem rX12_isOf_2 : tq_D cX12_isOf 2 (.aload_n 0) 1 3 := ⟨by decide +kernel, rfl⟩
theorem rX12_isOf_3 : tq_D cX12_isOf 3 (.getfield 7) 3 6 := ⟨by decide +kernel, rfl⟩
theorem rX12_isOf_6 : tq_D cX12_isOf 6 (.iload_n 1) 1 7 := ⟨by decide +kernel, rfl⟩
theorem rX12_isOf_7 : tq_D cX12_isOf 7 (.iaload) 1 8 := ⟨by decide +kernel, rfl⟩
theorem rX12_isOf_8 : tq_D cX12_isOf 8 (.iconst 1) 1 9 := ⟨by decide +kernel, rfl⟩
theorem rX12_isOf_9 : tq_D cX12_isOf 9 (.isub) 1 10 := ⟨by decide +kernel, rfl⟩
theorem rX12_isOf_10 : tq_D cX12_isOf 10 (.invokestatic 118) 3 13 := ⟨by decide +kernel, rfl⟩
theorem rX12_isOf_13 : decode cX12_isOf 13 = .ok (.ireturn, 1) := by decide +kernel
noncomputable def FX12_isOf (I : tq_PI) (L : tq_PL) (a0 : Nat) (a1 : Int32) (a2 : Int32) : Option (Bool) :=
  (if 0 ≤ a1 ∧ a1 < 4016 then (tq_let (FX12_isIn I L a2 ((0 : Int32)) (((I (tq_rg a0 0) a1.toNatClampNeg) - (1 : Int32)))) fun p2 => some p2) else none)
set_option maxRecDepth 100000 in
set_option maxHeartbeats 4000000 in
theorem CX12_isOf {S : Nat × (Nat → Int32)} {d : Nat} {I : tq_PI} {L : tq_PL} {a0 : Nat} {a1 : Int32} {a2 : Int32} (h0 : tq_sh0 a0 = 12) {out : Bool} (hf : FX12_isOf I L a0 a1 a2 = some out) : tq_K S mX12_isOf (d + 1) [.ref a0, .int a1, .int a2] I L (tq_one2 (some (.int (tq_b out))) I L) := by
  unfold FX12_isOf at hf
  refine tq_K_of (by decide) (Nat.le_of_ble_eq_true rfl) (ls := [.ref a0, .int a1, .int a2]) rfl ?_
  refine tq_iload_n rX12_isOf_0 rfl ?_
  refine tq_iconst (0 : Int32) rX12_isOf_1 (by decide) ?_
  refine tq_aload_n rX12_isOf_2 rfl ?_
  refine ty_getR rX12_isOf_3 f_X12_7 rfl h0 (hp_12_0 h0).1 ?_
  refine tq_iload_n rX12_isOf_6 rfl ?_
  obtain ⟨g1, hf⟩ := tq_chk hf
  refine ty_iald (v := 4016) rX12_isOf_7 (hp_12_0 h0).2.1 (hp_12_0 h0).2.2 rfl (by decide) g1 ?_
  refine tq_iconst (1 : Int32) rX12_isOf_8 (by decide) ?_
  refine tq_isub rX12_isOf_9 ?_
  obtain ⟨p2, e2, hf⟩ := tq_let_elim hf
  refine ty_callSI (tq_b p2) ([.int a2, .int (0 : Int32), .int ((I (tq_rg a0 0) a1.toNatClampNeg) - (1 : Int32))]) ([]) rX12_isOf_10 l_X12_118 moX12_isIn msX12_isIn rfl rfl (Nat.le_of_ble_eq_true rfl) ⟨rfl, rfl⟩ (CX12_isIn  e2) ?_
  refine ty_zret (ty := .boolean) rX12_isOf_13 rfl (tq_fitZ (tq_b01 _)).1 rfl ?_
  have hf := Option.some.inj hf
  subst hf
  exact ⟨rfl, rfl, rfl⟩

abbrev mX12_begins0 : tq_M := (yX12_begins0, cX12_begins0, 3, (Option.none : Option Jvm.ClassFile.FieldType), 0, 0)
theorem rX12_begins0_0 : tq_D cX12_begins0 0 (.iconst 0) 1 1 := ⟨by decide +kernel, rfl⟩
theorem rX12_begins0_1 : tq_D cX12_begins0 1 (.istore_n 2) 1 2 := ⟨by decide +kernel, rfl⟩
theorem rX12_begins0_2 : tq_D cX12_begins0 2 (.iload_n 2) 1 3 := ⟨by decide +kernel, rfl⟩
theorem rX12_begins0_3 : tq_D cX12_begins0 3 (.bipush 121) 2 5 := ⟨by decide +kernel, rfl⟩
theorem rX12_begins0_5 : tq_J cX12_begins0 5 (.if_icmp .ge) 34 8 := ⟨29, by decide +kernel, by decide, rfl⟩
theorem rX12_begins0_8 : tq_D cX12_begins0 8 (.aload_n 0) 1 9 := ⟨by decide +kernel, rfl⟩
theorem rX12_begins0_9 : tq_D cX12_begins0 9 (.getfield 17) 3 12 := ⟨by decide +kernel, rfl⟩
theorem rX12_begins0_12 : tq_D cX12_begins0 12 (.iload_n 2) 1 13 := ⟨by decide +kernel, rfl⟩
theorem rX12_begins0_13 : tq_D cX12_begins0 13 (.iload_n 1) 1 14 := ⟨by decide +kernel, rfl⟩
theorem rX12_begins0_14 : tq_J cX12_begins0 14 (.ifCond .ne) 26 17 := ⟨12, by decide +kernel, by decide, rfl⟩
theorem rX12_begins0_17 : tq_D cX12_begins0 17 (.iload_n 2) 1 18 := ⟨by decide +kernel, rfl⟩
theorem rX12_begins0_18 : tq_D cX12_begins0 18 (.iconst 1) 1 19 := ⟨by decide +kernel, rfl⟩
theorem rX12_begins0_19 : tq_J cX12_begins0 19 (.if_icmp .le) 26 22 := ⟨7, by decide +kernel, by decide, rfl⟩
theorem rX12_begins0_22 : tq_D cX12_begins0 22 (.iconst 1) 1 23 := ⟨by decide +kernel, rfl⟩
theorem rX12_begins0_23 : tq_J cX12_begins0 23 .goto 27 26 := ⟨4, by decide +kernel, by decide, rfl⟩
theorem rX12_begins0_26 : tq_D cX12_begins0 26 (.iconst 0) 1 27 := ⟨by decide +kernel, rfl⟩
theorem rX12_begins0_27 : tq_D cX12_begins0 27 (.iastore) 1 28 := ⟨by decide +kernel, rfl⟩
theorem rX12_begins0_28 : tq_D cX12_begins0 28 (.iinc 2 1) 3 31 := ⟨by decide +kernel, rfl⟩
theorem rX12_begins0_31 : tq_J cX12_begins0 31 .goto 2 34 := ⟨(-29), by decide +kernel, by decide, rfl⟩
theorem rX12_begins0_34 : tq_D cX12_begins0 34 (.iload_n 1) 1 35 := ⟨by decide +kernel, rfl⟩
theorem rX12_begins0_35 : tq_J cX12_begins0 35 (.ifCond .eq) 39 38 := ⟨4, by decide +kernel, by decide, rfl⟩
theorem rX12_begins0_38 : decode cX12_begins0 38 = .ok (.return_, 1) := by decide +kernel
theorem rX12_begins0_39 : tq_D cX12_begins0 39 (.aload_n 0) 1 40 := ⟨by decide +kernel, rfl⟩
theorem rX12_begins0_40 : tq_D cX12_begins0 40 (.getfield 17) 3 43 := ⟨by decide +kernel, rfl⟩
theorem rX12_begins0_43 : tq_D cX12_begins0 43 (.iconst 0) 1 44 := ⟨by decide +kernel, rfl⟩
theorem rX12_begins0_44 : tq_D cX12_begins0 44 (.bipush 6) 2 46 := ⟨by decide +kernel, rfl⟩
theorem rX12_begins0_46 : tq_D cX12_begins0 46 (.iastore) 1 47 := ⟨by decide +kernel, rfl⟩
theorem rX12_begins0_47 : tq_D cX12_begins0 47 (.aload_n 0) 1 48 := ⟨by decide +kernel, rfl⟩
theorem rX12_begins0_48 : tq_D cX12_begins0 48 (.getfield 17) 3 51 := ⟨by decide +kernel, rfl⟩
theorem rX12_begins0_51 : tq_D cX12_begins0 51 (.iconst 1) 1 52 := ⟨by decide +kernel, rfl⟩
theorem rX12_begins0_52 : tq_D cX12_begins0 52 (.iconst 4) 1 53 := ⟨by decide +kernel, rfl⟩
theorem rX12_begins0_53 : tq_D cX12_begins0 53 (.iastore) 1 54 := ⟨by decide +kernel, rfl⟩
theorem rX12_begins0_54 : decode cX12_begins0 54 = .ok (.return_, 1) := by decide +kernel
noncomputable def FX12_begins0_j27L2 (I : tq_PI) (L : tq_PL) (a0 : Nat) (a1 : Int32) (a2 : Int32) (b0 : Int32) (b1 : Int32) (b2 : Nat) : Option ((Int32 × tq_PI) ⊕ (tq_PI)) :=
  (if 0 ≤ b1 ∧ b1 < 121 then some (.inl ((a2 + 1), (tq_up2 I b2 b1.toNatClampNeg b0))) else none)
noncomputable def FX12_begins0_j26L2 (I : tq_PI) (L : tq_PL) (a0 : Nat) (a1 : Int32) (a2 : Int32) (b0 : Int32) (b1 : Nat) : Option ((Int32 × tq_PI) ⊕ (tq_PI)) :=
  (FX12_begins0_j27L2 I L a0 a1 a2 ((0 : Int32)) b0 b1)
noncomputable def FX12_begins0_s2 (I : tq_PI) (L : tq_PL) (a0 : Nat) (a1 : Int32) (a2 : Int32) : Option ((Int32 × tq_PI) ⊕ (tq_PI)) :=
  (if (121 : Int32) ≤ a2 then some (.inr I) else (if a1 = 0 then (if a2 ≤ (1 : Int32) then (FX12_begins0_j26L2 I L a0 a1 a2 a2 ((tq_rg a0 11))) else (FX12_begins0_j27L2 I L a0 a1 a2 ((1 : Int32)) a2 ((tq_rg a0 11)))) else (FX12_begins0_j26L2 I L a0 a1 a2 a2 ((tq_rg a0 11)))))
noncomputable def FX12_begins0 (I : tq_PI) (L : tq_PL) (a0 : Nat) (a1 : Int32) : Option (tq_PI) :=
  ((tq_it (fun p : Int32 × tq_PI => FX12_begins0_s2 p.2 L a0 a1 p.1) tq_N ((0 : Int32), I)).bind fun p5 => (if a1 = 0 then (if 0 ≤ (0 : Int32) ∧ (0 : Int32) < 121 then (if 0 ≤ (1 : Int32) ∧ (1 : Int32) < 121 then some (tq_up2 (tq_up2 p5 (tq_rg a0 11) ((0 : Int32)).toNatClampNeg (6 : Int32)) (tq_rg a0 11) ((1 : Int32)).toNatClampNeg (4 : Int32)) else none) else none) else some p5))
set_option maxRecDepth 100000 in
set_option maxHeartbeats 4000000 in
theorem FX12_begins0_j27L2_x {S : Nat × (Nat → Int32)} {d : Nat} {I : tq_PI} {L : tq_PL} {a0 : Nat} {a1 : Int32} {a2 : Int32} {b0 : Int32} {b1 : Int32} {b2 : Nat} (h0 : tq_sh0 a0 = 12) (k2 : tq_sh0 b2 = 100) (k2n : tq_ln0 b2 = 121) {q0 : Option Value → tq_PI → tq_PL → Prop} {out : (Int32 × tq_PI) ⊕ (tq_PI)} (hf : FX12_begins0_j27L2 I L a0 a1 a2 b0 b1 b2 = some out) (hk : Sum.elim (fun p : Int32 × tq_PI => tq_X S mX12_begins0 d tq_k0 2 ([.ref a0, .int a1, .int p.1]) [] (tq_st p.2 L) (tq_Q q0)) (fun p : tq_PI => tq_X S mX12_begins0 d tq_k0 34 ([.ref a0, .int a1, tq_u]) [] (tq_st p L) (tq_Q q0)) out) : tq_X S mX12_begins0 d tq_k0 27 ([.ref a0, .int a1, .int a2]) ([.int b0, .int b1, .ref b2]) (tq_st I L) (tq_Q q0) := by
  unfold FX12_begins0_j27L2 at hf
  obtain ⟨g3, hf⟩ := tq_chk hf
  refine ty_iast (v := 121) rX12_begins0_27 k2 k2n rfl (by decide) g3 ?_
  refine tq_iinc (a2 + 1) ([.ref a0, .int a1, .int (a2 + 1)]) rX12_begins0_28 rfl (tq_inc (by decide)) (Nat.le_of_ble_eq_true rfl) rfl ?_
  refine tq_goto rX12_begins0_31 ?_
  have hf := Option.some.inj hf
  subst hf
  exact tq_forget _ (tq_le_s (tq_le_s (tq_le_s tq_le_n))) hk

set_option maxRecDepth 100000 in
set_option maxHeartbeats 4000000 in
theorem FX12_begins0_j26L2_x {S : Nat × (Nat → Int32)} {d : Nat} {I : tq_PI} {L : tq_PL} {a0 : Nat} {a1 : Int32} {a2 : Int32} {b0 : Int32} {b1 : Nat} (h0 : tq_sh0 a0 = 12) (k1 : tq_sh0 b1 = 100) (k1n : tq_ln0 b1 = 121) {q0 : Option Value → tq_PI → tq_PL → Prop} {out : (Int32 × tq_PI) ⊕ (tq_PI)} (hf : FX12_begins0_j26L2 I L a0 a1 a2 b0 b1 = some out) (hk : Sum.elim (fun p : Int32 × tq_PI => tq_X S mX12_begins0 d tq_k0 2 ([.ref a0, .int a1, .int p.1]) [] (tq_st p.2 L) (tq_Q q0)) (fun p : tq_PI => tq_X S mX12_begins0 d tq_k0 34 ([.ref a0, .int a1, tq_u]) [] (tq_st p L) (tq_Q q0)) out) : tq_X S mX12_begins0 d tq_k0 26 ([.ref a0, .int a1, .int a2]) ([.int b0, .ref b1]) (tq_st I L) (tq_Q q0) := by
  unfold FX12_begins0_j26L2 at hf
  refine tq_iconst (0 : Int32) rX12_begins0_26 (by decide) ?_
  exact tq_forget _ (tq_le_s (tq_le_s (tq_le_s tq_le_n))) (FX12_begins0_j27L2_x  h0 k1 k1n hf hk)

set_option maxRecDepth 100000 in
set_option maxHeartbeats 4000000 in
theorem FX12_begins0_s2_x {S : Nat × (Nat → Int32)} {d : Nat} {I : tq_PI} {L : tq_PL} {a0 : Nat} {a1 : Int32} {a2 : Int32} (h0 : tq_sh0 a0 = 12) {q0 : Option Value → tq_PI → tq_PL → Prop} {out : (Int32 × tq_PI) ⊕ (tq_PI)} (hf : FX12_begins0_s2 I L a0 a1 a2 = some out) (hk : Sum.elim (fun p : Int32 × tq_PI => tq_X S mX12_begins0 d tq_k0 2 ([.ref a0, .int a1, .int p.1]) [] (tq_st p.2 L) (tq_Q q0)) (fun p : tq_PI => tq_X S mX12_begins0 d tq_k0 34 ([.ref a0, .int a1, tq_u]) [] (tq_st p L) (tq_Q q0)) out) : tq_X S mX12_begins0 d tq_k0 2 ([.ref a0, .int a1, .int a2]) [] (tq_st I L) (tq_Q q0) := by
  unfold FX12_begins0_s2 at hf
  refine tq_iload_n rX12_begins0_2 rfl ?_
  refine tq_bipush (121 : Int32) rX12_begins0_3 (by decide) ?_
  refine tq_icmp_ge rX12_begins0_5 (fun c1 => ?_) (fun c1 => ?_)
  · rw [if_pos c1] at hf
    have hf := Option.some.inj hf
    subst hf
    exact tq_forget _ (tq_le_s (tq_le_s (tq_le_u tq_le_n))) hk
  · rw [if_neg c1] at hf
    refine tq_aload_n rX12_begins0_8 rfl ?_
    refine ty_getR rX12_begins0_9 f_X12_17 rfl h0 (hp_12_11 h0).1 ?_
    refine tq_iload_n rX12_begins0_12 rfl ?_
    refine tq_iload_n rX12_begins0_13 rfl ?_
    refine tq_if_ne rX12_begins0_14 (fun c2 => ?_) (fun c2 => ?_)
    · rw [if_neg c2] at hf
      exact tq_forget _ (tq_le_s (tq_le_s (tq_le_s tq_le_n))) (FX12_begins0_j26L2_x  h0 (hp_12_11 h0).2.1 (hp_12_11 h0).2.2 hf hk)
    · rw [if_pos c2] at hf
      refine tq_iload_n rX12_begins0_17 rfl ?_
      refine tq_iconst (1 : Int32) rX12_begins0_18 (by decide) ?_
      refine tq_icmp_le rX12_begins0_19 (fun c4 => ?_) (fun c4 => ?_)
      · rw [if_pos c4] at hf
        exact tq_forget _ (tq_le_s (tq_le_s (tq_le_s tq_le_n))) (FX12_begins0_j26L2_x  h0 (hp_12_11 h0).2.1 (hp_12_11 h0).2.2 hf hk)
      · rw [if_neg c4] at hf
        refine tq_iconst (1 : Int32) rX12_begins0_22 (by decide) ?_
        refine tq_goto rX12_begins0_23 ?_
        exact tq_forget _ (tq_le_s (tq_le_s (tq_le_s tq_le_n))) (FX12_begins0_j27L2_x  h0 (hp_12_11 h0).2.1 (hp_12_11 h0).2.2 hf hk)

set_option maxRecDepth 100000 in
set_option maxHeartbeats 4000000 in
theorem CX12_begins0 {S : Nat × (Nat → Int32)} {d : Nat} {I : tq_PI} {L : tq_PL} {a0 : Nat} {a1 : Int32} (h0 : tq_sh0 a0 = 12) {out : tq_PI} (hf : FX12_begins0 I L a0 a1 = some out) : tq_K S mX12_begins0 d [.ref a0, .int a1] I L (tq_one2 (none) out L) := by
  unfold FX12_begins0 at hf
  refine tq_K_of (by decide) (Nat.le_of_ble_eq_true rfl) (ls := [.ref a0, .int a1, tq_u]) rfl ?_
  refine tq_iconst (0 : Int32) rX12_begins0_0 (by decide) ?_
  refine tq_istore_n ([.ref a0, .int a1, .int (0 : Int32)]) rX12_begins0_1 (Nat.le_of_ble_eq_true rfl) rfl ?_
  obtain ⟨p5, e5, hf⟩ := Option.bind_eq_some_iff.mp hf
  refine tq_forget _ (tq_le_s (tq_le_s (tq_le_s tq_le_n))) ?_
  refine tq_it_elim (P := fun p : Int32 × tq_PI => tq_X S mX12_begins0 d tq_k0 2 ([.ref a0, .int a1, .int p.1]) [] (tq_st p.2 L) (tq_Q (tq_one2 (none) out L))) (R := fun p : tq_PI => tq_X S mX12_begins0 d tq_k0 34 ([.ref a0, .int a1, tq_u]) [] (tq_st p L) (tq_Q (tq_one2 (none) out L))) (fun p o hp hk => FX12_begins0_s2_x  h0 hp hk) _ (((0 : Int32), I)) _ e5 ?_
  show tq_X _ _ _ _ _ _ _ _ _
  refine tq_iload_n rX12_begins0_34 rfl ?_
  refine tq_if_eq rX12_begins0_35 (fun c6 => ?_) (fun c6 => ?_)
  · rw [if_pos c6] at hf
    refine tq_aload_n rX12_begins0_39 rfl ?_
    refine ty_getR rX12_begins0_40 f_X12_17 rfl h0 (hp_12_11 h0).1 ?_
    refine tq_iconst (0 : Int32) rX12_begins0_43 (by decide) ?_
    refine tq_bipush (6 : Int32) rX12_begins0_44 (by decide) ?_
    obtain ⟨g7, hf⟩ := tq_chk hf
    refine ty_iast (v := 121) rX12_begins0_46 (hp_12_11 h0).2.1 (hp_12_11 h0).2.2 rfl (by decide) g7 ?_
    refine tq_aload_n rX12_begins0_47 rfl ?_
    refine ty_getR rX12_begins0_48 f_X12_17 rfl h0 (hp_12_11 h0).1 ?_
    refine tq_iconst (1 : Int32) rX12_begins0_51 (by decide) ?_
    refine tq_iconst (4 : Int32) rX12_begins0_52 (by decide) ?_
    obtain ⟨g8, hf⟩ := tq_chk hf
    refine ty_iast (v := 121) rX12_begins0_53 (hp_12_11 h0).2.1 (hp_12_11 h0).2.2 rfl (by decide) g8 ?_
    refine ty_vret rX12_begins0_54 rfl rfl ?_
    have hf := Option.some.inj hf
    subst hf
    exact ⟨rfl, rfl, rfl⟩
  · rw [if_neg c6] at hf
    refine ty_vret rX12_begins0_38 rfl rfl ?_
    have hf := Option.some.inj hf
    subst hf
    exact ⟨rfl, rfl, rfl⟩

abbrev mX12_text : tq_M := (yX12_text, cX12_text, 5, (Option.some Jvm.ClassFile.FieldType.int), 0, 0)
theorem moX12_begins0 : tq_mok mX12_begins0 1 := ⟨tq_sg1 _ (List.mem_of_getElem? (i := 13) rfl), tq_sg6 _ (List.mem_of_getElem? (i := 213) rfl), ⟨by decide, by decide, by decide +kernel⟩, by decide⟩
theorem mvX12_begins0 : 12 < 13 ∧ (tq_cl 12).1 = mX12_begins0.1.cls ∧ Cond.instanceMethod mX12_begins0.1 ∈ lw_tbl ∧ Cond.selects mX12_begins0.1.cls mX12_begins0.1 mX12_begins0.1 ∈ lw_tbl := ⟨by decide, rfl, tq_sg6 _ (List.mem_of_getElem? (i := 212) rfl), List.mem_append_left _ (List.mem_map.mpr ⟨_, List.mem_of_getElem? (i := 42) rfl, rfl⟩)⟩
theorem moX12_hillFault : tq_mok mX12_hillFault 0 := ⟨tq_sg1 _ (List.mem_of_getElem? (i := 13) rfl), tq_sg7 _ (List.mem_of_getElem? (i := 39) rfl), ⟨by decide, by decide, by decide +kernel⟩, by decide⟩
theorem mvX12_hillFault : 12 < 13 ∧ (tq_cl 12).1 = mX12_hillFault.1.cls ∧ Cond.instanceMethod mX12_hillFault.1 ∈ lw_tbl ∧ Cond.selects mX12_hillFault.1.cls mX12_hillFault.1 mX12_hillFault.1 ∈ lw_tbl := ⟨by decide, rfl, tq_sg7 _ (List.mem_of_getElem? (i := 38) rfl), List.mem_append_left _ (List.mem_map.mpr ⟨_, List.mem_of_getElem? (i := 54) rfl, rfl⟩)⟩
theorem moX12_hillLine : tq_mok mX12_hillLine 0 := ⟨tq_sg1 _ (List.mem_of_getElem? (i := 13) rfl), tq_sg7 _ (List.mem_of_getElem? (i := 3) rfl), ⟨by decide, by decide, by decide +kernel⟩, by decide⟩
theorem mvX12_hillLine : 12 < 13 ∧ (tq_cl 12).1 = mX12_hillLine.1.cls ∧ Cond.instanceMethod mX12_hillLine.1 ∈ lw_tbl ∧ Cond.selects mX12_hillLine.1.cls mX12_hillLine.1 mX12_hillLine.1 ∈ lw_tbl := ⟨by decide, rfl, tq_sg7 _ (List.mem_of_getElem? (i := 2) rfl), List.mem_append_left _ (List.mem_map.mpr ⟨_, List.mem_of_getElem? (i := 45) rfl, rfl⟩)⟩
theorem moX12_isOf : tq_mok mX12_isOf 2 := ⟨tq_sg1 _ (List.mem_of_getElem? (i := 13) rfl), tq_sg6 _ (List.mem_of_getElem? (i := 209) rfl), ⟨by decide, by decide, by decide +kernel⟩, by decide⟩
theorem mvX12_isOf : 12 < 13 ∧ (tq_cl 12).1 = mX12_isOf.1.cls ∧ Cond.instanceMethod mX12_isOf.1 ∈ lw_tbl ∧ Cond.selects mX12_isOf.1.cls mX12_isOf.1 mX12_isOf.1 ∈ lw_tbl := ⟨by decide, rfl, tq_sg6 _ (List.mem_of_getElem? (i := 208) rfl), List.mem_append_left _ (List.mem_map.mpr ⟨_, List.mem_of_getElem? (i := 41) rfl, rfl⟩)⟩
theorem moX12_logLine : tq_mok mX12_logLine 0 := ⟨tq_sg1 _ (List.mem_of_getElem? (i := 13) rfl), tq_sg7 _ (List.mem_of_getElem? (i := 31) rfl), ⟨by decide, by decide, by decide +kernel⟩, by decide⟩
theorem mvX12_logLine : 12 < 13 ∧ (tq_cl 12).1 = mX12_logLine.1.cls ∧ Cond.instanceMethod mX12_logLine.1 ∈ lw_tbl ∧ Cond.selects mX12_logLine.1.cls mX12_logLine.1 mX12_logLine.1 ∈ lw_tbl := ⟨by decide, rfl, tq_sg7 _ (List.mem_of_getElem? (i := 30) rfl), List.mem_append_left _ (List.mem_map.mpr ⟨_, List.mem_of_getElem? (i := 52) rfl, rfl⟩)⟩
theorem moX12_placeOf : tq_mok mX12_placeOf 2 := ⟨tq_sg1 _ (List.mem_of_getElem? (i := 13) rfl), tq_sg7 _ (List.mem_of_getElem? (i := 65) rfl), ⟨by decide, by decide, by decide +kernel⟩, by decide⟩
theorem msX12_placeOf : Cond.static mX12_placeOf.1 ∈ lw_tbl := tq_sg7 _ (List.mem_of_getElem? (i := 64) rfl)
theorem moX12_sizeOf : tq_mok mX12_sizeOf 1 := ⟨tq_sg1 _ (List.mem_of_getElem? (i := 13) rfl), tq_sg7 _ (List.mem_of_getElem? (i := 62) rfl), ⟨by decide, by decide, by decide +kernel⟩, by decide⟩
theorem msX12_sizeOf : Cond.static mX12_sizeOf.1 ∈ lw_tbl := tq_sg7 _ (List.mem_of_getElem? (i := 61) rfl)
theorem moX12_talkLine : tq_mok mX12_talkLine 0 := ⟨tq_sg1 _ (List.mem_of_getElem? (i := 13) rfl), tq_sg7 _ (List.mem_of_getElem? (i := 35) rfl), ⟨by decide, by decide, by decide +kernel⟩, by decide⟩
theorem mvX12_talkLine : 12 < 13 ∧ (tq_cl 12).1 = mX12_talkLine.1.cls ∧ Cond.instanceMethod mX12_talkLine.1 ∈ lw_tbl ∧ Cond.selects mX12_talkLine.1.cls mX12_talkLine.1 mX12_talkLine.1 ∈ lw_tbl := ⟨by decide, rfl, tq_sg7 _ (List.mem_of_getElem? (i := 34) rfl), List.mem_append_left _ (List.mem_map.mpr ⟨_, List.mem_of_getElem? (i := 53) rfl, rfl⟩)⟩
theorem moX12_yearLine : tq_mok mX12_yearLine 0 := ⟨tq_sg1 _ (List.mem_of_getElem? (i := 13) rfl), tq_sg7 _ (List.mem_of_getElem? (i := 27) rfl), ⟨by decide, by decide, by decide +kernel⟩, by decide⟩
theorem mvX12_yearLine : 12 < 13 ∧ (tq_cl 12).1 = mX12_yearLine.1.cls ∧ Cond.instanceMethod mX12_yearLine.1 ∈ lw_tbl ∧ Cond.selects mX12_yearLine.1.cls mX12_yearLine.1 mX12_yearLine.1 ∈ lw_tbl := ⟨by decide, rfl, tq_sg7 _ (List.mem_of_getElem? (i := 26) rfl), List.mem_append_left _ (List.mem_map.mpr ⟨_, List.mem_of_getElem? (i := 51) rfl, rfl⟩)⟩
theorem l_X12_157 : tq_lok RX12 157 mX12_isOf.1 := Or.inl (tq_sg6 _ (List.mem_of_getElem? (i := 206) rfl))
theorem l_X12_161 : tq_lok RX12 161 mX12_begins0.1 := Or.inl (tq_sg6 _ (List.mem_of_getElem? (i := 210) rfl))
theorem l_X12_165 : tq_lok RX12 165 mX12_hillLine.1 := Or.inl (tq_sg7 _ (List.mem_of_getElem? (i := 0) rfl))
theorem l_X12_168 : tq_lok RX12 168 mX12_yearLine.1 := Or.inl (tq_sg7 _ (List.mem_of_getElem? (i := 24) rfl))
theorem l_X12_171 : tq_lok RX12 171 mX12_logLine.1 := Or.inl (tq_sg7 _ (List.mem_of_getElem? (i := 28) rfl))
theorem l_X12_174 : tq_lok RX12 174 mX12_talkLine.1 := Or.inl (tq_sg7 _ (List.mem_of_getElem? (i := 32) rfl))
theorem l_X12_177 : tq_lok RX12 177 mX12_hillFault.1 := Or.inl (tq_sg7 _ (List.mem_of_getElem? (i := 36) rfl))
theorem l_X12_181 : tq_lok RX12 181 mX12_sizeOf.1 := Or.inl (tq_sg7 _ (List.mem_of_getElem? (i := 60) rfl))
theorem l_X12_184 : tq_lok RX12 184 mX12_placeOf.1 := Or.inl (tq_sg7 _ (List.mem_of_getElem? (i := 63) rfl))
theorem rX12_text_0 : tq_D cX12_text 0 (.aload_n 0) 1 1 := ⟨by decide +kernel, rfl⟩
theorem rX12_text_1 : tq_D cX12_text 1 (.aload_n 0) 1 2 := ⟨by decide +kernel, rfl⟩
theorem rX12_text_2 : tq_D cX12_text 2 (.getfield 7) 3 5 := ⟨by decide +kernel, rfl⟩
theorem rX12_text_5 : tq_D cX12_text 5 (.iconst 4) 1 6 := ⟨by decide +kernel, rfl⟩
theorem rX12_text_6 : tq_D cX12_text 6 (.iaload) 1 7 := ⟨by decide +kernel, rfl⟩
theorem rX12_text_7 : tq_D cX12_text 7 (.putfield 63) 3 10 := ⟨by decide +kernel, rfl⟩
theorem rX12_text_10 : tq_D cX12_text 10 (.aload_n 0) 1 11 := ⟨by decide +kernel, rfl⟩
theorem rX12_text_11 : tq_D cX12_text 11 (.getfield 7) 3 14 := ⟨by decide +kernel, rfl⟩
theorem rX12_text_14 : tq_D cX12_text 14 (.iconst 4) 1 15 := ⟨by decide +kernel, rfl⟩
theorem rX12_text_15 : tq_D cX12_text 15 (.iconst 0) 1 16 := ⟨by decide +kernel, rfl⟩
theorem rX12_text_16 : tq_D cX12_text 16 (.iastore) 1 17 := ⟨by decide +kernel, rfl⟩
theorem rX12_text_17 : tq_D cX12_text 17 (.aload_n 0) 1 18 := ⟨by decide +kernel, rfl⟩
theorem rX12_text_18 : tq_D cX12_text 18 (.getfield 7) 3 21 := ⟨by decide +kernel, rfl⟩
theorem rX12_text_21 : tq_D cX12_text 21 (.iconst 5) 1 22 := ⟨by decide +kernel, rfl⟩
theorem rX12_text_22 : tq_D cX12_text 22 (.iconst 0) 1 23 := ⟨by decide +kernel, rfl⟩
theorem rX12_text_23 : tq_D cX12_text 23 (.iastore) 1 24 := ⟨by decide +kernel, rfl⟩
theorem rX12_text_24 : tq_D cX12_text 24 (.aload_n 0) 1 25 := ⟨by decide +kernel, rfl⟩
theorem rX12_text_25 : tq_D cX12_text 25 (.getfield 7) 3 28 := ⟨by decide +kernel, rfl⟩
theorem rX12_text_28 : tq_D cX12_text 28 (.bipush 6) 2 30 := ⟨by decide +kernel, rfl⟩
theorem rX12_text_30 : tq_D cX12_text 30 (.iconst (-1)) 1 31 := ⟨by decide +kernel, rfl⟩
theorem rX12_text_31 : tq_D cX12_text 31 (.iastore) 1 32 := ⟨by decide +kernel, rfl⟩
theorem rX12_text_32 : tq_D cX12_text 32 (.iload_n 1) 1 33 := ⟨by decide +kernel, rfl⟩
theorem rX12_text_33 : tq_D cX12_text 33 (.iconst 0) 1 34 := ⟨by decide +kernel, rfl⟩
theorem rX12_text_34 : tq_D cX12_text 34 (.iconst 3) 1 35 := ⟨by decide +kernel, rfl⟩
theorem rX12_text_35 : tq_D cX12_text 35 (.invokestatic 118) 3 38 := ⟨by decide +kernel, rfl⟩
theorem rX12_text_38 : tq_J cX12_text 38 (.ifCond .eq) 68 41 := ⟨30, by decide +kernel, by decide, rfl⟩
theorem rX12_text_41 : tq_D cX12_text 41 (.iload_n 2) 1 42 := ⟨by decide +kernel, rfl⟩
theorem rX12_text_42 : tq_D cX12_text 42 (.iconst (-1)) 1 43 := ⟨by decide +kernel, rfl⟩
theorem rX12_text_43 : tq_J cX12_text 43 (.if_icmp .ne) 59 46 := ⟨16, by decide +kernel, by decide, rfl⟩
theorem rX12_text_46 : tq_D cX12_text 46 (.aload_n 0) 1 47 := ⟨by decide +kernel, rfl⟩
theorem rX12_text_47 : tq_D cX12_text 47 (.getfield 7) 3 50 := ⟨by decide +kernel, rfl⟩
theorem rX12_text_50 : tq_D cX12_text 50 (.iload_n 1) 1 51 := ⟨by decide +kernel, rfl⟩
theorem rX12_text_51 : tq_D cX12_text 51 (.iaload) 1 52 := ⟨by decide +kernel, rfl⟩
theorem rX12_text_52 : tq_D cX12_text 52 (.iconst 2) 1 53 := ⟨by decide +kernel, rfl⟩
theorem rX12_text_53 : tq_J cX12_text 53 (.if_icmp .lt) 71 56 := ⟨18, by decide +kernel, by decide, rfl⟩
theorem rX12_text_56 : tq_J cX12_text 56 .goto 68 59 := ⟨12, by decide +kernel, by decide, rfl⟩
theorem rX12_text_59 : tq_D cX12_text 59 (.aload_n 0) 1 60 := ⟨by decide +kernel, rfl⟩
theorem rX12_text_60 : tq_D cX12_text 60 (.iload_n 1) 1 61 := ⟨by decide +kernel, rfl⟩
theorem rX12_text_61 : tq_D cX12_text 61 (.iload_n 2) 1 62 := ⟨by decide +kernel, rfl⟩
theorem rX12_text_62 : tq_D cX12_text 62 (.invokevirtual 157) 3 65 := ⟨by decide +kernel, rfl⟩
theorem rX12_text_65 : tq_J cX12_text 65 (.ifCond .ne) 71 68 := ⟨6, by decide +kernel, by decide, rfl⟩
theorem rX12_text_68 : tq_D cX12_text 68 (.bipush (-2)) 2 70 := ⟨by decide +kernel, rfl⟩
theorem rX12_text_70 : decode cX12_text 70 = .ok (.ireturn, 1) := by decide +kernel
theorem rX12_text_71 : tq_D cX12_text 71 (.aload_n 0) 1 72 := ⟨by decide +kernel, rfl⟩
theorem rX12_text_72 : tq_D cX12_text 72 (.iconst 0) 1 73 := ⟨by decide +kernel, rfl⟩
theorem rX12_text_73 : tq_D cX12_text 73 (.putfield 77) 3 76 := ⟨by decide +kernel, rfl⟩
theorem rX12_text_76 : tq_D cX12_text 76 (.aload_n 0) 1 77 := ⟨by decide +kernel, rfl⟩
theorem rX12_text_77 : tq_D cX12_text 77 (.iconst 0) 1 78 := ⟨by decide +kernel, rfl⟩
theorem rX12_text_78 : tq_D cX12_text 78 (.putfield 111) 3 81 := ⟨by decide +kernel, rfl⟩
theorem rX12_text_81 : tq_D cX12_text 81 (.aload_n 0) 1 82 := ⟨by decide +kernel, rfl⟩
theorem rX12_text_82 : tq_D cX12_text 82 (.iconst (-1)) 1 83 := ⟨by decide +kernel, rfl⟩
theorem rX12_text_83 : tq_D cX12_text 83 (.putfield 136) 3 86 := ⟨by decide +kernel, rfl⟩
theorem rX12_text_86 : tq_D cX12_text 86 (.aload_n 0) 1 87 := ⟨by decide +kernel, rfl⟩
theorem rX12_text_87 : tq_D cX12_text 87 (.iconst (-1)) 1 88 := ⟨by decide +kernel, rfl⟩
theorem rX12_text_88 : tq_D cX12_text 88 (.putfield 139) 3 91 := ⟨by decide +kernel, rfl⟩
theorem rX12_text_91 : tq_D cX12_text 91 (.aload_n 0) 1 92 := ⟨by decide +kernel, rfl⟩
theorem rX12_text_92 : tq_D cX12_text 92 (.iload_n 1) 1 93 := ⟨by decide +kernel, rfl⟩
theorem rX12_text_93 : tq_D cX12_text 93 (.invokevirtual 161) 3 96 := ⟨by decide +kernel, rfl⟩
theorem rX12_text_96 : tq_D cX12_text 96 (.aload_n 0) 1 97 := ⟨by decide +kernel, rfl⟩
theorem rX12_text_97 : tq_D cX12_text 97 (.invokevirtual 126) 3 100 := ⟨by decide +kernel, rfl⟩
theorem rX12_text_100 : tq_D cX12_text 100 (.aload_n 0) 1 101 := ⟨by decide +kernel, rfl⟩
theorem rX12_text_101 : tq_D cX12_text 101 (.getfield 111) 3 104 := ⟨by decide +kernel, rfl⟩
theorem rX12_text_104 : tq_J cX12_text 104 (.ifCond .ne) 168 107 := ⟨64, by decide +kernel, by decide, rfl⟩
theorem rX12_text_107 : tq_D cX12_text 107 (.aload_n 0) 1 108 := ⟨by decide +kernel, rfl⟩
theorem rX12_text_108 : tq_D cX12_text 108 (.getfield 87) 3 111 := ⟨by decide +kernel, rfl⟩
theorem rX12_text_111 : tq_J cX12_text 111 (.ifCond .eq) 168 114 := ⟨57, by decide +kernel, by decide, rfl⟩
theorem rX12_text_114 : tq_D cX12_text 114 (.iload_n 1) 1 115 := ⟨by decide +kernel, rfl⟩
theorem rX12_text_115 : decode cX12_text 115 = .ok (.tableswitch 46 0 2 #[25, 32, 39], 25) := by decide +kernel
theorem rX12_text_140 : tq_D cX12_text 140 (.aload_n 0) 1 141 := ⟨by decide +kernel, rfl⟩
theorem rX12_text_141 : tq_D cX12_text 141 (.invokevirtual 165) 3 144 := ⟨by decide +kernel, rfl⟩
theorem rX12_text_144 : tq_J cX12_text 144 .goto 100 147 := ⟨(-44), by decide +kernel, by decide, rfl⟩
theorem rX12_text_147 : tq_D cX12_text 147 (.aload_n 0) 1 148 := ⟨by decide +kernel, rfl⟩
theorem rX12_text_148 : tq_D cX12_text 148 (.invokevirtual 168) 3 151 := ⟨by decide +kernel, rfl⟩
theorem rX12_text_151 : tq_J cX12_text 151 .goto 100 154 := ⟨(-51), by decide +kernel, by decide, rfl⟩
theorem rX12_text_154 : tq_D cX12_text 154 (.aload_n 0) 1 155 := ⟨by decide +kernel, rfl⟩
theorem rX12_text_155 : tq_D cX12_text 155 (.invokevirtual 171) 3 158 := ⟨by decide +kernel, rfl⟩
theorem rX12_text_158 : tq_J cX12_text 158 .goto 100 161 := ⟨(-58), by decide +kernel, by decide, rfl⟩
theorem rX12_text_161 : tq_D cX12_text 161 (.aload_n 0) 1 162 := ⟨by decide +kernel, rfl⟩
theorem rX12_text_162 : tq_D cX12_text 162 (.invokevirtual 174) 3 165 := ⟨by decide +kernel, rfl⟩
theorem rX12_text_165 : tq_J cX12_text 165 .goto 100 168 := ⟨(-65), by decide +kernel, by decide, rfl⟩
theorem rX12_text_168 : tq_D cX12_text 168 (.aload_n 0) 1 169 := ⟨by decide +kernel, rfl⟩
theorem rX12_text_169 : tq_D cX12_text 169 (.getfield 7) 3 172 := ⟨by decide +kernel, rfl⟩
theorem rX12_text_172 : tq_D cX12_text 172 (.iconst 5) 1 173 := ⟨by decide +kernel, rfl⟩
theorem rX12_text_173 : tq_D cX12_text 173 (.iaload) 1 174 := ⟨by decide +kernel, rfl⟩
theorem rX12_text_174 : tq_J cX12_text 174 (.ifCond .ne) 199 177 := ⟨25, by decide +kernel, by decide, rfl⟩
theorem rX12_text_177 : tq_D cX12_text 177 (.iload_n 1) 1 178 := ⟨by decide +kernel, rfl⟩
theorem rX12_text_178 : tq_J cX12_text 178 (.ifCond .ne) 199 181 := ⟨21, by decide +kernel, by decide, rfl⟩
theorem rX12_text_181 : tq_D cX12_text 181 (.aload_n 0) 1 182 := ⟨by decide +kernel, rfl⟩
theorem rX12_text_182 : tq_D cX12_text 182 (.invokevirtual 177) 3 185 := ⟨by decide +kernel, rfl⟩
theorem rX12_text_185 : tq_D cX12_text 185 (.istore_n 3) 1 186 := ⟨by decide +kernel, rfl⟩
theorem rX12_text_186 : tq_D cX12_text 186 (.iload_n 3) 1 187 := ⟨by decide +kernel, rfl⟩
theorem rX12_text_187 : tq_J cX12_text 187 (.ifCond .eq) 199 190 := ⟨12, by decide +kernel, by decide, rfl⟩
theorem rX12_text_190 : tq_D cX12_text 190 (.aload_n 0) 1 191 := ⟨by decide +kernel, rfl⟩
theorem rX12_text_191 : tq_D cX12_text 191 (.iload_n 3) 1 192 := ⟨by decide +kernel, rfl⟩
theorem rX12_text_192 : tq_D cX12_text 192 (.aload_n 0) 1 193 := ⟨by decide +kernel, rfl⟩
theorem rX12_text_193 : tq_D cX12_text 193 (.getfield 84) 3 196 := ⟨by decide +kernel, rfl⟩
theorem rX12_text_196 : tq_D cX12_text 196 (.invokevirtual 122) 3 199 := ⟨by decide +kernel, rfl⟩
theorem rX12_text_199 : tq_D cX12_text 199 (.aload_n 0) 1 200 := ⟨by decide +kernel, rfl⟩
theorem rX12_text_200 : tq_D cX12_text 200 (.getfield 7) 3 203 := ⟨by decide +kernel, rfl⟩
theorem rX12_text_203 : tq_D cX12_text 203 (.iconst 5) 1 204 := ⟨by decide +kernel, rfl⟩
theorem rX12_text_204 : tq_D cX12_text 204 (.iaload) 1 205 := ⟨by decide +kernel, rfl⟩
theorem rX12_text_205 : tq_J cX12_text 205 (.ifCond .eq) 210 208 := ⟨5, by decide +kernel, by decide, rfl⟩
theorem rX12_text_208 : tq_D cX12_text 208 (.iconst (-1)) 1 209 := ⟨by decide +kernel, rfl⟩
theorem rX12_text_209 : decode cX12_text 209 = .ok (.ireturn, 1) := by decide +kernel
theorem rX12_text_210 : tq_D cX12_text 210 (.iload_n 2) 1 211 := ⟨by decide +kernel, rfl⟩
theorem rX12_text_211 : tq_D cX12_text 211 (.iconst (-1)) 1 212 := ⟨by decide +kernel, rfl⟩
theorem rX12_text_212 : tq_J cX12_text 212 (.if_icmp .ne) 224 215 := ⟨12, by decide +kernel, by decide, rfl⟩
theorem rX12_text_215 : tq_D cX12_text 215 (.aload_n 0) 1 216 := ⟨by decide +kernel, rfl⟩
theorem rX12_text_216 : tq_D cX12_text 216 (.getfield 7) 3 219 := ⟨by decide +kernel, rfl⟩
theorem rX12_text_219 : tq_D cX12_text 219 (.iload_n 1) 1 220 := ⟨by decide +kernel, rfl⟩
theorem rX12_text_220 : tq_D cX12_text 220 (.iaload) 1 221 := ⟨by decide +kernel, rfl⟩
theorem rX12_text_221 : tq_J cX12_text 221 .goto 225 224 := ⟨4, by decide +kernel, by decide, rfl⟩
theorem rX12_text_224 : tq_D cX12_text 224 (.iload_n 2) 1 225 := ⟨by decide +kernel, rfl⟩
theorem rX12_text_225 : tq_D cX12_text 225 (.istore_n 3) 1 226 := ⟨by decide +kernel, rfl⟩
theorem rX12_text_226 : tq_D cX12_text 226 (.iload_n 2) 1 227 := ⟨by decide +kernel, rfl⟩
theorem rX12_text_227 : tq_D cX12_text 227 (.iconst (-1)) 1 228 := ⟨by decide +kernel, rfl⟩
theorem rX12_text_228 : tq_J cX12_text 228 (.if_icmp .ne) 241 231 := ⟨13, by decide +kernel, by decide, rfl⟩
theorem rX12_text_231 : tq_D cX12_text 231 (.aload_n 0) 1 232 := ⟨by decide +kernel, rfl⟩
theorem rX12_text_232 : tq_D cX12_text 232 (.getfield 7) 3 235 := ⟨by decide +kernel, rfl⟩
theorem rX12_text_235 : tq_D cX12_text 235 (.iload_n 1) 1 236 := ⟨by decide +kernel, rfl⟩
theorem rX12_text_236 : tq_D cX12_text 236 (.dup2) 1 237 := ⟨by decide +kernel, rfl⟩
theorem rX12_text_237 : tq_D cX12_text 237 (.iaload) 1 238 := ⟨by decide +kernel, rfl⟩
theorem rX12_text_238 : tq_D cX12_text 238 (.iconst 1) 1 239 := ⟨by decide +kernel, rfl⟩
theorem rX12_text_239 : tq_D cX12_text 239 (.iadd) 1 240 := ⟨by decide +kernel, rfl⟩
theorem rX12_text_240 : tq_D cX12_text 240 (.iastore) 1 241 := ⟨by decide +kernel, rfl⟩
theorem rX12_text_241 : tq_D cX12_text 241 (.iconst 0) 1 242 := ⟨by decide +kernel, rfl⟩
theorem rX12_text_242 : tq_D cX12_text 242 (.istore 4) 2 244 := ⟨by decide +kernel, rfl⟩
theorem rX12_text_244 : tq_D cX12_text 244 (.iload 4) 2 246 := ⟨by decide +kernel, rfl⟩
theorem rX12_text_246 : tq_D cX12_text 246 (.iload_n 1) 1 247 := ⟨by decide +kernel, rfl⟩
theorem rX12_text_247 : tq_D cX12_text 247 (.invokestatic 181) 3 250 := ⟨by decide +kernel, rfl⟩
theorem rX12_text_250 : tq_J cX12_text 250 (.if_icmp .ge) 279 253 := ⟨29, by decide +kernel, by decide, rfl⟩
theorem rX12_text_253 : tq_D cX12_text 253 (.aload_n 0) 1 254 := ⟨by decide +kernel, rfl⟩
theorem rX12_text_254 : tq_D cX12_text 254 (.getfield 7) 3 257 := ⟨by decide +kernel, rfl⟩
theorem rX12_text_257 : tq_D cX12_text 257 (.iload_n 1) 1 258 := ⟨by decide +kernel, rfl⟩
theorem rX12_text_258 : tq_D cX12_text 258 (.iload_n 3) 1 259 := ⟨by decide +kernel, rfl⟩
theorem rX12_text_259 : tq_D cX12_text 259 (.invokestatic 184) 3 262 := ⟨by decide +kernel, rfl⟩
theorem rX12_text_262 : tq_D cX12_text 262 (.iload 4) 2 264 := ⟨by decide +kernel, rfl⟩
theorem rX12_text_264 : tq_D cX12_text 264 (.iadd) 1 265 := ⟨by decide +kernel, rfl⟩
theorem rX12_text_265 : tq_D cX12_text 265 (.aload_n 0) 1 266 := ⟨by decide +kernel, rfl⟩
theorem rX12_text_266 : tq_D cX12_text 266 (.getfield 17) 3 269 := ⟨by decide +kernel, rfl⟩
theorem rX12_text_269 : tq_D cX12_text 269 (.iload 4) 2 271 := ⟨by decide +kernel, rfl⟩
theorem rX12_text_271 : tq_D cX12_text 271 (.iaload) 1 272 := ⟨by decide +kernel, rfl⟩
theorem rX12_text_272 : tq_D cX12_text 272 (.iastore) 1 273 := ⟨by decide +kernel, rfl⟩
theorem rX12_text_273 : tq_D cX12_text 273 (.iinc 4 1) 3 276 := ⟨by decide +kernel, rfl⟩
theorem rX12_text_276 : tq_J cX12_text 276 .goto 244 279 := ⟨(-32), by decide +kernel, by decide, rfl⟩
theorem rX12_text_279 : tq_D cX12_text 279 (.iload_n 3) 1 280 := ⟨by decide +kernel, rfl⟩
theorem rX12_text_280 : decode cX12_text 280 = .ok (.ireturn, 1) := by decide +kernel
noncomputable def FX12_text_j68 (I : tq_PI) (L : tq_PL)  : Option (Int32 × tq_PI) :=
  some ((-2 : Int32), I)
noncomputable def FX12_text_s100 (I : tq_PI) (L : tq_PL) (a0 : Nat) (a1 : Int32) (a2 : Int32) : Option ((tq_PI) ⊕ (tq_PI)) :=
  (if (I a0 8) = 0 then (if (I a0 5) = 0 then some (.inr I) else (if a1 = 0 then ((FX12_hillLine I L a0).bind fun p15 => some (.inl p15)) else (if a1 = 1 then ((FX12_yearLine I L a0).bind fun p17 => some (.inl p17)) else (if a1 = 2 then ((FX12_logLine I L a0).bind fun p19 => some (.inl p19)) else ((FX12_talkLine I L a0).bind fun p20 => some (.inl p20)))))) else some (.inr I))
noncomputable def FX12_text_s244 (I : tq_PI) (L : tq_PL) (a0 : Nat) (a1 : Int32) (a3 : Int32) (a4 : Int32) : Option ((Int32 × tq_PI) ⊕ (tq_PI)) :=
  (tq_let (FX12_sizeOf I L a1) fun p28 => (if p28 ≤ a4 then some (.inr I) else (tq_let (FX12_placeOf I L a1 a3) fun p30 => (if 0 ≤ a4 ∧ a4 < 121 then (if 0 ≤ (p30 + a4) ∧ (p30 + a4) < 4016 then some (.inl ((a4 + 1), (tq_up2 I (tq_rg a0 0) ((p30 + a4)).toNatClampNeg (I (tq_rg a0 11) a4.toNatClampNeg)))) else none) else none))))
noncomputable def FX12_text_j241 (I : tq_PI) (L : tq_PL) (a0 : Nat) (a1 : Int32) (a3 : Int32) : Option (Int32 × tq_PI) :=
  ((tq_it (fun p : Int32 × tq_PI => FX12_text_s244 p.2 L a0 a1 a3 p.1) tq_N ((0 : Int32), I)).bind fun p33 => some (a3, p33))
noncomputable def FX12_text_j225 (I : tq_PI) (L : tq_PL) (a0 : Nat) (a1 : Int32) (a2 : Int32) (b0 : Int32) : Option (Int32 × tq_PI) :=
  (if a2 = (-1 : Int32) then (if 0 ≤ a1 ∧ a1 < 4016 then (if 0 ≤ a1 ∧ a1 < 4016 then (FX12_text_j241 ((tq_up2 I (tq_rg a0 0) a1.toNatClampNeg ((I (tq_rg a0 0) a1.toNatClampNeg) + (1 : Int32)))) L a0 a1 b0) else none) else none) else (FX12_text_j241 I L a0 a1 b0))
noncomputable def FX12_text_j199 (I : tq_PI) (L : tq_PL) (a0 : Nat) (a1 : Int32) (a2 : Int32) : Option (Int32 × tq_PI) :=
  (if 0 ≤ (5 : Int32) ∧ (5 : Int32) < 4016 then (if (I (tq_rg a0 0) ((5 : Int32)).toNatClampNeg) = 0 then (if a2 = (-1 : Int32) then (if 0 ≤ a1 ∧ a1 < 4016 then (FX12_text_j225 I L a0 a1 a2 ((I (tq_rg a0 0) a1.toNatClampNeg))) else none) else (FX12_text_j225 I L a0 a1 a2 a2)) else some ((-1 : Int32), I)) else none)
noncomputable def FX12_text_j71 (I : tq_PI) (L : tq_PL) (a0 : Nat) (a1 : Int32) (a2 : Int32) : Option (Int32 × tq_PI) :=
  ((FX12_begins0 ((tq_up2 (tq_up2 (tq_up2 (tq_up2 I a0 3 (0 : Int32)) a0 8 (0 : Int32)) a0 9 (-1 : Int32)) a0 10 (-1 : Int32))) L a0 a1).bind fun p10 => ((FX12_advance p10 L a0).bind fun p11 => ((tq_it (fun p : tq_PI => FX12_text_s100 p L a0 a1 a2 ) tq_N p11).bind fun p21 => (if 0 ≤ (5 : Int32) ∧ (5 : Int32) < 4016 then (if (p21 (tq_rg a0 0) ((5 : Int32)).toNatClampNeg) = 0 then (if a1 = 0 then ((FX12_hillFault p21 L a0).bind fun p38 => (if p38.1 = 0 then (FX12_text_j199 p38.2 L a0 a1 a2) else ((FX12_also p38.2 L a0 p38.1 ((p38.2 a0 4))).bind fun p40 => (FX12_text_j199 p40 L a0 a1 a2)))) else (FX12_text_j199 p21 L a0 a1 a2)) else (FX12_text_j199 p21 L a0 a1 a2)) else none))))
noncomputable def FX12_text (I : tq_PI) (L : tq_PL) (a0 : Nat) (a1 : Int32) (a2 : Int32) : Option (Int32 × tq_PI) :=
  (if 0 ≤ (4 : Int32) ∧ (4 : Int32) < 4016 then (if 0 ≤ (4 : Int32) ∧ (4 : Int32) < 4016 then (if 0 ≤ (5 : Int32) ∧ (5 : Int32) < 4016 then (if 0 ≤ (6 : Int32) ∧ (6 : Int32) < 4016 then (tq_let (FX12_isIn ((tq_up2 (tq_up2 (tq_up2 (tq_up2 I a0 2 (I (tq_rg a0 0) ((4 : Int32)).toNatClampNeg)) (tq_rg a0 0) ((4 : Int32)).toNatClampNeg (0 : Int32)) (tq_rg a0 0) ((5 : Int32)).toNatClampNeg (0 : Int32)) (tq_rg a0 0) ((6 : Int32)).toNatClampNeg (-1 : Int32))) L a1 ((0 : Int32)) ((3 : Int32))) fun p5 => (if (tq_b p5) = 0 then (FX12_text_j68 ((tq_up2 (tq_up2 (tq_up2 (tq_up2 I a0 2 (I (tq_rg a0 0) ((4 : Int32)).toNatClampNeg)) (tq_rg a0 0) ((4 : Int32)).toNatClampNeg (0 : Int32)) (tq_rg a0 0) ((5 : Int32)).toNatClampNeg (0 : Int32)) (tq_rg a0 0) ((6 : Int32)).toNatClampNeg (-1 : Int32))) L ) else (if a2 = (-1 : Int32) then (if 0 ≤ a1 ∧ a1 < 4016 then (if (((tq_up2 (tq_up2 (tq_up2 (tq_up2 I a0 2 (I (tq_rg a0 0) ((4 : Int32)).toNatClampNeg)) (tq_rg a0 0) ((4 : Int32)).toNatClampNeg (0 : Int32)) (tq_rg a0 0) ((5 : Int32)).toNatClampNeg (0 : Int32)) (tq_rg a0 0) ((6 : Int32)).toNatClampNeg (-1 : Int32))) (tq_rg a0 0) a1.toNatClampNeg) < (2 : Int32) then (FX12_text_j71 ((tq_up2 (tq_up2 (tq_up2 (tq_up2 I a0 2 (I (tq_rg a0 0) ((4 : Int32)).toNatClampNeg)) (tq_rg a0 0) ((4 : Int32)).toNatClampNeg (0 : Int32)) (tq_rg a0 0) ((5 : Int32)).toNatClampNeg (0 : Int32)) (tq_rg a0 0) ((6 : Int32)).toNatClampNeg (-1 : Int32))) L a0 a1 a2) else (FX12_text_j68 ((tq_up2 (tq_up2 (tq_up2 (tq_up2 I a0 2 (I (tq_rg a0 0) ((4 : Int32)).toNatClampNeg)) (tq_rg a0 0) ((4 : Int32)).toNatClampNeg (0 : Int32)) (tq_rg a0 0) ((5 : Int32)).toNatClampNeg (0 : Int32)) (tq_rg a0 0) ((6 : Int32)).toNatClampNeg (-1 : Int32))) L )) else none) else ((FX12_isOf ((tq_up2 (tq_up2 (tq_up2 (tq_up2 I a0 2 (I (tq_rg a0 0) ((4 : Int32)).toNatClampNeg)) (tq_rg a0 0) ((4 : Int32)).toNatClampNeg (0 : Int32)) (tq_rg a0 0) ((5 : Int32)).toNatClampNeg (0 : Int32)) (tq_rg a0 0) ((6 : Int32)).toNatClampNeg (-1 : Int32))) L a0 a1 a2).bind fun p8 => (if (tq_b p8) = 0 then (FX12_text_j68 ((tq_up2 (tq_up2 (tq_up2 (tq_up2 I a0 2 (I (tq_rg a0 0) ((4 : Int32)).toNatClampNeg)) (tq_rg a0 0) ((4 : Int32)).toNatClampNeg (0 : Int32)) (tq_rg a0 0) ((5 : Int32)).toNatClampNeg (0 : Int32)) (tq_rg a0 0) ((6 : Int32)).toNatClampNeg (-1 : Int32))) L ) else (FX12_text_j71 ((tq_up2 (tq_up2 (tq_up2 (tq_up2 I a0 2 (I (tq_rg a0 0) ((4 : Int32)).toNatClampNeg)) (tq_rg a0 0) ((4 : Int32)).toNatClampNeg (0 : Int32)) (tq_rg a0 0) ((5 : Int32)).toNatClampNeg (0 : Int32)) (tq_rg a0 0) ((6 : Int32)).toNatClampNeg (-1 : Int32))) L a0 a1 a2)))))) else none) else none) else none) else none)
set_option maxRecDepth 100000 in
set_option maxHeartbeats 4000000 in
theorem FX12_text_j68_x {S : Nat × (Nat → Int32)} {d : Nat} {I : tq_PI} {L : tq_PL}   {q0 : Option Value → tq_PI → tq_PL → Prop} {out : Int32 × tq_PI} (hf : FX12_text_j68 I L = some out) (hk : q0 (some (.int out.1)) out.2 L) : tq_X S mX12_text (d + 6) tq_k0 68 ([tq_u, tq_u, tq_u, tq_u, tq_u]) ([]) (tq_st I L) (tq_Q q0) := by
  unfold FX12_text_j68 at hf
  refine tq_bipush (-2 : Int32) rX12_text_68 (by decide) ?_
  refine ty_iret rX12_text_70 rfl rfl ?_
  have hf := Option.some.inj hf
  subst hf
  exact hk

set_option maxRecDepth 100000 in
set_option maxHeartbeats 4000000 in
theorem FX12_text_s100_x {S : Nat × (Nat → Int32)} {d : Nat} {I : tq_PI} {L : tq_PL} {a0 : Nat} {a1 : Int32} {a2 : Int32} (h0 : tq_sh0 a0 = 12) {q0 : Option Value → tq_PI → tq_PL → Prop} {out : (tq_PI) ⊕ (tq_PI)} (hf : FX12_text_s100 I L a0 a1 a2 = some out) (hk : Sum.elim (fun p : tq_PI => tq_X S mX12_text (d + 6) tq_k0 100 ([.ref a0, .int a1, .int a2, tq_u, tq_u]) [] (tq_st p L) (tq_Q q0)) (fun p : tq_PI => tq_X S mX12_text (d + 6) tq_k0 168 ([.ref a0, .int a1, .int a2, tq_u, tq_u]) [] (tq_st p L) (tq_Q q0)) out) : tq_X S mX12_text (d + 6) tq_k0 100 ([.ref a0, .int a1, .int a2, tq_u, tq_u]) [] (tq_st I L) (tq_Q q0) := by
  unfold FX12_text_s100 at hf
  refine tq_aload_n rX12_text_100 rfl ?_
  refine ty_getI rX12_text_101 f_X12_111 rfl h0 ?_
  refine tq_if_ne rX12_text_104 (fun c12 => ?_) (fun c12 => ?_)
  · rw [if_neg c12] at hf
    have hf := Option.some.inj hf
    subst hf
    exact tq_forget _ (tq_le_s (tq_le_s (tq_le_s (tq_le_u (tq_le_u tq_le_n))))) hk
  · rw [if_pos c12] at hf
    refine tq_aload_n rX12_text_107 rfl ?_
    refine ty_getI rX12_text_108 f_X12_87 rfl h0 ?_
    refine tq_if_eq rX12_text_111 (fun c13 => ?_) (fun c13 => ?_)
    · rw [if_pos c13] at hf
      have hf := Option.some.inj hf
      subst hf
      exact tq_forget _ (tq_le_s (tq_le_s (tq_le_s (tq_le_u (tq_le_u tq_le_n))))) hk
    · rw [if_neg c13] at hf
      refine tq_iload_n rX12_text_114 rfl ?_
      by_cases c14 : a1 = 0
      · rw [if_pos c14] at hf
        refine tq_swIn (tgt := 140) 25 rX12_text_115 (by rw [c14]; decide) (by rw [c14]; decide) (by rw [c14]; rfl) (by decide) ?_
        refine tq_aload_n rX12_text_140 rfl ?_
        obtain ⟨p15, e15, hf⟩ := Option.bind_eq_some_iff.mp hf
        refine ty_callVV ([]) ([]) rX12_text_141 l_X12_165 moX12_hillLine mvX12_hillLine h0 rfl rfl (Nat.le_of_ble_eq_true rfl) ⟨rfl, rfl⟩ (CX12_hillLine h0 e15) ?_
        refine tq_goto rX12_text_144 ?_
        have hf := Option.some.inj hf
        subst hf
        exact tq_forget _ (tq_le_s (tq_le_s (tq_le_s (tq_le_u (tq_le_u tq_le_n))))) hk
      · rw [if_neg c14] at hf
        by_cases c16 : a1 = 1
        · rw [if_pos c16] at hf
          refine tq_swIn (tgt := 147) 32 rX12_text_115 (by rw [c16]; decide) (by rw [c16]; decide) (by rw [c16]; rfl) (by decide) ?_
          refine tq_aload_n rX12_text_147 rfl ?_
          obtain ⟨p17, e17, hf⟩ := Option.bind_eq_some_iff.mp hf
          refine ty_callVV ([]) ([]) rX12_text_148 l_X12_168 moX12_yearLine mvX12_yearLine h0 rfl rfl (Nat.le_of_ble_eq_true rfl) ⟨rfl, rfl⟩ (CX12_yearLine h0 e17) ?_
          refine tq_goto rX12_text_151 ?_
          have hf := Option.some.inj hf
          subst hf
          exact tq_forget _ (tq_le_s (tq_le_s (tq_le_s (tq_le_u (tq_le_u tq_le_n))))) hk
        · rw [if_neg c16] at hf
          by_cases c18 : a1 = 2
          · rw [if_pos c18] at hf
            refine tq_swIn (tgt := 154) 39 rX12_text_115 (by rw [c18]; decide) (by rw [c18]; decide) (by rw [c18]; rfl) (by decide) ?_
            refine tq_aload_n rX12_text_154 rfl ?_
            obtain ⟨p19, e19, hf⟩ := Option.bind_eq_some_iff.mp hf
            refine ty_callVV ([]) ([]) rX12_text_155 l_X12_171 moX12_logLine mvX12_logLine h0 rfl rfl (Nat.le_of_ble_eq_true rfl) ⟨rfl, rfl⟩ (CX12_logLine h0 e19) ?_
            refine tq_goto rX12_text_158 ?_
            have hf := Option.some.inj hf
            subst hf
            exact tq_forget _ (tq_le_s (tq_le_s (tq_le_s (tq_le_u (tq_le_u tq_le_n))))) hk
          · rw [if_neg c18] at hf
            have c14o := tq_ni (c := 0) c14 (by decide)
            have c16o := tq_ni (c := 1) c16 (by decide)
            have c18o := tq_ni (c := 2) c18 (by decide)
            refine tq_swOut (tgt := 161) rX12_text_115 (by omega) (by decide) ?_
            refine tq_aload_n rX12_text_161 rfl ?_
            obtain ⟨p20, e20, hf⟩ := Option.bind_eq_some_iff.mp hf
            refine ty_callVV ([]) ([]) rX12_text_162 l_X12_174 moX12_talkLine mvX12_talkLine h0 rfl rfl (Nat.le_of_ble_eq_true rfl) ⟨rfl, rfl⟩ (CX12_talkLine h0 e20) ?_
            refine tq_goto rX12_text_165 ?_
            have hf := Option.some.inj hf
            subst hf
            exact tq_forget _ (tq_le_s (tq_le_s (tq_le_s (tq_le_u (tq_le_u tq_le_n))))) hk

set_option maxRecDepth 100000 in
set_option maxHeartbeats 4000000 in
theorem FX12_text_s244_x {S : Nat × (Nat → Int32)} {d : Nat} {I : tq_PI} {L : tq_PL} {a0 : Nat} {a1 : Int32} {a3 : Int32} {a4 : Int32} (h0 : tq_sh0 a0 = 12) {q0 : Option Value → tq_PI → tq_PL → Prop} {out : (Int32 × tq_PI) ⊕ (tq_PI)} (hf : FX12_text_s244 I L a0 a1 a3 a4 = some out) (hk : Sum.elim (fun p : Int32 × tq_PI => tq_X S mX12_text (d + 6) tq_k0 244 ([.ref a0, .int a1, tq_u, .int a3, .int p.1]) [] (tq_st p.2 L) (tq_Q q0)) (fun p : tq_PI => tq_X S mX12_text (d + 6) tq_k0 279 ([tq_u, tq_u, tq_u, .int a3, tq_u]) [] (tq_st p L) (tq_Q q0)) out) : tq_X S mX12_text (d + 6) tq_k0 244 ([.ref a0, .int a1, tq_u, .int a3, .int a4]) [] (tq_st I L) (tq_Q q0) := by
  unfold FX12_text_s244 at hf
  refine tq_iload rX12_text_244 rfl ?_
  refine tq_iload_n rX12_text_246 rfl ?_
  obtain ⟨p28, e28, hf⟩ := tq_let_elim hf
  refine ty_callSI p28 ([.int a1]) ([.int a4]) rX12_text_247 l_X12_181 moX12_sizeOf msX12_sizeOf rfl rfl (Nat.le_of_ble_eq_true rfl) ⟨rfl, rfl⟩ (CX12_sizeOf  e28) ?_
  refine tq_icmp_ge rX12_text_250 (fun c29 => ?_) (fun c29 => ?_)
  · rw [if_pos c29] at hf
    have hf := Option.some.inj hf
    subst hf
    exact tq_forget _ (tq_le_u (tq_le_u (tq_le_u (tq_le_s (tq_le_u tq_le_n))))) hk
  · rw [if_neg c29] at hf
    refine tq_aload_n rX12_text_253 rfl ?_
    refine ty_getR rX12_text_254 f_X12_7 rfl h0 (hp_12_0 h0).1 ?_
    refine tq_iload_n rX12_text_257 rfl ?_
    refine tq_iload_n rX12_text_258 rfl ?_
    obtain ⟨p30, e30, hf⟩ := tq_let_elim hf
    refine ty_callSI p30 ([.int a1, .int a3]) ([.ref (tq_rg a0 0)]) rX12_text_259 l_X12_184 moX12_placeOf msX12_placeOf rfl rfl (Nat.le_of_ble_eq_true rfl) ⟨rfl, rfl⟩ (CX12_placeOf  e30) ?_
    refine tq_iload rX12_text_262 rfl ?_
    refine tq_iadd rX12_text_264 ?_
    refine tq_aload_n rX12_text_265 rfl ?_
    refine ty_getR rX12_text_266 f_X12_17 rfl h0 (hp_12_11 h0).1 ?_
    refine tq_iload rX12_text_269 rfl ?_
    obtain ⟨g31, hf⟩ := tq_chk hf
    refine ty_iald (v := 121) rX12_text_271 (hp_12_11 h0).2.1 (hp_12_11 h0).2.2 rfl (by decide) g31 ?_
    obtain ⟨g32, hf⟩ := tq_chk hf
    refine ty_iast (v := 4016) rX12_text_272 (hp_12_0 h0).2.1 (hp_12_0 h0).2.2 rfl (by decide) g32 ?_
    refine tq_iinc (a4 + 1) ([.ref a0, .int a1, tq_u, .int a3, .int (a4 + 1)]) rX12_text_273 rfl (tq_inc (by decide)) (Nat.le_of_ble_eq_true rfl) rfl ?_
    refine tq_goto rX12_text_276 ?_
    have hf := Option.some.inj hf
    subst hf
    exact tq_forget _ (tq_le_s (tq_le_s (tq_le_u (tq_le_s (tq_le_s tq_le_n))))) hk

set_option maxRecDepth 100000 in
set_option maxHeartbeats 4000000 in
theorem FX12_text_j241_x {S : Nat × (Nat → Int32)} {d : Nat} {I : tq_PI} {L : tq_PL} {a0 : Nat} {a1 : Int32} {a3 : Int32} (h0 : tq_sh0 a0 = 12) {q0 : Option Value → tq_PI → tq_PL → Prop} {out : Int32 × tq_PI} (hf : FX12_text_j241 I L a0 a1 a3 = some out) (hk : q0 (some (.int out.1)) out.2 L) : tq_X S mX12_text (d + 6) tq_k0 241 ([.ref a0, .int a1, tq_u, .int a3, tq_u]) ([]) (tq_st I L) (tq_Q q0) := by
  unfold FX12_text_j241 at hf
  refine tq_iconst (0 : Int32) rX12_text_241 (by decide) ?_
  refine tq_istore ([.ref a0, .int a1, tq_u, .int a3, .int (0 : Int32)]) rX12_text_242 (Nat.le_of_ble_eq_true rfl) rfl ?_
  obtain ⟨p33, e33, hf⟩ := Option.bind_eq_some_iff.mp hf
  refine tq_forget _ (tq_le_s (tq_le_s (tq_le_u (tq_le_s (tq_le_s tq_le_n))))) ?_
  refine tq_it_elim (P := fun p : Int32 × tq_PI => tq_X S mX12_text (d + 6) tq_k0 244 ([.ref a0, .int a1, tq_u, .int a3, .int p.1]) [] (tq_st p.2 L) (tq_Q q0)) (R := fun p : tq_PI => tq_X S mX12_text (d + 6) tq_k0 279 ([tq_u, tq_u, tq_u, .int a3, tq_u]) [] (tq_st p L) (tq_Q q0)) (fun p o hp hk => FX12_text_s244_x  h0 hp hk) _ (((0 : Int32), I)) _ e33 ?_
  show tq_X _ _ _ _ _ _ _ _ _
  refine tq_iload_n rX12_text_279 rfl ?_
  refine ty_iret rX12_text_280 rfl rfl ?_
  have hf := Option.some.inj hf
  subst hf
  exact hk

set_option maxRecDepth 100000 in
set_option maxHeartbeats 4000000 in
theorem FX12_text_j225_x {S : Nat × (Nat → Int32)} {d : Nat} {I : tq_PI} {L : tq_PL} {a0 : Nat} {a1 : Int32} {a2 : Int32} {b0 : Int32} (h0 : tq_sh0 a0 = 12) {q0 : Option Value → tq_PI → tq_PL → Prop} {out : Int32 × tq_PI} (hf : FX12_text_j225 I L a0 a1 a2 b0 = some out) (hk : q0 (some (.int out.1)) out.2 L) : tq_X S mX12_text (d + 6) tq_k0 225 ([.ref a0, .int a1, .int a2, tq_u, tq_u]) ([.int b0]) (tq_st I L) (tq_Q q0) := by
  unfold FX12_text_j225 at hf
  refine tq_istore_n ([.ref a0, .int a1, .int a2, .int b0, tq_u]) rX12_text_225 (Nat.le_of_ble_eq_true rfl) rfl ?_
  refine tq_iload_n rX12_text_226 rfl ?_
  refine tq_iconst (-1 : Int32) rX12_text_227 (by decide) ?_
  refine tq_icmp_ne rX12_text_228 (fun c27 => ?_) (fun c27 => ?_)
  · rw [if_neg c27] at hf
    exact tq_forget _ (tq_le_s (tq_le_s (tq_le_u (tq_le_s (tq_le_u tq_le_n))))) (FX12_text_j241_x  h0 hf hk)
  · rw [if_pos c27] at hf
    refine tq_aload_n rX12_text_231 rfl ?_
    refine ty_getR rX12_text_232 f_X12_7 rfl h0 (hp_12_0 h0).1 ?_
    refine tq_iload_n rX12_text_235 rfl ?_
    refine tq_dup2 rX12_text_236 rfl rfl ?_
    obtain ⟨g34, hf⟩ := tq_chk hf
    refine ty_iald (v := 4016) rX12_text_237 (hp_12_0 h0).2.1 (hp_12_0 h0).2.2 rfl (by decide) g34 ?_
    refine tq_iconst (1 : Int32) rX12_text_238 (by decide) ?_
    refine tq_iadd rX12_text_239 ?_
    obtain ⟨g35, hf⟩ := tq_chk hf
    refine ty_iast (v := 4016) rX12_text_240 (hp_12_0 h0).2.1 (hp_12_0 h0).2.2 rfl (by decide) g35 ?_
    exact tq_forget _ (tq_le_s (tq_le_s (tq_le_u (tq_le_s (tq_le_u tq_le_n))))) (FX12_text_j241_x  h0 hf hk)

set_option maxRecDepth 100000 in
set_option maxHeartbeats 4000000 in
theorem FX12_text_j199_x {S : Nat × (Nat → Int32)} {d : Nat} {I : tq_PI} {L : tq_PL} {a0 : Nat} {a1 : Int32} {a2 : Int32} (h0 : tq_sh0 a0 = 12) {q0 : Option Value → tq_PI → tq_PL → Prop} {out : Int32 × tq_PI} (hf : FX12_text_j199 I L a0 a1 a2 = some out) (hk : q0 (some (.int out.1)) out.2 L) : tq_X S mX12_text (d + 6) tq_k0 199 ([.ref a0, .int a1, .int a2, tq_u, tq_u]) ([]) (tq_st I L) (tq_Q q0) := by
  unfold FX12_text_j199 at hf
  refine tq_aload_n rX12_text_199 rfl ?_
  refine ty_getR rX12_text_200 f_X12_7 rfl h0 (hp_12_0 h0).1 ?_
  refine tq_iconst (5 : Int32) rX12_text_203 (by decide) ?_
  obtain ⟨g24, hf⟩ := tq_chk hf
  refine ty_iald (v := 4016) rX12_text_204 (hp_12_0 h0).2.1 (hp_12_0 h0).2.2 rfl (by decide) g24 ?_
  refine tq_if_eq rX12_text_205 (fun c25 => ?_) (fun c25 => ?_)
  · rw [if_pos c25] at hf
    refine tq_iload_n rX12_text_210 rfl ?_
    refine tq_iconst (-1 : Int32) rX12_text_211 (by decide) ?_
    refine tq_icmp_ne rX12_text_212 (fun c26 => ?_) (fun c26 => ?_)
    · rw [if_neg c26] at hf
      refine tq_iload_n rX12_text_224 rfl ?_
      exact tq_forget _ (tq_le_s (tq_le_s (tq_le_s (tq_le_u (tq_le_u tq_le_n))))) (FX12_text_j225_x  h0 hf hk)
    · rw [if_pos c26] at hf
      refine tq_aload_n rX12_text_215 rfl ?_
      refine ty_getR rX12_text_216 f_X12_7 rfl h0 (hp_12_0 h0).1 ?_
      refine tq_iload_n rX12_text_219 rfl ?_
      obtain ⟨g36, hf⟩ := tq_chk hf
      refine ty_iald (v := 4016) rX12_text_220 (hp_12_0 h0).2.1 (hp_12_0 h0).2.2 rfl (by decide) g36 ?_
      refine tq_goto rX12_text_221 ?_
      exact tq_forget _ (tq_le_s (tq_le_s (tq_le_s (tq_le_u (tq_le_u tq_le_n))))) (FX12_text_j225_x  h0 hf hk)
  · rw [if_neg c25] at hf
    refine tq_iconst (-1 : Int32) rX12_text_208 (by decide) ?_
    refine ty_iret rX12_text_209 rfl rfl ?_
    have hf := Option.some.inj hf
    subst hf
    exact hk

set_option maxRecDepth 100000 in
set_option maxHeartbeats 4000000 in
theorem FX12_text_j71_x {S : Nat × (Nat → Int32)} {d : Nat} {I : tq_PI} {L : tq_PL} {a0 : Nat} {a1 : Int32} {a2 : Int32} (h0 : tq_sh0 a0 = 12) {q0 : Option Value → tq_PI → tq_PL → Prop} {out : Int32 × tq_PI} (hf : FX12_text_j71 I L a0 a1 a2 = some out) (hk : q0 (some (.int out.1)) out.2 L) : tq_X S mX12_text (d + 6) tq_k0 71 ([.ref a0, .int a1, .int a2, tq_u, tq_u]) ([]) (tq_st I L) (tq_Q q0) := by
  unfold FX12_text_j71 at hf
  refine tq_aload_n rX12_text_71 rfl ?_
  refine tq_iconst (0 : Int32) rX12_text_72 (by decide) ?_
  refine ty_putI rX12_text_73 f_X12_77 rfl h0 rfl ?_
  refine tq_aload_n rX12_text_76 rfl ?_
  refine tq_iconst (0 : Int32) rX12_text_77 (by decide) ?_
  refine ty_putZ rX12_text_78 f_X12_111 rfl h0 rfl (by decide) ?_
  refine tq_aload_n rX12_text_81 rfl ?_
  refine tq_iconst (-1 : Int32) rX12_text_82 (by decide) ?_
  refine ty_putI rX12_text_83 f_X12_136 rfl h0 rfl ?_
  refine tq_aload_n rX12_text_86 rfl ?_
  refine tq_iconst (-1 : Int32) rX12_text_87 (by decide) ?_
  refine ty_putI rX12_text_88 f_X12_139 rfl h0 rfl ?_
  refine tq_aload_n rX12_text_91 rfl ?_
  refine tq_iload_n rX12_text_92 rfl ?_
  obtain ⟨p10, e10, hf⟩ := Option.bind_eq_some_iff.mp hf
  refine ty_callVV ([.int a1]) ([]) rX12_text_93 l_X12_161 moX12_begins0 mvX12_begins0 h0 rfl rfl (Nat.le_of_ble_eq_true rfl) ⟨rfl, rfl⟩ (CX12_begins0 h0 e10) ?_
  refine tq_aload_n rX12_text_96 rfl ?_
  obtain ⟨p11, e11, hf⟩ := Option.bind_eq_some_iff.mp hf
  refine ty_callVV ([]) ([]) rX12_text_97 l_X12_126 moX12_advance mvX12_advance h0 rfl rfl (Nat.le_of_ble_eq_true rfl) ⟨rfl, rfl⟩ (CX12_advance h0 e11) ?_
  obtain ⟨p21, e21, hf⟩ := Option.bind_eq_some_iff.mp hf
  refine tq_forget _ (tq_le_s (tq_le_s (tq_le_s (tq_le_u (tq_le_u tq_le_n))))) ?_
  refine tq_it_elim (P := fun p : tq_PI => tq_X S mX12_text (d + 6) tq_k0 100 ([.ref a0, .int a1, .int a2, tq_u, tq_u]) [] (tq_st p L) (tq_Q q0)) (R := fun p : tq_PI => tq_X S mX12_text (d + 6) tq_k0 168 ([.ref a0, .int a1, .int a2, tq_u, tq_u]) [] (tq_st p L) (tq_Q q0)) (fun p o hp hk => FX12_text_s100_x  h0 hp hk) _ (p11) _ e21 ?_
  show tq_X _ _ _ _ _ _ _ _ _
  refine tq_aload_n rX12_text_168 rfl ?_
  refine ty_getR rX12_text_169 f_X12_7 rfl h0 (hp_12_0 h0).1 ?_
  refine tq_iconst (5 : Int32) rX12_text_172 (by decide) ?_
  obtain ⟨g22, hf⟩ := tq_chk hf
  refine ty_iald (v := 4016) rX12_text_173 (hp_12_0 h0).2.1 (hp_12_0 h0).2.2 rfl (by decide) g22 ?_
  refine tq_if_ne rX12_text_174 (fun c23 => ?_) (fun c23 => ?_)
  · rw [if_neg c23] at hf
    exact tq_forget _ (tq_le_s (tq_le_s (tq_le_s (tq_le_u (tq_le_u tq_le_n))))) (FX12_text_j199_x  h0 hf hk)
  · rw [if_pos c23] at hf
    refine tq_iload_n rX12_text_177 rfl ?_
    refine tq_if_ne rX12_text_178 (fun c37 => ?_) (fun c37 => ?_)
    · rw [if_neg c37] at hf
      exact tq_forget _ (tq_le_s (tq_le_s (tq_le_s (tq_le_u (tq_le_u tq_le_n))))) (FX12_text_j199_x  h0 hf hk)
    · rw [if_pos c37] at hf
      refine tq_aload_n rX12_text_181 rfl ?_
      obtain ⟨p38, e38, hf⟩ := Option.bind_eq_some_iff.mp hf
      refine ty_callVI p38.1 ([]) ([]) rX12_text_182 l_X12_177 moX12_hillFault mvX12_hillFault h0 rfl rfl (Nat.le_of_ble_eq_true rfl) ⟨rfl, rfl⟩ (CX12_hillFault h0 e38) ?_
      refine tq_istore_n ([.ref a0, .int a1, .int a2, .int p38.1, tq_u]) rX12_text_185 (Nat.le_of_ble_eq_true rfl) rfl ?_
      refine tq_iload_n rX12_text_186 rfl ?_
      refine tq_if_eq rX12_text_187 (fun c39 => ?_) (fun c39 => ?_)
      · rw [if_pos c39] at hf
        exact tq_forget _ (tq_le_s (tq_le_s (tq_le_s (tq_le_u (tq_le_u tq_le_n))))) (FX12_text_j199_x  h0 hf hk)
      · rw [if_neg c39] at hf
        refine tq_aload_n rX12_text_190 rfl ?_
        refine tq_iload_n rX12_text_191 rfl ?_
        refine tq_aload_n rX12_text_192 rfl ?_
        refine ty_getI rX12_text_193 f_X12_84 rfl h0 ?_
        obtain ⟨p40, e40, hf⟩ := Option.bind_eq_some_iff.mp hf
        refine ty_callVV ([.int p38.1, .int (p38.2 a0 4)]) ([]) rX12_text_196 l_X12_122 moX12_also mvX12_also h0 rfl rfl (Nat.le_of_ble_eq_true rfl) ⟨rfl, rfl⟩ (CX12_also h0 e40) ?_
        exact tq_forget _ (tq_le_s (tq_le_s (tq_le_s (tq_le_u (tq_le_u tq_le_n))))) (FX12_text_j199_x  h0 hf hk)

set_option maxRecDepth 100000 in
set_option maxHeartbeats 4000000 in
theorem CX12_text {S : Nat × (Nat → Int32)} {d : Nat} {I : tq_PI} {L : tq_PL} {a0 : Nat} {a1 : Int32} {a2 : Int32} (h0 : tq_sh0 a0 = 12) {out : Int32 × tq_PI} (hf : FX12_text I L a0 a1 a2 = some out) : tq_K S mX12_text (d + 6) [.ref a0, .int a1, .int a2] I L (tq_one2 (some (.int out.1)) out.2 L) := by
  unfold FX12_text at hf
  refine tq_K_of (by decide) (Nat.le_of_ble_eq_true rfl) (ls := [.ref a0, .int a1, .int a2, tq_u, tq_u]) rfl ?_
  refine tq_aload_n rX12_text_0 rfl ?_
  refine tq_aload_n rX12_text_1 rfl ?_
  refine ty_getR rX12_text_2 f_X12_7 rfl h0 (hp_12_0 h0).1 ?_
  refine tq_iconst (4 : Int32) rX12_text_5 (by decide) ?_
  obtain ⟨g1, hf⟩ := tq_chk hf
  refine ty_iald (v := 4016) rX12_text_6 (hp_12_0 h0).2.1 (hp_12_0 h0).2.2 rfl (by decide) g1 ?_
  refine ty_putI rX12_text_7 f_X12_63 rfl h0 rfl ?_
  refine tq_aload_n rX12_text_10 rfl ?_
  refine ty_getR rX12_text_11 f_X12_7 rfl h0 (hp_12_0 h0).1 ?_
  refine tq_iconst (4 : Int32) rX12_text_14 (by decide) ?_
  refine tq_iconst (0 : Int32) rX12_text_15 (by decide) ?_
  obtain ⟨g2, hf⟩ := tq_chk hf
  refine ty_iast (v := 4016) rX12_text_16 (hp_12_0 h0).2.1 (hp_12_0 h0).2.2 rfl (by decide) g2 ?_
  refine tq_aload_n rX12_text_17 rfl ?_
  refine ty_getR rX12_text_18 f_X12_7 rfl h0 (hp_12_0 h0).1 ?_
  refine tq_iconst (5 : Int32) rX12_text_21 (by decide) ?_
  refine tq_iconst (0 : Int32) rX12_text_22 (by decide) ?_
  obtain ⟨g3, hf⟩ := tq_chk hf
  refine ty_iast (v := 4016) rX12_text_23 (hp_12_0 h0).2.1 (hp_12_0 h0).2.2 rfl (by decide) g3 ?_
  refine tq_aload_n rX12_text_24 rfl ?_
  refine ty_getR rX12_text_25 f_X12_7 rfl h0 (hp_12_0 h0).1 ?_
  refine tq_bipush (6 : Int32) rX12_text_28 (by decide) ?_
  refine tq_iconst (-1 : Int32) rX12_text_30 (by decide) ?_
  obtain ⟨g4, hf⟩ := tq_chk hf
  refine ty_iast (v := 4016) rX12_text_31 (hp_12_0 h0).2.1 (hp_12_0 h0).2.2 rfl (by decide) g4 ?_
  refine tq_iload_n rX12_text_32 rfl ?_
  refine tq_iconst (0 : Int32) rX12_text_33 (by decide) ?_
  refine tq_iconst (3 : Int32) rX12_text_34 (by decide) ?_
  obtain ⟨p5, e5, hf⟩ := tq_let_elim hf
  refine ty_callSI (tq_b p5) ([.int a1, .int (0 : Int32), .int (3 : Int32)]) ([]) rX12_text_35 l_X12_118 moX12_isIn msX12_isIn rfl rfl (Nat.le_of_ble_eq_true rfl) ⟨rfl, rfl⟩ (CX12_isIn  e5) ?_
  refine tq_if_eq rX12_text_38 (fun c6 => ?_) (fun c6 => ?_)
  · rw [if_pos c6] at hf
    exact tq_forget _ (tq_le_u (tq_le_u (tq_le_u (tq_le_u (tq_le_u tq_le_n))))) (FX12_text_j68_x   hf ⟨rfl, rfl, rfl⟩)
  · rw [if_neg c6] at hf
    refine tq_iload_n rX12_text_41 rfl ?_
    refine tq_iconst (-1 : Int32) rX12_text_42 (by decide) ?_
    refine tq_icmp_ne rX12_text_43 (fun c7 => ?_) (fun c7 => ?_)
    · rw [if_neg c7] at hf
      refine tq_aload_n rX12_text_59 rfl ?_
      refine tq_iload_n rX12_text_60 rfl ?_
      refine tq_iload_n rX12_text_61 rfl ?_
      obtain ⟨p8, e8, hf⟩ := Option.bind_eq_some_iff.mp hf
      refine ty_callVI (tq_b p8) ([.int a1, .int a2]) ([]) rX12_text_62 l_X12_157 moX12_isOf mvX12_isOf h0 rfl rfl (Nat.le_of_ble_eq_true rfl) ⟨rfl, rfl⟩ (CX12_isOf h0 e8) ?_
      refine tq_if_ne rX12_text_65 (fun c9 => ?_) (fun c9 => ?_)
      · rw [if_neg c9] at hf
        exact tq_forget _ (tq_le_s (tq_le_s (tq_le_s (tq_le_u (tq_le_u tq_le_n))))) (FX12_text_j71_x  h0 hf ⟨rfl, rfl, rfl⟩)
      · rw [if_pos c9] at hf
        exact tq_forget _ (tq_le_u (tq_le_u (tq_le_u (tq_le_u (tq_le_u tq_le_n))))) (FX12_text_j68_x   hf ⟨rfl, rfl, rfl⟩)
    · rw [if_pos c7] at hf
      refine tq_aload_n rX12_text_46 rfl ?_
      refine ty_getR rX12_text_47 f_X12_7 rfl h0 (hp_12_0 h0).1 ?_
      refine tq_iload_n rX12_text_50 rfl ?_
      obtain ⟨g41, hf⟩ := tq_chk hf
      refine ty_iald (v := 4016) rX12_text_51 (hp_12_0 h0).2.1 (hp_12_0 h0).2.2 rfl (by decide) g41 ?_
      refine tq_iconst (2 : Int32) rX12_text_52 (by decide) ?_
      refine tq_icmp_lt rX12_text_53 (fun c42 => ?_) (fun c42 => ?_)
      · rw [if_pos c42] at hf
        exact tq_forget _ (tq_le_s (tq_le_s (tq_le_s (tq_le_u (tq_le_u tq_le_n))))) (FX12_text_j71_x  h0 hf ⟨rfl, rfl, rfl⟩)
      · rw [if_neg c42] at hf
        refine tq_goto rX12_text_56 ?_
        exact tq_forget _ (tq_le_u (tq_le_u (tq_le_u (tq_le_u (tq_le_u tq_le_n))))) (FX12_text_j68_x   hf ⟨rfl, rfl, rfl⟩)

abbrev mX12_fault : tq_M := (yX12_fault, cX12_fault, 2, (Option.some Jvm.ClassFile.FieldType.int), 0, 0)
theorem rX12_fault_0 : tq_D cX12_fault 0 (.iload_n 1) 1 1 := ⟨by decide +kernel, rfl⟩
theorem rX12_fault_1 : tq_J cX12_fault 1 (.ifCond .ne) 13 4 := ⟨12, by decide +kernel, by decide, rfl⟩
theorem rX12_fault_4 : tq_D cX12_fault 4 (.aload_n 0) 1 5 := ⟨by decide +kernel, rfl⟩
theorem rX12_fault_5 : tq_D cX12_fault 5 (.getfield 7) 3 8 := ⟨by decide +kernel, rfl⟩
theorem rX12_fault_8 : tq_D cX12_fault 8 (.iconst 5) 1 9 := ⟨by decide +kernel, rfl⟩
theorem rX12_fault_9 : tq_D cX12_fault 9 (.iaload) 1 10 := ⟨by decide +kernel, rfl⟩
theorem rX12_fault_10 : tq_J cX12_fault 10 .goto 29 13 := ⟨19, by decide +kernel, by decide, rfl⟩
theorem rX12_fault_13 : tq_D cX12_fault 13 (.iload_n 1) 1 14 := ⟨by decide +kernel, rfl⟩
theorem rX12_fault_14 : tq_D cX12_fault 14 (.iconst 1) 1 15 := ⟨by decide +kernel, rfl⟩
theorem rX12_fault_15 : tq_J cX12_fault 15 (.if_icmp .ne) 28 18 := ⟨13, by decide +kernel, by decide, rfl⟩
theorem rX12_fault_18 : tq_D cX12_fault 18 (.aload_n 0) 1 19 := ⟨by decide +kernel, rfl⟩
theorem rX12_fault_19 : tq_D cX12_fault 19 (.getfield 7) 3 22 := ⟨by decide +kernel, rfl⟩
theorem rX12_fault_22 : tq_D cX12_fault 22 (.bipush 6) 2 24 := ⟨by decide +kernel, rfl⟩
theorem rX12_fault_24 : tq_D cX12_fault 24 (.iaload) 1 25 := ⟨by decide +kernel, rfl⟩
theorem rX12_fault_25 : tq_J cX12_fault 25 .goto 29 28 := ⟨4, by decide +kernel, by decide, rfl⟩
theorem rX12_fault_28 : tq_D cX12_fault 28 (.iconst (-1)) 1 29 := ⟨by decide +kernel, rfl⟩
theorem rX12_fault_29 : decode cX12_fault 29 = .ok (.ireturn, 1) := by decide +kernel
noncomputable def FX12_fault (I : tq_PI) (L : tq_PL) (a0 : Nat) (a1 : Int32) : Option (Int32) :=
  (if a1 = 0 then (if 0 ≤ (5 : Int32) ∧ (5 : Int32) < 4016 then some (I (tq_rg a0 0) ((5 : Int32)).toNatClampNeg) else none) else (if a1 = (1 : Int32) then (if 0 ≤ (6 : Int32) ∧ (6 : Int32) < 4016 then some (I (tq_rg a0 0) ((6 : Int32)).toNatClampNeg) else none) else some (-1 : Int32)))
set_option maxRecDepth 100000 in
set_option maxHeartbeats 4000000 in
theorem CX12_fault {S : Nat × (Nat → Int32)} {d : Nat} {I : tq_PI} {L : tq_PL} {a0 : Nat} {a1 : Int32} (h0 : tq_sh0 a0 = 12) {out : Int32} (hf : FX12_fault I L a0 a1 = some out) : tq_K S mX12_fault d [.ref a0, .int a1] I L (tq_one2 (some (.int out)) I L) := by
  unfold FX12_fault at hf
  refine tq_K_of (by decide) (Nat.le_of_ble_eq_true rfl) (ls := [.ref a0, .int a1]) rfl ?_
  refine tq_iload_n rX12_fault_0 rfl ?_
  refine tq_if_ne rX12_fault_1 (fun c1 => ?_) (fun c1 => ?_)
  · rw [if_neg c1] at hf
    refine tq_iload_n rX12_fault_13 rfl ?_
    refine tq_iconst (1 : Int32) rX12_fault_14 (by decide) ?_
    refine tq_icmp_ne rX12_fault_15 (fun c2 => ?_) (fun c2 => ?_)
    · rw [if_neg c2] at hf
      refine tq_iconst (-1 : Int32) rX12_fault_28 (by decide) ?_
      refine ty_iret rX12_fault_29 rfl rfl ?_
      have hf := Option.some.inj hf
      subst hf
      exact ⟨rfl, rfl, rfl⟩
    · rw [if_pos c2] at hf
      refine tq_aload_n rX12_fault_18 rfl ?_
      refine ty_getR rX12_fault_19 f_X12_7 rfl h0 (hp_12_0 h0).1 ?_
      refine tq_bipush (6 : Int32) rX12_fault_22 (by decide) ?_
      obtain ⟨g3, hf⟩ := tq_chk hf
      refine ty_iald (v := 4016) rX12_fault_24 (hp_12_0 h0).2.1 (hp_12_0 h0).2.2 rfl (by decide) g3 ?_
      refine tq_goto rX12_fault_25 ?_
      refine ty_iret rX12_fault_29 rfl rfl ?_
      have hf := Option.some.inj hf
      subst hf
      exact ⟨rfl, rfl, rfl⟩
  · rw [if_pos c1] at hf
    refine tq_aload_n rX12_fault_4 rfl ?_
    refine ty_getR rX12_fault_5 f_X12_7 rfl h0 (hp_12_0 h0).1 ?_
    refine tq_iconst (5 : Int32) rX12_fault_8 (by decide) ?_
    obtain ⟨g4, hf⟩ := tq_chk hf
    refine ty_iald (v := 4016) rX12_fault_9 (hp_12_0 h0).2.1 (hp_12_0 h0).2.2 rfl (by decide) g4 ?_
    refine tq_goto rX12_fault_10 ?_
    refine ty_iret rX12_fault_29 rfl rfl ?_
    have hf := Option.some.inj hf
    subst hf
    exact ⟨rfl, rfl, rfl⟩

abbrev mX12_isHill : tq_M := (yX12_isHill, cX12_isHill, 2, (Option.some Jvm.ClassFile.FieldType.boolean), 0, 0)
theorem f_X12_187 : tq_fok RX12 187 12 12 := ⟨by decide, by decide, Or.inl (tq_sg6 _ (List.mem_of_getElem? (i := 85) rfl))⟩
theorem rX12_isHill_0 : tq_D cX12_isHill 0 (.aload_n 0) 1 1 := ⟨by decide +kernel, rfl⟩
theorem rX12_isHill_1 : tq_D cX12_isHill 1 (.iconst 0) 1 2 := ⟨by decide +kernel, rfl⟩
theorem rX12_isHill_2 : tq_D cX12_isHill 2 (.iload_n 1) 1 3 := ⟨by decide +kernel, rfl⟩
theorem rX12_isHill_3 : tq_D cX12_isHill 3 (.invokevirtual 157) 3 6 := ⟨by decide +kernel, rfl⟩
theorem rX12_isHill_6 : tq_J cX12_isHill 6 (.ifCond .ne) 11 9 := ⟨5, by decide +kernel, by decide, rfl⟩
theorem rX12_isHill_9 : tq_D cX12_isHill 9 (.iconst 0) 1 10 := ⟨by decide +kernel, rfl⟩
theorem rX12_isHill_10 : decode cX12_isHill 10 = .ok (.ireturn, 1) := by decide +kernel
theorem rX12_isHill_11 : tq_D cX12_isHill 11 (.aload_n 0) 1 12 := ⟨by decide +kernel, rfl⟩
theorem rX12_isHill_12 : tq_D cX12_isHill 12 (.iconst 0) 1 13 := ⟨by decide +kernel, rfl⟩
theorem rX12_isHill_13 : tq_D cX12_isHill 13 (.iload_n 1) 1 14 := ⟨by decide +kernel, rfl⟩
theorem rX12_isHill_14 : tq_D cX12_isHill 14 (.invokestatic 184) 3 17 := ⟨by decide +kernel, rfl⟩
theorem rX12_isHill_17 : tq_D cX12_isHill 17 (.putfield 187) 3 20 := ⟨by decide +kernel, rfl⟩
theorem rX12_isHill_20 : tq_D cX12_isHill 20 (.aload_n 0) 1 21 := ⟨by decide +kernel, rfl⟩
theorem rX12_isHill_21 : tq_D cX12_isHill 21 (.aload_n 0) 1 22 := ⟨by decide +kernel, rfl⟩
theorem rX12_isHill_22 : tq_D cX12_isHill 22 (.getfield 7) 3 25 := ⟨by decide +kernel, rfl⟩
theorem rX12_isHill_25 : tq_D cX12_isHill 25 (.aload_n 0) 1 26 := ⟨by decide +kernel, rfl⟩
theorem rX12_isHill_26 : tq_D cX12_isHill 26 (.getfield 187) 3 29 := ⟨by decide +kernel, rfl⟩
theorem rX12_isHill_29 : tq_D cX12_isHill 29 (.iaload) 1 30 := ⟨by decide +kernel, rfl⟩
theorem rX12_isHill_30 : tq_D cX12_isHill 30 (.putfield 148) 3 33 := ⟨by decide +kernel, rfl⟩
theorem rX12_isHill_33 : tq_D cX12_isHill 33 (.aload_n 0) 1 34 := ⟨by decide +kernel, rfl⟩
theorem rX12_isHill_34 : tq_D cX12_isHill 34 (.aload_n 0) 1 35 := ⟨by decide +kernel, rfl⟩
theorem rX12_isHill_35 : tq_D cX12_isHill 35 (.getfield 7) 3 38 := ⟨by decide +kernel, rfl⟩
theorem rX12_isHill_38 : tq_D cX12_isHill 38 (.aload_n 0) 1 39 := ⟨by decide +kernel, rfl⟩
theorem rX12_isHill_39 : tq_D cX12_isHill 39 (.getfield 187) 3 42 := ⟨by decide +kernel, rfl⟩
theorem rX12_isHill_42 : tq_D cX12_isHill 42 (.iconst 1) 1 43 := ⟨by decide +kernel, rfl⟩
theorem rX12_isHill_43 : tq_D cX12_isHill 43 (.iadd) 1 44 := ⟨by decide +kernel, rfl⟩
theorem rX12_isHill_44 : tq_D cX12_isHill 44 (.iaload) 1 45 := ⟨by decide +kernel, rfl⟩
theorem rX12_isHill_45 : tq_D cX12_isHill 45 (.putfield 151) 3 48 := ⟨by decide +kernel, rfl⟩
theorem rX12_isHill_48 : tq_D cX12_isHill 48 (.iconst 1) 1 49 := ⟨by decide +kernel, rfl⟩
theorem rX12_isHill_49 : decode cX12_isHill 49 = .ok (.ireturn, 1) := by decide +kernel
noncomputable def FX12_isHill (I : tq_PI) (L : tq_PL) (a0 : Nat) (a1 : Int32) : Option (Bool × tq_PI) :=
  ((FX12_isOf I L a0 ((0 : Int32)) a1).bind fun p1 => (if (tq_b p1) = 0 then some (false, I) else (tq_let (FX12_placeOf I L ((0 : Int32)) a1) fun p3 => (if 0 ≤ (((tq_up2 I a0 12 p3)) a0 12) ∧ (((tq_up2 I a0 12 p3)) a0 12) < 4016 then (if 0 ≤ ((((tq_up2 (tq_up2 I a0 12 p3) a0 13 (((tq_up2 I a0 12 p3)) (tq_rg a0 0) ((((tq_up2 I a0 12 p3)) a0 12)).toNatClampNeg))) a0 12) + (1 : Int32)) ∧ ((((tq_up2 (tq_up2 I a0 12 p3) a0 13 (((tq_up2 I a0 12 p3)) (tq_rg a0 0) ((((tq_up2 I a0 12 p3)) a0 12)).toNatClampNeg))) a0 12) + (1 : Int32)) < 4016 then some (true, (tq_up2 (tq_up2 (tq_up2 I a0 12 p3) a0 13 (((tq_up2 I a0 12 p3)) (tq_rg a0 0) ((((tq_up2 I a0 12 p3)) a0 12)).toNatClampNeg)) a0 14 (((tq_up2 (tq_up2 I a0 12 p3) a0 13 (((tq_up2 I a0 12 p3)) (tq_rg a0 0) ((((tq_up2 I a0 12 p3)) a0 12)).toNatClampNeg))) (tq_rg a0 0) (((((tq_up2 (tq_up2 I a0 12 p3) a0 13 (((tq_up2 I a0 12 p3)) (tq_rg a0 0) ((((tq_up2 I a0 12 p3)) a0 12)).toNatClampNeg))) a0 12) + (1 : Int32))).toNatClampNeg))) else none) else none))))
set_option maxRecDepth 100000 in
set_option maxHeartbeats 4000000 in
theorem CX12_isHill {S : Nat × (Nat → Int32)} {d : Nat} {I : tq_PI} {L : tq_PL} {a0 : Nat} {a1 : Int32} (h0 : tq_sh0 a0 = 12) {out : Bool × tq_PI} (hf : FX12_isHill I L a0 a1 = some out) : tq_K S mX12_isHill (d + 2) [.ref a0, .int a1] I L (tq_one2 (some (.int (tq_b out.1))) out.2 L) := by
  unfold FX12_isHill at hf
  refine tq_K_of (by decide) (Nat.le_of_ble_eq_true rfl) (ls := [.ref a0, .int a1]) rfl ?_
  refine tq_aload_n rX12_isHill_0 rfl ?_
  refine tq_iconst (0 : Int32) rX12_isHill_1 (by decide) ?_
  refine tq_iload_n rX12_isHill_2 rfl ?_
  obtain ⟨p1, e1, hf⟩ := Option.bind_eq_some_iff.mp hf
  refine ty_callVI (tq_b p1) ([.int (0 : Int32), .int a1]) ([]) rX12_isHill_3 l_X12_157 moX12_isOf mvX12_isOf h0 rfl rfl (Nat.le_of_ble_eq_true rfl) ⟨rfl, rfl⟩ (CX12_isOf h0 e1) ?_
  refine tq_if_ne rX12_isHill_6 (fun c2 => ?_) (fun c2 => ?_)
  · rw [if_neg c2] at hf
    refine tq_aload_n rX12_isHill_11 rfl ?_
    refine tq_iconst (0 : Int32) rX12_isHill_12 (by decide) ?_
    refine tq_iload_n rX12_isHill_13 rfl ?_
    obtain ⟨p3, e3, hf⟩ := tq_let_elim hf
    refine ty_callSI p3 ([.int (0 : Int32), .int a1]) ([.ref a0]) rX12_isHill_14 l_X12_184 moX12_placeOf msX12_placeOf rfl rfl (Nat.le_of_ble_eq_true rfl) ⟨rfl, rfl⟩ (CX12_placeOf  e3) ?_
    refine ty_putI rX12_isHill_17 f_X12_187 rfl h0 rfl ?_
    refine tq_aload_n rX12_isHill_20 rfl ?_
    refine tq_aload_n rX12_isHill_21 rfl ?_
    refine ty_getR rX12_isHill_22 f_X12_7 rfl h0 (hp_12_0 h0).1 ?_
    refine tq_aload_n rX12_isHill_25 rfl ?_
    refine ty_getI rX12_isHill_26 f_X12_187 rfl h0 ?_
    obtain ⟨g4, hf⟩ := tq_chk hf
    refine ty_iald (v := 4016) rX12_isHill_29 (hp_12_0 h0).2.1 (hp_12_0 h0).2.2 rfl (by decide) g4 ?_
    refine ty_putI rX12_isHill_30 f_X12_148 rfl h0 rfl ?_
    refine tq_aload_n rX12_isHill_33 rfl ?_
    refine tq_aload_n rX12_isHill_34 rfl ?_
    refine ty_getR rX12_isHill_35 f_X12_7 rfl h0 (hp_12_0 h0).1 ?_
    refine tq_aload_n rX12_isHill_38 rfl ?_
    refine ty_getI rX12_isHill_39 f_X12_187 rfl h0 ?_
    refine tq_iconst (1 : Int32) rX12_isHill_42 (by decide) ?_
    refine tq_iadd rX12_isHill_43 ?_
    obtain ⟨g5, hf⟩ := tq_chk hf
    refine ty_iald (v := 4016) rX12_isHill_44 (hp_12_0 h0).2.1 (hp_12_0 h0).2.2 rfl (by decide) g5 ?_
    refine ty_putI rX12_isHill_45 f_X12_151 rfl h0 rfl ?_
    refine tq_iconst (1 : Int32) rX12_isHill_48 (by decide) ?_
    refine ty_zret (ty := .boolean) rX12_isHill_49 rfl rfl rfl ?_
    have hf := Option.some.inj hf
    subst hf
    exact ⟨rfl, rfl, rfl⟩
  · rw [if_pos c2] at hf
    refine tq_iconst (0 : Int32) rX12_isHill_9 (by decide) ?_
    refine ty_zret (ty := .boolean) rX12_isHill_10 rfl rfl rfl ?_
    have hf := Option.some.inj hf
    subst hf
    exact ⟨rfl, rfl, rfl⟩

abbrev mX12_isCell : tq_M := (yX12_isCell, cX12_isCell, 2, (Option.some Jvm.ClassFile.FieldType.boolean), 0, 0)
theorem rX12_isCell_0 : tq_D cX12_isCell 0 (.iload_n 1) 1 1 := ⟨by decide +kernel, rfl⟩
theorem rX12_isCell_1 : tq_D cX12_isCell 1 (.iconst 0) 1 2 := ⟨by decide +kernel, rfl⟩
theorem rX12_isCell_2 : tq_D cX12_isCell 2 (.aload_n 0) 1 3 := ⟨by decide +kernel, rfl⟩
theorem rX12_isCell_3 : tq_D cX12_isCell 3 (.invokevirtual 190) 3 6 := ⟨by decide +kernel, rfl⟩
theorem rX12_isCell_6 : tq_D cX12_isCell 6 (.iconst 1) 1 7 := ⟨by decide +kernel, rfl⟩
theorem rX12_isCell_7 : tq_D cX12_isCell 7 (.isub) 1 8 := ⟨by decide +kernel, rfl⟩
theorem rX12_isCell_8 : tq_D cX12_isCell 8 (.invokestatic 118) 3 11 := ⟨by decide +kernel, rfl⟩
theorem rX12_isCell_11 : decode cX12_isCell 11 = .ok (.ireturn, 1) := by decide +kernel
noncomputable def FX12_isCell (I : tq_PI) (L : tq_PL) (a0 : Nat) (a1 : Int32) : Bool :=
  (tq_let (FX12_many I L a0) fun p1 => (tq_let (FX12_isIn I L a1 ((0 : Int32)) ((p1 - (1 : Int32)))) fun p2 => p2))
set_option maxRecDepth 100000 in
set_option maxHeartbeats 4000000 in
theorem CX12_isCell {S : Nat × (Nat → Int32)} {d : Nat} {I : tq_PI} {L : tq_PL} {a0 : Nat} {a1 : Int32} (h0 : tq_sh0 a0 = 12) {out : Bool} (hf : FX12_isCell I L a0 a1 = out) : tq_K S mX12_isCell (d + 1) [.ref a0, .int a1] I L (tq_one2 (some (.int (tq_b out))) I L) := by
  unfold FX12_isCell at hf
  refine tq_K_of (by decide) (Nat.le_of_ble_eq_true rfl) (ls := [.ref a0, .int a1]) rfl ?_
  refine tq_iload_n rX12_isCell_0 rfl ?_
  refine tq_iconst (0 : Int32) rX12_isCell_1 (by decide) ?_
  refine tq_aload_n rX12_isCell_2 rfl ?_
  obtain ⟨p1, e1, hf⟩ := tq_let_elim hf
  refine ty_callVI p1 ([]) ([.int (0 : Int32), .int a1]) rX12_isCell_3 l_X12_190 moX12_many mvX12_many h0 rfl rfl (Nat.le_of_ble_eq_true rfl) ⟨rfl, rfl⟩ (CX12_many h0 e1) ?_
  refine tq_iconst (1 : Int32) rX12_isCell_6 (by decide) ?_
  refine tq_isub rX12_isCell_7 ?_
  obtain ⟨p2, e2, hf⟩ := tq_let_elim hf
  refine ty_callSI (tq_b p2) ([.int a1, .int (0 : Int32), .int (p1 - (1 : Int32))]) ([]) rX12_isCell_8 l_X12_118 moX12_isIn msX12_isIn rfl rfl (Nat.le_of_ble_eq_true rfl) ⟨rfl, rfl⟩ (CX12_isIn  e2) ?_
  refine ty_zret (ty := .boolean) rX12_isCell_11 rfl (tq_fitZ (tq_b01 _)).1 rfl ?_
  subst hf
  exact ⟨rfl, rfl, rfl⟩

abbrev mX12_asTold : tq_M := (yX12_asTold, cX12_asTold, 2, (Option.none : Option Jvm.ClassFile.FieldType), 0, 0)
theorem rX12_asTold_0 : tq_D cX12_asTold 0 (.iconst 0) 1 1 := ⟨by decide +kernel, rfl⟩
theorem rX12_asTold_1 : tq_D cX12_asTold 1 (.istore_n 1) 1 2 := ⟨by decide +kernel, rfl⟩
theorem rX12_asTold_2 : tq_D cX12_asTold 2 (.iload_n 1) 1 3 := ⟨by decide +kernel, rfl⟩
theorem rX12_asTold_3 : tq_D cX12_asTold 3 (.bipush 48) 2 5 := ⟨by decide +kernel, rfl⟩
theorem rX12_asTold_5 : tq_J cX12_asTold 5 (.if_icmp .ge) 33 8 := ⟨28, by decide +kernel, by decide, rfl⟩
theorem rX12_asTold_8 : tq_D cX12_asTold 8 (.aload_n 0) 1 9 := ⟨by decide +kernel, rfl⟩
theorem rX12_asTold_9 : tq_D cX12_asTold 9 (.getfield 20) 3 12 := ⟨by decide +kernel, rfl⟩
theorem rX12_asTold_12 : tq_D cX12_asTold 12 (.iload_n 1) 1 13 := ⟨by decide +kernel, rfl⟩
theorem rX12_asTold_13 : tq_D cX12_asTold 13 (.aload_n 0) 1 14 := ⟨by decide +kernel, rfl⟩
theorem rX12_asTold_14 : tq_D cX12_asTold 14 (.getfield 7) 3 17 := ⟨by decide +kernel, rfl⟩
theorem rX12_asTold_17 : tq_D cX12_asTold 17 (.aload_n 0) 1 18 := ⟨by decide +kernel, rfl⟩
theorem rX12_asTold_18 : tq_D cX12_asTold 18 (.getfield 187) 3 21 := ⟨by decide +kernel, rfl⟩
theorem rX12_asTold_21 : tq_D cX12_asTold 21 (.iconst 2) 1 22 := ⟨by decide +kernel, rfl⟩
theorem rX12_asTold_22 : tq_D cX12_asTold 22 (.iadd) 1 23 := ⟨by decide +kernel, rfl⟩
theorem rX12_asTold_23 : tq_D cX12_asTold 23 (.iload_n 1) 1 24 := ⟨by decide +kernel, rfl⟩
theorem rX12_asTold_24 : tq_D cX12_asTold 24 (.iadd) 1 25 := ⟨by decide +kernel, rfl⟩
theorem rX12_asTold_25 : tq_D cX12_asTold 25 (.iaload) 1 26 := ⟨by decide +kernel, rfl⟩
theorem rX12_asTold_26 : tq_D cX12_asTold 26 (.iastore) 1 27 := ⟨by decide +kernel, rfl⟩
theorem rX12_asTold_27 : tq_D cX12_asTold 27 (.iinc 1 1) 3 30 := ⟨by decide +kernel, rfl⟩
theorem rX12_asTold_30 : tq_J cX12_asTold 30 .goto 2 33 := ⟨(-28), by decide +kernel, by decide, rfl⟩
theorem rX12_asTold_33 : decode cX12_asTold 33 = .ok (.return_, 1) := by decide +kernel
noncomputable def FX12_asTold_s2 (I : tq_PI) (L : tq_PL) (a0 : Nat) (a1 : Int32) : Option ((Int32 × tq_PI) ⊕ (tq_PI)) :=
  (if (48 : Int32) ≤ a1 then some (.inr I) else (if 0 ≤ (((I a0 12) + (2 : Int32)) + a1) ∧ (((I a0 12) + (2 : Int32)) + a1) < 4016 then (if 0 ≤ a1 ∧ a1 < 192 then some (.inl ((a1 + 1), (tq_up2 I (tq_rg a0 15) a1.toNatClampNeg (I (tq_rg a0 0) ((((I a0 12) + (2 : Int32)) + a1)).toNatClampNeg)))) else none) else none))
noncomputable def FX12_asTold (I : tq_PI) (L : tq_PL) (a0 : Nat) : Option (tq_PI) :=
  ((tq_it (fun p : Int32 × tq_PI => FX12_asTold_s2 p.2 L a0 p.1) tq_N ((0 : Int32), I)).bind fun p4 => some p4)
set_option maxRecDepth 100000 in
set_option maxHeartbeats 4000000 in
theorem FX12_asTold_s2_x {S : Nat × (Nat → Int32)} {d : Nat} {I : tq_PI} {L : tq_PL} {a0 : Nat} {a1 : Int32} (h0 : tq_sh0 a0 = 12) {q0 : Option Value → tq_PI → tq_PL → Prop} {out : (Int32 × tq_PI) ⊕ (tq_PI)} (hf : FX12_asTold_s2 I L a0 a1 = some out) (hk : Sum.elim (fun p : Int32 × tq_PI => tq_X S mX12_asTold d tq_k0 2 ([.ref a0, .int p.1]) [] (tq_st p.2 L) (tq_Q q0)) (fun p : tq_PI => tq_X S mX12_asTold d tq_k0 33 ([tq_u, tq_u]) [] (tq_st p L) (tq_Q q0)) out) : tq_X S mX12_asTold d tq_k0 2 ([.ref a0, .int a1]) [] (tq_st I L) (tq_Q q0) := by
  unfold FX12_asTold_s2 at hf
  refine tq_iload_n rX12_asTold_2 rfl ?_
  refine tq_bipush (48 : Int32) rX12_asTold_3 (by decide) ?_
  refine tq_icmp_ge rX12_asTold_5 (fun c1 => ?_) (fun c1 => ?_)
  · rw [if_pos c1] at hf
    have hf := Option.some.inj hf
    subst hf
    exact tq_forget _ (tq_le_u (tq_le_u tq_le_n)) hk
  · rw [if_neg c1] at hf
    refine tq_aload_n rX12_asTold_8 rfl ?_
    refine ty_getR rX12_asTold_9 f_X12_20 rfl h0 (hp_12_15 h0).1 ?_
    refine tq_iload_n rX12_asTold_12 rfl ?_
    refine tq_aload_n rX12_asTold_13 rfl ?_
    refine ty_getR rX12_asTold_14 f_X12_7 rfl h0 (hp_12_0 h0).1 ?_
    refine tq_aload_n rX12_asTold_17 rfl ?_
    refine ty_getI rX12_asTold_18 f_X12_187 rfl h0 ?_
    refine tq_iconst (2 : Int32) rX12_asTold_21 (by decide) ?_
    refine tq_iadd rX12_asTold_22 ?_
    refine tq_iload_n rX12_asTold_23 rfl ?_
    refine tq_iadd rX12_asTold_24 ?_
    obtain ⟨g2, hf⟩ := tq_chk hf
    refine ty_iald (v := 4016) rX12_asTold_25 (hp_12_0 h0).2.1 (hp_12_0 h0).2.2 rfl (by decide) g2 ?_
    obtain ⟨g3, hf⟩ := tq_chk hf
    refine ty_iast (v := 192) rX12_asTold_26 (hp_12_15 h0).2.1 (hp_12_15 h0).2.2 rfl (by decide) g3 ?_
    refine tq_iinc (a1 + 1) ([.ref a0, .int (a1 + 1)]) rX12_asTold_27 rfl (tq_inc (by decide)) (Nat.le_of_ble_eq_true rfl) rfl ?_
    refine tq_goto rX12_asTold_30 ?_
    have hf := Option.some.inj hf
    subst hf
    exact tq_forget _ (tq_le_s (tq_le_s tq_le_n)) hk

set_option maxRecDepth 100000 in
set_option maxHeartbeats 4000000 in
theorem CX12_asTold {S : Nat × (Nat → Int32)} {d : Nat} {I : tq_PI} {L : tq_PL} {a0 : Nat} (h0 : tq_sh0 a0 = 12) {out : tq_PI} (hf : FX12_asTold I L a0 = some out) : tq_K S mX12_asTold d [.ref a0] I L (tq_one2 (none) out L) := by
  unfold FX12_asTold at hf
  refine tq_K_of (by decide) (Nat.le_of_ble_eq_true rfl) (ls := [.ref a0, tq_u]) rfl ?_
  refine tq_iconst (0 : Int32) rX12_asTold_0 (by decide) ?_
  refine tq_istore_n ([.ref a0, .int (0 : Int32)]) rX12_asTold_1 (Nat.le_of_ble_eq_true rfl) rfl ?_
  obtain ⟨p4, e4, hf⟩ := Option.bind_eq_some_iff.mp hf
  refine tq_forget _ (tq_le_s (tq_le_s tq_le_n)) ?_
  refine tq_it_elim (P := fun p : Int32 × tq_PI => tq_X S mX12_asTold d tq_k0 2 ([.ref a0, .int p.1]) [] (tq_st p.2 L) (tq_Q (tq_one2 (none) out L))) (R := fun p : tq_PI => tq_X S mX12_asTold d tq_k0 33 ([tq_u, tq_u]) [] (tq_st p L) (tq_Q (tq_one2 (none) out L))) (fun p o hp hk => FX12_asTold_s2_x  h0 hp hk) _ (((0 : Int32), I)) _ e4 ?_
  show tq_X _ _ _ _ _ _ _ _ _
  refine ty_vret rX12_asTold_33 rfl rfl ?_
  have hf := Option.some.inj hf
  subst hf
  exact ⟨rfl, rfl, rfl⟩

abbrev mX12_isStone : tq_M := (yX12_isStone, cX12_isStone, 1, (Option.some Jvm.ClassFile.FieldType.boolean), 0, 0)
theorem rX12_isStone_0 : tq_D cX12_isStone 0 (.iload_n 0) 1 1 := ⟨by decide +kernel, rfl⟩
theorem rX12_isStone_1 : tq_D cX12_isStone 1 (.iconst 1) 1 2 := ⟨by decide +kernel, rfl⟩
theorem rX12_isStone_2 : tq_J cX12_isStone 2 (.if_icmp .lt) 14 5 := ⟨12, by decide +kernel, by decide, rfl⟩
theorem rX12_isStone_5 : tq_D cX12_isStone 5 (.iload_n 0) 1 6 := ⟨by decide +kernel, rfl⟩
theorem rX12_isStone_6 : tq_D cX12_isStone 6 (.iconst 3) 1 7 := ⟨by decide +kernel, rfl⟩
theorem rX12_isStone_7 : tq_J cX12_isStone 7 (.if_icmp .gt) 14 10 := ⟨7, by decide +kernel, by decide, rfl⟩
theorem rX12_isStone_10 : tq_D cX12_isStone 10 (.iconst 1) 1 11 := ⟨by decide +kernel, rfl⟩
theorem rX12_isStone_11 : tq_J cX12_isStone 11 .goto 15 14 := ⟨4, by decide +kernel, by decide, rfl⟩
theorem rX12_isStone_14 : tq_D cX12_isStone 14 (.iconst 0) 1 15 := ⟨by decide +kernel, rfl⟩
theorem rX12_isStone_15 : decode cX12_isStone 15 = .ok (.ireturn, 1) := by decide +kernel
noncomputable def FX12_isStone_j14 (I : tq_PI) (L : tq_PL)  : Bool :=
  false
noncomputable def FX12_isStone (I : tq_PI) (L : tq_PL) (a0 : Int32) : Bool :=
  (if a0 < (1 : Int32) then (FX12_isStone_j14 I L ) else (if (3 : Int32) < a0 then (FX12_isStone_j14 I L ) else true))
set_option maxRecDepth 100000 in
set_option maxHeartbeats 4000000 in
theorem FX12_isStone_j14_x {S : Nat × (Nat → Int32)} {d : Nat} {I : tq_PI} {L : tq_PL}   {q0 : Option Value → tq_PI → tq_PL → Prop} {out : Bool} (hf : FX12_isStone_j14 I L = out) (hk : q0 (some (.int (tq_b out))) I L) : tq_X S mX12_isStone d tq_k0 14 ([tq_u]) ([]) (tq_st I L) (tq_Q q0) := by
  unfold FX12_isStone_j14 at hf
  refine tq_iconst (0 : Int32) rX12_isStone_14 (by decide) ?_
  refine ty_zret (ty := .boolean) rX12_isStone_15 rfl rfl rfl ?_
  subst hf
  exact hk

set_option maxRecDepth 100000 in
set_option maxHeartbeats 4000000 in
theorem CX12_isStone {S : Nat × (Nat → Int32)} {d : Nat} {I : tq_PI} {L : tq_PL} {a0 : Int32}  {out : Bool} (hf : FX12_isStone I L a0 = out) : tq_K S mX12_isStone d [.int a0] I L (tq_one2 (some (.int (tq_b out))) I L) := by
  unfold FX12_isStone at hf
  refine tq_K_of (by decide) (Nat.le_of_ble_eq_true rfl) (ls := [.int a0]) rfl ?_
  refine tq_iload_n rX12_isStone_0 rfl ?_
  refine tq_iconst (1 : Int32) rX12_isStone_1 (by decide) ?_
  refine tq_icmp_lt rX12_isStone_2 (fun c1 => ?_) (fun c1 => ?_)
  · rw [if_pos c1] at hf
    exact tq_forget _ (tq_le_u tq_le_n) (FX12_isStone_j14_x   hf ⟨rfl, rfl, rfl⟩)
  · rw [if_neg c1] at hf
    refine tq_iload_n rX12_isStone_5 rfl ?_
    refine tq_iconst (3 : Int32) rX12_isStone_6 (by decide) ?_
    refine tq_icmp_gt rX12_isStone_7 (fun c2 => ?_) (fun c2 => ?_)
    · rw [if_pos c2] at hf
      exact tq_forget _ (tq_le_u tq_le_n) (FX12_isStone_j14_x   hf ⟨rfl, rfl, rfl⟩)
    · rw [if_neg c2] at hf
      refine tq_iconst (1 : Int32) rX12_isStone_10 (by decide) ?_
      refine tq_goto rX12_isStone_11 ?_
      refine ty_zret (ty := .boolean) rX12_isStone_15 rfl rfl rfl ?_
      subst hf
      exact ⟨rfl, rfl, rfl⟩

abbrev mX12_worthOf : tq_M := (yX12_worthOf, cX12_worthOf, 1, (Option.some Jvm.ClassFile.FieldType.int), 0, 0)
theorem rX12_worthOf_0 : tq_D cX12_worthOf 0 (.iload_n 0) 1 1 := ⟨by decide +kernel, rfl⟩
theorem rX12_worthOf_1 : tq_D cX12_worthOf 1 (.iconst 1) 1 2 := ⟨by decide +kernel, rfl⟩
theorem rX12_worthOf_2 : tq_J cX12_worthOf 2 (.if_icmp .ne) 9 5 := ⟨7, by decide +kernel, by decide, rfl⟩
theorem rX12_worthOf_5 : tq_D cX12_worthOf 5 (.iconst 1) 1 6 := ⟨by decide +kernel, rfl⟩
theorem rX12_worthOf_6 : tq_J cX12_worthOf 6 .goto 28 9 := ⟨22, by decide +kernel, by decide, rfl⟩
theorem rX12_worthOf_9 : tq_D cX12_worthOf 9 (.iload_n 0) 1 10 := ⟨by decide +kernel, rfl⟩
theorem rX12_worthOf_10 : tq_D cX12_worthOf 10 (.iconst 2) 1 11 := ⟨by decide +kernel, rfl⟩
theorem rX12_worthOf_11 : tq_J cX12_worthOf 11 (.if_icmp .ne) 18 14 := ⟨7, by decide +kernel, by decide, rfl⟩
theorem rX12_worthOf_14 : tq_D cX12_worthOf 14 (.iconst 4) 1 15 := ⟨by decide +kernel, rfl⟩
theorem rX12_worthOf_15 : tq_J cX12_worthOf 15 .goto 28 18 := ⟨13, by decide +kernel, by decide, rfl⟩
theorem rX12_worthOf_18 : tq_D cX12_worthOf 18 (.iload_n 0) 1 19 := ⟨by decide +kernel, rfl⟩
theorem rX12_worthOf_19 : tq_D cX12_worthOf 19 (.iconst 3) 1 20 := ⟨by decide +kernel, rfl⟩
theorem rX12_worthOf_20 : tq_J cX12_worthOf 20 (.if_icmp .ne) 27 23 := ⟨7, by decide +kernel, by decide, rfl⟩
theorem rX12_worthOf_23 : tq_D cX12_worthOf 23 (.iconst 2) 1 24 := ⟨by decide +kernel, rfl⟩
theorem rX12_worthOf_24 : tq_J cX12_worthOf 24 .goto 28 27 := ⟨4, by decide +kernel, by decide, rfl⟩
theorem rX12_worthOf_27 : tq_D cX12_worthOf 27 (.iconst 0) 1 28 := ⟨by decide +kernel, rfl⟩
theorem rX12_worthOf_28 : decode cX12_worthOf 28 = .ok (.ireturn, 1) := by decide +kernel
noncomputable def FX12_worthOf (I : tq_PI) (L : tq_PL) (a0 : Int32) : Int32 :=
  (if a0 = (1 : Int32) then (1 : Int32) else (if a0 = (2 : Int32) then (4 : Int32) else (if a0 = (3 : Int32) then (2 : Int32) else (0 : Int32))))
set_option maxRecDepth 100000 in
set_option maxHeartbeats 4000000 in
theorem CX12_worthOf {S : Nat × (Nat → Int32)} {d : Nat} {I : tq_PI} {L : tq_PL} {a0 : Int32}  {out : Int32} (hf : FX12_worthOf I L a0 = out) : tq_K S mX12_worthOf d [.int a0] I L (tq_one2 (some (.int out)) I L) := by
  unfold FX12_worthOf at hf
  refine tq_K_of (by decide) (Nat.le_of_ble_eq_true rfl) (ls := [.int a0]) rfl ?_
  refine tq_iload_n rX12_worthOf_0 rfl ?_
  refine tq_iconst (1 : Int32) rX12_worthOf_1 (by decide) ?_
  refine tq_icmp_ne rX12_worthOf_2 (fun c1 => ?_) (fun c1 => ?_)
  · rw [if_neg c1] at hf
    refine tq_iload_n rX12_worthOf_9 rfl ?_
    refine tq_iconst (2 : Int32) rX12_worthOf_10 (by decide) ?_
    refine tq_icmp_ne rX12_worthOf_11 (fun c2 => ?_) (fun c2 => ?_)
    · rw [if_neg c2] at hf
      refine tq_iload_n rX12_worthOf_18 rfl ?_
      refine tq_iconst (3 : Int32) rX12_worthOf_19 (by decide) ?_
      refine tq_icmp_ne rX12_worthOf_20 (fun c3 => ?_) (fun c3 => ?_)
      · rw [if_neg c3] at hf
        refine tq_iconst (0 : Int32) rX12_worthOf_27 (by decide) ?_
        refine ty_iret rX12_worthOf_28 rfl rfl ?_
        subst hf
        exact ⟨rfl, rfl, rfl⟩
      · rw [if_pos c3] at hf
        refine tq_iconst (2 : Int32) rX12_worthOf_23 (by decide) ?_
        refine tq_goto rX12_worthOf_24 ?_
        refine ty_iret rX12_worthOf_28 rfl rfl ?_
        subst hf
        exact ⟨rfl, rfl, rfl⟩
    · rw [if_pos c2] at hf
      refine tq_iconst (4 : Int32) rX12_worthOf_14 (by decide) ?_
      refine tq_goto rX12_worthOf_15 ?_
      refine ty_iret rX12_worthOf_28 rfl rfl ?_
      subst hf
      exact ⟨rfl, rfl, rfl⟩
  · rw [if_pos c1] at hf
    refine tq_iconst (1 : Int32) rX12_worthOf_5 (by decide) ?_
    refine tq_goto rX12_worthOf_6 ?_
    refine ty_iret rX12_worthOf_28 rfl rfl ?_
    subst hf
    exact ⟨rfl, rfl, rfl⟩

abbrev mX12_blowsOf : tq_M := (yX12_blowsOf, cX12_blowsOf, 1, (Option.some Jvm.ClassFile.FieldType.int), 0, 0)
theorem rX12_blowsOf_0 : tq_D cX12_blowsOf 0 (.iload_n 0) 1 1 := ⟨by decide +kernel, rfl⟩
theorem rX12_blowsOf_1 : decode cX12_blowsOf 1 = .ok (.ireturn, 1) := by decide +kernel
noncomputable def FX12_blowsOf (I : tq_PI) (L : tq_PL) (a0 : Int32) : Int32 :=
  a0
set_option maxRecDepth 100000 in
set_option maxHeartbeats 4000000 in
theorem CX12_blowsOf {S : Nat × (Nat → Int32)} {d : Nat} {I : tq_PI} {L : tq_PL} {a0 : Int32}  {out : Int32} (hf : FX12_blowsOf I L a0 = out) : tq_K S mX12_blowsOf d [.int a0] I L (tq_one2 (some (.int out)) I L) := by
  unfold FX12_blowsOf at hf
  refine tq_K_of (by decide) (Nat.le_of_ble_eq_true rfl) (ls := [.int a0]) rfl ?_
  refine tq_iload_n rX12_blowsOf_0 rfl ?_
  refine ty_iret rX12_blowsOf_1 rfl rfl ?_
  subst hf
  exact ⟨rfl, rfl, rfl⟩

abbrev mX12_falls : tq_M := (yX12_falls, cX12_falls, 4, (Option.some Jvm.ClassFile.FieldType.int), 0, 0)
theorem rX12_falls_0 : tq_D cX12_falls 0 (.iconst 0) 1 1 := ⟨by decide +kernel, rfl⟩
theorem rX12_falls_1 : tq_D cX12_falls 1 (.istore_n 2) 1 2 := ⟨by decide +kernel, rfl⟩
theorem rX12_falls_2 : tq_D cX12_falls 2 (.aload_n 0) 1 3 := ⟨by decide +kernel, rfl⟩
theorem rX12_falls_3 : tq_D cX12_falls 3 (.iload_n 1) 1 4 := ⟨by decide +kernel, rfl⟩
theorem rX12_falls_4 : tq_D cX12_falls 4 (.invokevirtual 154) 3 7 := ⟨by decide +kernel, rfl⟩
theorem rX12_falls_7 : tq_D cX12_falls 7 (.istore_n 3) 1 8 := ⟨by decide +kernel, rfl⟩
theorem rX12_falls_8 : tq_D cX12_falls 8 (.iload_n 3) 1 9 := ⟨by decide +kernel, rfl⟩
theorem rX12_falls_9 : tq_D cX12_falls 9 (.iconst (-1)) 1 10 := ⟨by decide +kernel, rfl⟩
theorem rX12_falls_10 : tq_J cX12_falls 10 (.if_icmp .eq) 37 13 := ⟨27, by decide +kernel, by decide, rfl⟩
theorem rX12_falls_13 : tq_D cX12_falls 13 (.aload_n 0) 1 14 := ⟨by decide +kernel, rfl⟩
theorem rX12_falls_14 : tq_D cX12_falls 14 (.getfield 20) 3 17 := ⟨by decide +kernel, rfl⟩
theorem rX12_falls_17 : tq_D cX12_falls 17 (.bipush 48) 2 19 := ⟨by decide +kernel, rfl⟩
theorem rX12_falls_19 : tq_D cX12_falls 19 (.iload_n 1) 1 20 := ⟨by decide +kernel, rfl⟩
theorem rX12_falls_20 : tq_D cX12_falls 20 (.imul) 1 21 := ⟨by decide +kernel, rfl⟩
theorem rX12_falls_21 : tq_D cX12_falls 21 (.iload_n 3) 1 22 := ⟨by decide +kernel, rfl⟩
theorem rX12_falls_22 : tq_D cX12_falls 22 (.iadd) 1 23 := ⟨by decide +kernel, rfl⟩
theorem rX12_falls_23 : tq_D cX12_falls 23 (.iconst 0) 1 24 := ⟨by decide +kernel, rfl⟩
theorem rX12_falls_24 : tq_D cX12_falls 24 (.iastore) 1 25 := ⟨by decide +kernel, rfl⟩
theorem rX12_falls_25 : tq_D cX12_falls 25 (.iinc 2 1) 3 28 := ⟨by decide +kernel, rfl⟩
theorem rX12_falls_28 : tq_D cX12_falls 28 (.aload_n 0) 1 29 := ⟨by decide +kernel, rfl⟩
theorem rX12_falls_29 : tq_D cX12_falls 29 (.iload_n 1) 1 30 := ⟨by decide +kernel, rfl⟩
theorem rX12_falls_30 : tq_D cX12_falls 30 (.invokevirtual 154) 3 33 := ⟨by decide +kernel, rfl⟩
theorem rX12_falls_33 : tq_D cX12_falls 33 (.istore_n 3) 1 34 := ⟨by decide +kernel, rfl⟩
theorem rX12_falls_34 : tq_J cX12_falls 34 .goto 8 37 := ⟨(-26), by decide +kernel, by decide, rfl⟩
theorem rX12_falls_37 : tq_D cX12_falls 37 (.iload_n 2) 1 38 := ⟨by decide +kernel, rfl⟩
theorem rX12_falls_38 : decode cX12_falls 38 = .ok (.ireturn, 1) := by decide +kernel
noncomputable def FX12_falls_s8 (I : tq_PI) (L : tq_PL) (a0 : Nat) (a1 : Int32) (a2 : Int32) (a3 : Int32) : Option ((Int32 × Int32 × tq_PI) ⊕ (Int32 × tq_PI)) :=
  (if a3 = (-1 : Int32) then some (.inr (a2, I)) else (if 0 ≤ (((48 : Int32) * a1) + a3) ∧ (((48 : Int32) * a1) + a3) < 192 then ((FX12_firstThatFalls ((tq_up2 I (tq_rg a0 15) ((((48 : Int32) * a1) + a3)).toNatClampNeg (0 : Int32))) L a0 a1).bind fun p4 => some (.inl ((a2 + 1), p4, (tq_up2 I (tq_rg a0 15) ((((48 : Int32) * a1) + a3)).toNatClampNeg (0 : Int32))))) else none))
noncomputable def FX12_falls (I : tq_PI) (L : tq_PL) (a0 : Nat) (a1 : Int32) : Option (Int32 × tq_PI) :=
  ((FX12_firstThatFalls I L a0 a1).bind fun p1 => ((tq_it (fun p : Int32 × Int32 × tq_PI => FX12_falls_s8 p.2.2 L a0 a1 p.1 p.2.1) tq_N ((0 : Int32), p1, I)).bind fun p5 => some (p5.1, p5.2)))
set_option maxRecDepth 100000 in
set_option maxHeartbeats 4000000 in
theorem FX12_falls_s8_x {S : Nat × (Nat → Int32)} {d : Nat} {I : tq_PI} {L : tq_PL} {a0 : Nat} {a1 : Int32} {a2 : Int32} {a3 : Int32} (h0 : tq_sh0 a0 = 12) {q0 : Option Value → tq_PI → tq_PL → Prop} {out : (Int32 × Int32 × tq_PI) ⊕ (Int32 × tq_PI)} (hf : FX12_falls_s8 I L a0 a1 a2 a3 = some out) (hk : Sum.elim (fun p : Int32 × Int32 × tq_PI => tq_X S mX12_falls (d + 3) tq_k0 8 ([.ref a0, .int a1, .int p.1, .int p.2.1]) [] (tq_st p.2.2 L) (tq_Q q0)) (fun p : Int32 × tq_PI => tq_X S mX12_falls (d + 3) tq_k0 37 ([tq_u, tq_u, .int p.1, tq_u]) [] (tq_st p.2 L) (tq_Q q0)) out) : tq_X S mX12_falls (d + 3) tq_k0 8 ([.ref a0, .int a1, .int a2, .int a3]) [] (tq_st I L) (tq_Q q0) := by
  unfold FX12_falls_s8 at hf
  refine tq_iload_n rX12_falls_8 rfl ?_
  refine tq_iconst (-1 : Int32) rX12_falls_9 (by decide) ?_
  refine tq_icmp_eq rX12_falls_10 (fun c2 => ?_) (fun c2 => ?_)
  · rw [if_pos c2] at hf
    have hf := Option.some.inj hf
    subst hf
    exact tq_forget _ (tq_le_u (tq_le_u (tq_le_s (tq_le_u tq_le_n)))) hk
  · rw [if_neg c2] at hf
    refine tq_aload_n rX12_falls_13 rfl ?_
    refine ty_getR rX12_falls_14 f_X12_20 rfl h0 (hp_12_15 h0).1 ?_
    refine tq_bipush (48 : Int32) rX12_falls_17 (by decide) ?_
    refine tq_iload_n rX12_falls_19 rfl ?_
    refine tq_imul rX12_falls_20 ?_
    refine tq_iload_n rX12_falls_21 rfl ?_
    refine tq_iadd rX12_falls_22 ?_
    refine tq_iconst (0 : Int32) rX12_falls_23 (by decide) ?_
    obtain ⟨g3, hf⟩ := tq_chk hf
    refine ty_iast (v := 192) rX12_falls_24 (hp_12_15 h0).2.1 (hp_12_15 h0).2.2 rfl (by decide) g3 ?_
    refine tq_iinc (a2 + 1) ([.ref a0, .int a1, .int (a2 + 1), .int a3]) rX12_falls_25 rfl (tq_inc (by decide)) (Nat.le_of_ble_eq_true rfl) rfl ?_
    refine tq_aload_n rX12_falls_28 rfl ?_
    refine tq_iload_n rX12_falls_29 rfl ?_
    obtain ⟨p4, e4, hf⟩ := Option.bind_eq_some_iff.mp hf
    refine ty_callVI p4 ([.int a1]) ([]) rX12_falls_30 l_X12_154 moX12_firstThatFalls mvX12_firstThatFalls h0 rfl rfl (Nat.le_of_ble_eq_true rfl) ⟨rfl, rfl⟩ (CX12_firstThatFalls h0 e4) ?_
    refine tq_istore_n ([.ref a0, .int a1, .int (a2 + 1), .int p4]) rX12_falls_33 (Nat.le_of_ble_eq_true rfl) rfl ?_
    refine tq_goto rX12_falls_34 ?_
    have hf := Option.some.inj hf
    subst hf
    exact tq_forget _ (tq_le_s (tq_le_s (tq_le_s (tq_le_s tq_le_n)))) hk

set_option maxRecDepth 100000 in
set_option maxHeartbeats 4000000 in
theorem CX12_falls {S : Nat × (Nat → Int32)} {d : Nat} {I : tq_PI} {L : tq_PL} {a0 : Nat} {a1 : Int32} (h0 : tq_sh0 a0 = 12) {out : Int32 × tq_PI} (hf : FX12_falls I L a0 a1 = some out) : tq_K S mX12_falls (d + 3) [.ref a0, .int a1] I L (tq_one2 (some (.int out.1)) out.2 L) := by
  unfold FX12_falls at hf
  refine tq_K_of (by decide) (Nat.le_of_ble_eq_true rfl) (ls := [.ref a0, .int a1, tq_u, tq_u]) rfl ?_
  refine tq_iconst (0 : Int32) rX12_falls_0 (by decide) ?_
  refine tq_istore_n ([.ref a0, .int a1, .int (0 : Int32), tq_u]) rX12_falls_1 (Nat.le_of_ble_eq_true rfl) rfl ?_
  refine tq_aload_n rX12_falls_2 rfl ?_
  refine tq_iload_n rX12_falls_3 rfl ?_
  obtain ⟨p1, e1, hf⟩ := Option.bind_eq_some_iff.mp hf
  refine ty_callVI p1 ([.int a1]) ([]) rX12_falls_4 l_X12_154 moX12_firstThatFalls mvX12_firstThatFalls h0 rfl rfl (Nat.le_of_ble_eq_true rfl) ⟨rfl, rfl⟩ (CX12_firstThatFalls h0 e1) ?_
  refine tq_istore_n ([.ref a0, .int a1, .int (0 : Int32), .int p1]) rX12_falls_7 (Nat.le_of_ble_eq_true rfl) rfl ?_
  obtain ⟨p5, e5, hf⟩ := Option.bind_eq_some_iff.mp hf
  refine tq_forget _ (tq_le_s (tq_le_s (tq_le_s (tq_le_s tq_le_n)))) ?_
  refine tq_it_elim (P := fun p : Int32 × Int32 × tq_PI => tq_X S mX12_falls (d + 3) tq_k0 8 ([.ref a0, .int a1, .int p.1, .int p.2.1]) [] (tq_st p.2.2 L) (tq_Q (tq_one2 (some (.int out.1)) out.2 L))) (R := fun p : Int32 × tq_PI => tq_X S mX12_falls (d + 3) tq_k0 37 ([tq_u, tq_u, .int p.1, tq_u]) [] (tq_st p.2 L) (tq_Q (tq_one2 (some (.int out.1)) out.2 L))) (fun p o hp hk => FX12_falls_s8_x  h0 hp hk) _ (((0 : Int32), p1, I)) _ e5 ?_
  show tq_X _ _ _ _ _ _ _ _ _
  refine tq_iload_n rX12_falls_37 rfl ?_
  refine ty_iret rX12_falls_38 rfl rfl ?_
  have hf := Option.some.inj hf
  subst hf
  exact ⟨rfl, rfl, rfl⟩

