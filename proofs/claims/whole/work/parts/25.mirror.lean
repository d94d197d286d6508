/-! THE MIRROR, part 5: by program (wip/whole/gen_mirror.py). -/
abbrev mX11_hill : tq_M := (yX11_hill, cX11_hill, 4, (Option.some Jvm.ClassFile.FieldType.int), 0, 0)
theorem moX0_hillAt : tq_mok mX0_hillAt 1 := ⟨tq_sg1 _ (List.mem_of_getElem? (i := 2) rfl), tq_sg3 _ (List.mem_of_getElem? (i := 188) rfl), ⟨by decide, by decide, by decide +kernel⟩, by decide⟩
theorem mvX0_hillAt : 0 < 13 ∧ (tq_cl 0).1 = mX0_hillAt.1.cls ∧ Cond.instanceMethod mX0_hillAt.1 ∈ lw_tbl ∧ Cond.selects mX0_hillAt.1.cls mX0_hillAt.1 mX0_hillAt.1 ∈ lw_tbl := ⟨by decide, rfl, tq_sg3 _ (List.mem_of_getElem? (i := 186) rfl), tq_sg3 _ (List.mem_of_getElem? (i := 187) rfl)⟩
theorem f_X11_106 : tq_fok RX11 106 3 0 := ⟨by decide, by decide, Or.inr ⟨_, tq_sg1 _ (List.mem_of_getElem? (i := 49) rfl)⟩⟩
theorem f_X11_111 : tq_fok RX11 111 3 1 := ⟨by decide, by decide, Or.inr ⟨_, tq_sg1 _ (List.mem_of_getElem? (i := 51) rfl)⟩⟩
theorem l_X11_102 : tq_lok RX11 102 mX0_hillAt.1 := Or.inl (tq_sg3 _ (List.mem_of_getElem? (i := 185) rfl))
theorem l_X11_114 : tq_lok RX11 114 mX3_stones.1 := Or.inl (tq_sg3 _ (List.mem_of_getElem? (i := 190) rfl))
theorem l_X11_118 : tq_lok RX11 118 mJ13_bitCount_95d88.1 := Or.inl (tq_sg3 _ (List.mem_of_getElem? (i := 191) rfl))
theorem l_X11_124 : tq_lok RX11 124 mX3_worthOf.1 := Or.inl (tq_sg3 _ (List.mem_of_getElem? (i := 197) rfl))
theorem l_X11_127 : tq_lok RX11 127 mX3_kindOf.1 := Or.inl (tq_sg3 _ (List.mem_of_getElem? (i := 202) rfl))
theorem rX11_hill_0 : tq_D cX11_hill 0 (.aload_n 0) 1 1 := ⟨by decide +kernel, rfl⟩
theorem rX11_hill_1 : tq_D cX11_hill 1 (.getfield 10) 3 4 := ⟨by decide +kernel, rfl⟩
theorem rX11_hill_4 : tq_D cX11_hill 4 (.iload_n 1) 1 5 := ⟨by decide +kernel, rfl⟩
theorem rX11_hill_5 : tq_D cX11_hill 5 (.invokevirtual 102) 3 8 := ⟨by decide +kernel, rfl⟩
theorem rX11_hill_8 : tq_D cX11_hill 8 (.astore_n 3) 1 9 := ⟨by decide +kernel, rfl⟩
theorem rX11_hill_9 : tq_D cX11_hill 9 (.aload_n 3) 1 10 := ⟨by decide +kernel, rfl⟩
theorem rX11_hill_10 : tq_J cX11_hill 10 .ifnonnull 15 13 := ⟨5, by decide +kernel, by decide, rfl⟩
theorem rX11_hill_13 : tq_D cX11_hill 13 (.iconst (-1)) 1 14 := ⟨by decide +kernel, rfl⟩
theorem rX11_hill_14 : decode cX11_hill 14 = .ok (.ireturn, 1) := by decide +kernel
theorem rX11_hill_15 : tq_D cX11_hill 15 (.iload_n 2) 1 16 := ⟨by decide +kernel, rfl⟩
theorem rX11_hill_16 : decode cX11_hill 16 = .ok (.tableswitch 59 0 3 #[32, 37, 42, 50], 32) := by decide +kernel
theorem rX11_hill_48 : tq_D cX11_hill 48 (.aload_n 3) 1 49 := ⟨by decide +kernel, rfl⟩
theorem rX11_hill_49 : tq_D cX11_hill 49 (.getfield 106) 3 52 := ⟨by decide +kernel, rfl⟩
theorem rX11_hill_52 : decode cX11_hill 52 = .ok (.ireturn, 1) := by decide +kernel
theorem rX11_hill_53 : tq_D cX11_hill 53 (.aload_n 3) 1 54 := ⟨by decide +kernel, rfl⟩
theorem rX11_hill_54 : tq_D cX11_hill 54 (.getfield 111) 3 57 := ⟨by decide +kernel, rfl⟩
theorem rX11_hill_57 : decode cX11_hill 57 = .ok (.ireturn, 1) := by decide +kernel
theorem rX11_hill_58 : tq_D cX11_hill 58 (.aload_n 3) 1 59 := ⟨by decide +kernel, rfl⟩
theorem rX11_hill_59 : tq_D cX11_hill 59 (.invokevirtual 114) 3 62 := ⟨by decide +kernel, rfl⟩
theorem rX11_hill_62 : tq_D cX11_hill 62 (.invokestatic 118) 3 65 := ⟨by decide +kernel, rfl⟩
theorem rX11_hill_65 : decode cX11_hill 65 = .ok (.ireturn, 1) := by decide +kernel
theorem rX11_hill_66 : tq_D cX11_hill 66 (.aload_n 3) 1 67 := ⟨by decide +kernel, rfl⟩
theorem rX11_hill_67 : tq_D cX11_hill 67 (.aload_n 3) 1 68 := ⟨by decide +kernel, rfl⟩
theorem rX11_hill_68 : tq_D cX11_hill 68 (.invokevirtual 114) 3 71 := ⟨by decide +kernel, rfl⟩
theorem rX11_hill_71 : tq_D cX11_hill 71 (.invokevirtual 124) 3 74 := ⟨by decide +kernel, rfl⟩
theorem rX11_hill_74 : decode cX11_hill 74 = .ok (.ireturn, 1) := by decide +kernel
theorem rX11_hill_75 : tq_D cX11_hill 75 (.iload_n 2) 1 76 := ⟨by decide +kernel, rfl⟩
theorem rX11_hill_76 : tq_D cX11_hill 76 (.bipush 100) 2 78 := ⟨by decide +kernel, rfl⟩
theorem rX11_hill_78 : tq_J cX11_hill 78 (.if_icmp .ge) 85 81 := ⟨7, by decide +kernel, by decide, rfl⟩
theorem rX11_hill_81 : tq_D cX11_hill 81 (.iconst (-1)) 1 82 := ⟨by decide +kernel, rfl⟩
theorem rX11_hill_82 : tq_J cX11_hill 82 .goto 93 85 := ⟨11, by decide +kernel, by decide, rfl⟩
theorem rX11_hill_85 : tq_D cX11_hill 85 (.aload_n 3) 1 86 := ⟨by decide +kernel, rfl⟩
theorem rX11_hill_86 : tq_D cX11_hill 86 (.iload_n 2) 1 87 := ⟨by decide +kernel, rfl⟩
theorem rX11_hill_87 : tq_D cX11_hill 87 (.bipush 100) 2 89 := ⟨by decide +kernel, rfl⟩
theorem rX11_hill_89 : tq_D cX11_hill 89 (.isub) 1 90 := ⟨by decide +kernel, rfl⟩
theorem rX11_hill_90 : tq_D cX11_hill 90 (.invokevirtual 127) 3 93 := ⟨by decide +kernel, rfl⟩
theorem rX11_hill_93 : decode cX11_hill 93 = .ok (.ireturn, 1) := by decide +kernel
noncomputable def FX11_hill (I : tq_PI) (L : tq_PL) (a0 : Nat) (a1 : Int32) (a2 : Int32) : Option (Int32) :=
  ((FX0_hillAt I L ((tq_rg a0 0)) a1).bind fun p1 =>  (p1.elim (some (-1 : Int32)) (fun t2 => (if a2 = 0 then some (I t2 0) else (if a2 = 1 then some (I t2 1) else (if a2 = 2 then (tq_let (FX3_stones I L t2) fun p6 => (tq_let (FJ13_bitCount_95d88 I L p6) fun p7 => some p7)) else (if a2 = 3 then (tq_let (FX3_stones I L t2) fun p9 => (tq_let (FX3_worthOf I L t2 p9) fun p10 => some p10)) else (if (100 : Int32) ≤ a2 then ((FX3_kindOf I L t2 ((a2 - (100 : Int32)))).bind fun p12 => some p12) else some (-1 : Int32)))))))))
set_option maxRecDepth 100000 in
set_option maxHeartbeats 4000000 in
theorem CX11_hill {S : Nat × (Nat → Int32)} {d : Nat} {I : tq_PI} {L : tq_PL} {a0 : Nat} {a1 : Int32} {a2 : Int32} (h0 : tq_sh0 a0 = 11) {out : Int32} (hf : FX11_hill I L a0 a1 a2 = some out) : tq_K S mX11_hill (d + 3) [.ref a0, .int a1, .int a2] I L (tq_one2 (some (.int out)) I L) := by
  unfold FX11_hill at hf
  refine tq_K_of (by decide) (Nat.le_of_ble_eq_true rfl) (ls := [.ref a0, .int a1, .int a2, tq_u]) rfl ?_
  refine tq_aload_n rX11_hill_0 rfl ?_
  refine ty_getR rX11_hill_1 f_X11_10 rfl h0 (hp_11_0 h0).1 ?_
  refine tq_iload_n rX11_hill_4 rfl ?_
  obtain ⟨p1, e1, hf⟩ := Option.bind_eq_some_iff.mp hf
  refine ty_callVA p1 ([.int a1]) ([]) rX11_hill_5 l_X11_102 moX0_hillAt mvX0_hillAt (hp_11_0 h0).2.1 rfl rfl (Nat.le_of_ble_eq_true rfl) ⟨rfl, rfl⟩ (CX0_hillAt (hp_11_0 h0).2.1 e1) ?_
  rcases tq_oelim hf with ⟨t2q, hf⟩ | ⟨t2, t2q, hf⟩
  · rw [t2q]
    refine tq_astoreN_n ([.ref a0, .int a1, .int a2, .null]) rX11_hill_8 (Nat.le_of_ble_eq_true rfl) rfl ?_
    refine tq_aloadN_n rX11_hill_9 rfl ?_
    refine tq_ifnonnullN rX11_hill_10 ?_
    refine tq_iconst (-1 : Int32) rX11_hill_13 (by decide) ?_
    refine ty_iret rX11_hill_14 rfl rfl ?_
    have hf := Option.some.inj hf
    subst hf
    exact ⟨rfl, rfl, rfl⟩
  · have t2h := RX0_hillAt (hp_11_0 h0).2.1 e1 t2q
    rw [t2q]
    refine tq_astore_n ([.ref a0, .int a1, .int a2, .ref t2]) rX11_hill_8 (Nat.le_of_ble_eq_true rfl) rfl ?_
    refine tq_aload_n rX11_hill_9 rfl ?_
    refine tq_ifnonnullR rX11_hill_10 ?_
    refine tq_iload_n rX11_hill_15 rfl ?_
    by_cases c3 : a2 = 0
    · rw [if_pos c3] at hf
      refine tq_swIn (tgt := 48) 32 rX11_hill_16 (by rw [c3]; decide) (by rw [c3]; decide) (by rw [c3]; rfl) (by decide) ?_
      refine tq_aload_n rX11_hill_48 rfl ?_
      refine ty_getI rX11_hill_49 f_X11_106 rfl t2h ?_
      refine ty_iret rX11_hill_52 rfl rfl ?_
      have hf := Option.some.inj hf
      subst hf
      exact ⟨rfl, rfl, rfl⟩
    · rw [if_neg c3] at hf
      by_cases c4 : a2 = 1
      · rw [if_pos c4] at hf
        refine tq_swIn (tgt := 53) 37 rX11_hill_16 (by rw [c4]; decide) (by rw [c4]; decide) (by rw [c4]; rfl) (by decide) ?_
        refine tq_aload_n rX11_hill_53 rfl ?_
        refine ty_getI rX11_hill_54 f_X11_111 rfl t2h ?_
        refine ty_iret rX11_hill_57 rfl rfl ?_
        have hf := Option.some.inj hf
        subst hf
        exact ⟨rfl, rfl, rfl⟩
      · rw [if_neg c4] at hf
        by_cases c5 : a2 = 2
        · rw [if_pos c5] at hf
          refine tq_swIn (tgt := 58) 42 rX11_hill_16 (by rw [c5]; decide) (by rw [c5]; decide) (by rw [c5]; rfl) (by decide) ?_
          refine tq_aload_n rX11_hill_58 rfl ?_
          obtain ⟨p6, e6, hf⟩ := tq_let_elim hf
          refine ty_callVJ p6 ([]) ([]) rX11_hill_59 l_X11_114 moX3_stones mvX3_stones t2h rfl rfl (Nat.le_of_ble_eq_true rfl) ⟨rfl, rfl⟩ (CX3_stones t2h e6) ?_
          obtain ⟨p7, e7, hf⟩ := tq_let_elim hf
          refine ty_callSI p7 ([.long p6]) ([]) rX11_hill_62 l_X11_118 moJ13_bitCount_95d88 msJ13_bitCount_95d88 rfl rfl (Nat.le_of_ble_eq_true rfl) ⟨rfl, rfl⟩ (CJ13_bitCount_95d88  e7) ?_
          refine ty_iret rX11_hill_65 rfl rfl ?_
          have hf := Option.some.inj hf
          subst hf
          exact ⟨rfl, rfl, rfl⟩
        · rw [if_neg c5] at hf
          by_cases c8 : a2 = 3
          · rw [if_pos c8] at hf
            refine tq_swIn (tgt := 66) 50 rX11_hill_16 (by rw [c8]; decide) (by rw [c8]; decide) (by rw [c8]; rfl) (by decide) ?_
            refine tq_aload_n rX11_hill_66 rfl ?_
            refine tq_aload_n rX11_hill_67 rfl ?_
            obtain ⟨p9, e9, hf⟩ := tq_let_elim hf
            refine ty_callVJ p9 ([]) ([.ref t2]) rX11_hill_68 l_X11_114 moX3_stones mvX3_stones t2h rfl rfl (Nat.le_of_ble_eq_true rfl) ⟨rfl, rfl⟩ (CX3_stones t2h e9) ?_
            obtain ⟨p10, e10, hf⟩ := tq_let_elim hf
            refine ty_callVI p10 ([.long p9]) ([]) rX11_hill_71 l_X11_124 moX3_worthOf mvX3_worthOf t2h rfl rfl (Nat.le_of_ble_eq_true rfl) ⟨rfl, rfl⟩ (CX3_worthOf t2h e10) ?_
            refine ty_iret rX11_hill_74 rfl rfl ?_
            have hf := Option.some.inj hf
            subst hf
            exact ⟨rfl, rfl, rfl⟩
          · rw [if_neg c8] at hf
            have c3o := tq_ni (c := 0) c3 (by decide)
            have c4o := tq_ni (c := 1) c4 (by decide)
            have c5o := tq_ni (c := 2) c5 (by decide)
            have c8o := tq_ni (c := 3) c8 (by decide)
            refine tq_swOut (tgt := 75) rX11_hill_16 (by omega) (by decide) ?_
            refine tq_iload_n rX11_hill_75 rfl ?_
            refine tq_bipush (100 : Int32) rX11_hill_76 (by decide) ?_
            refine tq_icmp_ge rX11_hill_78 (fun c11 => ?_) (fun c11 => ?_)
            · rw [if_pos c11] at hf
              refine tq_aload_n rX11_hill_85 rfl ?_
              refine tq_iload_n rX11_hill_86 rfl ?_
              refine tq_bipush (100 : Int32) rX11_hill_87 (by decide) ?_
              refine tq_isub rX11_hill_89 ?_
              obtain ⟨p12, e12, hf⟩ := Option.bind_eq_some_iff.mp hf
              refine ty_callVI p12 ([.int (a2 - (100 : Int32))]) ([]) rX11_hill_90 l_X11_127 moX3_kindOf mvX3_kindOf t2h rfl rfl (Nat.le_of_ble_eq_true rfl) ⟨rfl, rfl⟩ (CX3_kindOf t2h e12) ?_
              refine ty_iret rX11_hill_93 rfl rfl ?_
              have hf := Option.some.inj hf
              subst hf
              exact ⟨rfl, rfl, rfl⟩
            · rw [if_neg c11] at hf
              refine tq_iconst (-1 : Int32) rX11_hill_81 (by decide) ?_
              refine tq_goto rX11_hill_82 ?_
              refine ty_iret rX11_hill_93 rfl rfl ?_
              have hf := Option.some.inj hf
              subst hf
              exact ⟨rfl, rfl, rfl⟩

abbrev mX11_deed : tq_M := (yX11_deed, cX11_deed, 5, (Option.some Jvm.ClassFile.FieldType.int), 0, 0)
theorem moX0_yearAt : tq_mok mX0_yearAt 1 := ⟨tq_sg1 _ (List.mem_of_getElem? (i := 2) rfl), tq_sg3 _ (List.mem_of_getElem? (i := 229) rfl), ⟨by decide, by decide, by decide +kernel⟩, by decide⟩
theorem mvX0_yearAt : 0 < 13 ∧ (tq_cl 0).1 = mX0_yearAt.1.cls ∧ Cond.instanceMethod mX0_yearAt.1 ∈ lw_tbl ∧ Cond.selects mX0_yearAt.1.cls mX0_yearAt.1 mX0_yearAt.1 ∈ lw_tbl := ⟨by decide, rfl, tq_sg3 _ (List.mem_of_getElem? (i := 227) rfl), tq_sg3 _ (List.mem_of_getElem? (i := 228) rfl)⟩
theorem f_X11_134 : tq_fok RX11 134 10 0 := ⟨by decide, by decide, Or.inr ⟨_, tq_sg1 _ (List.mem_of_getElem? (i := 93) rfl)⟩⟩
theorem l_X11_130 : tq_lok RX11 130 mX0_yearAt.1 := Or.inl (tq_sg3 _ (List.mem_of_getElem? (i := 226) rfl))
theorem l_X11_139 : tq_lok RX11 139 mX10_kindAt.1 := Or.inl (tq_sg3 _ (List.mem_of_getElem? (i := 230) rfl))
theorem l_X11_142 : tq_lok RX11 142 mX10_firstAt.1 := Or.inl (tq_sg3 _ (List.mem_of_getElem? (i := 234) rfl))
theorem l_X11_145 : tq_lok RX11 145 mX10_secondAt.1 := Or.inl (tq_sg3 _ (List.mem_of_getElem? (i := 238) rfl))
theorem rX11_deed_0 : tq_D cX11_deed 0 (.aload_n 0) 1 1 := ⟨by decide +kernel, rfl⟩
theorem rX11_deed_1 : tq_D cX11_deed 1 (.getfield 10) 3 4 := ⟨by decide +kernel, rfl⟩
theorem rX11_deed_4 : tq_D cX11_deed 4 (.iload_n 1) 1 5 := ⟨by decide +kernel, rfl⟩
theorem rX11_deed_5 : tq_D cX11_deed 5 (.invokevirtual 130) 3 8 := ⟨by decide +kernel, rfl⟩
theorem rX11_deed_8 : tq_D cX11_deed 8 (.astore 4) 2 10 := ⟨by decide +kernel, rfl⟩
theorem rX11_deed_10 : tq_D cX11_deed 10 (.aload 4) 2 12 := ⟨by decide +kernel, rfl⟩
theorem rX11_deed_12 : tq_J cX11_deed 12 .ifnonnull 18 15 := ⟨6, by decide +kernel, by decide, rfl⟩
theorem rX11_deed_15 : tq_D cX11_deed 15 (.bipush (-2)) 2 17 := ⟨by decide +kernel, rfl⟩
theorem rX11_deed_17 : decode cX11_deed 17 = .ok (.ireturn, 1) := by decide +kernel
theorem rX11_deed_18 : tq_D cX11_deed 18 (.iload_n 2) 1 19 := ⟨by decide +kernel, rfl⟩
theorem rX11_deed_19 : tq_D cX11_deed 19 (.iconst (-1)) 1 20 := ⟨by decide +kernel, rfl⟩
theorem rX11_deed_20 : tq_J cX11_deed 20 (.if_icmp .ne) 38 23 := ⟨18, by decide +kernel, by decide, rfl⟩
theorem rX11_deed_23 : tq_D cX11_deed 23 (.iload_n 3) 1 24 := ⟨by decide +kernel, rfl⟩
theorem rX11_deed_24 : tq_J cX11_deed 24 (.ifCond .ne) 35 27 := ⟨11, by decide +kernel, by decide, rfl⟩
theorem rX11_deed_27 : tq_D cX11_deed 27 (.aload 4) 2 29 := ⟨by decide +kernel, rfl⟩
theorem rX11_deed_29 : tq_D cX11_deed 29 (.getfield 134) 3 32 := ⟨by decide +kernel, rfl⟩
theorem rX11_deed_32 : tq_J cX11_deed 32 .goto 37 35 := ⟨5, by decide +kernel, by decide, rfl⟩
theorem rX11_deed_35 : tq_D cX11_deed 35 (.bipush (-2)) 2 37 := ⟨by decide +kernel, rfl⟩
theorem rX11_deed_37 : decode cX11_deed 37 = .ok (.ireturn, 1) := by decide +kernel
theorem rX11_deed_38 : tq_D cX11_deed 38 (.iload_n 2) 1 39 := ⟨by decide +kernel, rfl⟩
theorem rX11_deed_39 : tq_J cX11_deed 39 (.ifCond .lt) 60 42 := ⟨21, by decide +kernel, by decide, rfl⟩
theorem rX11_deed_42 : tq_D cX11_deed 42 (.iload_n 2) 1 43 := ⟨by decide +kernel, rfl⟩
theorem rX11_deed_43 : tq_D cX11_deed 43 (.aload 4) 2 45 := ⟨by decide +kernel, rfl⟩
theorem rX11_deed_45 : tq_D cX11_deed 45 (.getfield 134) 3 48 := ⟨by decide +kernel, rfl⟩
theorem rX11_deed_48 : tq_J cX11_deed 48 (.if_icmp .ge) 60 51 := ⟨12, by decide +kernel, by decide, rfl⟩
theorem rX11_deed_51 : tq_D cX11_deed 51 (.iload_n 3) 1 52 := ⟨by decide +kernel, rfl⟩
theorem rX11_deed_52 : tq_J cX11_deed 52 (.ifCond .lt) 60 55 := ⟨8, by decide +kernel, by decide, rfl⟩
theorem rX11_deed_55 : tq_D cX11_deed 55 (.iload_n 3) 1 56 := ⟨by decide +kernel, rfl⟩
theorem rX11_deed_56 : tq_D cX11_deed 56 (.iconst 2) 1 57 := ⟨by decide +kernel, rfl⟩
theorem rX11_deed_57 : tq_J cX11_deed 57 (.if_icmp .le) 63 60 := ⟨6, by decide +kernel, by decide, rfl⟩
theorem rX11_deed_60 : tq_D cX11_deed 60 (.bipush (-2)) 2 62 := ⟨by decide +kernel, rfl⟩
theorem rX11_deed_62 : decode cX11_deed 62 = .ok (.ireturn, 1) := by decide +kernel
theorem rX11_deed_63 : tq_D cX11_deed 63 (.iload_n 3) 1 64 := ⟨by decide +kernel, rfl⟩
theorem rX11_deed_64 : tq_J cX11_deed 64 (.ifCond .ne) 74 67 := ⟨10, by decide +kernel, by decide, rfl⟩
theorem rX11_deed_67 : tq_D cX11_deed 67 (.aload 4) 2 69 := ⟨by decide +kernel, rfl⟩
theorem rX11_deed_69 : tq_D cX11_deed 69 (.iload_n 2) 1 70 := ⟨by decide +kernel, rfl⟩
theorem rX11_deed_70 : tq_D cX11_deed 70 (.invokevirtual 139) 3 73 := ⟨by decide +kernel, rfl⟩
theorem rX11_deed_73 : decode cX11_deed 73 = .ok (.ireturn, 1) := by decide +kernel
theorem rX11_deed_74 : tq_D cX11_deed 74 (.iload_n 3) 1 75 := ⟨by decide +kernel, rfl⟩
theorem rX11_deed_75 : tq_D cX11_deed 75 (.iconst 1) 1 76 := ⟨by decide +kernel, rfl⟩
theorem rX11_deed_76 : tq_J cX11_deed 76 (.if_icmp .ne) 88 79 := ⟨12, by decide +kernel, by decide, rfl⟩
theorem rX11_deed_79 : tq_D cX11_deed 79 (.aload 4) 2 81 := ⟨by decide +kernel, rfl⟩
theorem rX11_deed_81 : tq_D cX11_deed 81 (.iload_n 2) 1 82 := ⟨by decide +kernel, rfl⟩
theorem rX11_deed_82 : tq_D cX11_deed 82 (.invokevirtual 142) 3 85 := ⟨by decide +kernel, rfl⟩
theorem rX11_deed_85 : tq_J cX11_deed 85 .goto 94 88 := ⟨9, by decide +kernel, by decide, rfl⟩
theorem rX11_deed_88 : tq_D cX11_deed 88 (.aload 4) 2 90 := ⟨by decide +kernel, rfl⟩
theorem rX11_deed_90 : tq_D cX11_deed 90 (.iload_n 2) 1 91 := ⟨by decide +kernel, rfl⟩
theorem rX11_deed_91 : tq_D cX11_deed 91 (.invokevirtual 145) 3 94 := ⟨by decide +kernel, rfl⟩
theorem rX11_deed_94 : decode cX11_deed 94 = .ok (.ireturn, 1) := by decide +kernel
noncomputable def FX11_deed_j60 (I : tq_PI) (L : tq_PL)  : Option (Int32) :=
  some (-2 : Int32)
noncomputable def FX11_deed (I : tq_PI) (L : tq_PL) (a0 : Nat) (a1 : Int32) (a2 : Int32) (a3 : Int32) : Option (Int32) :=
  ((FX0_yearAt I L ((tq_rg a0 0)) a1).bind fun p1 =>  (p1.elim (some (-2 : Int32)) (fun t2 => (if a2 = (-1 : Int32) then (if a3 = 0 then some (I t2 0) else some (-2 : Int32)) else (if a2 < 0 then (FX11_deed_j60 I L ) else (if (I t2 0) ≤ a2 then (FX11_deed_j60 I L ) else (if a3 < 0 then (FX11_deed_j60 I L ) else (if a3 ≤ (2 : Int32) then (if a3 = 0 then ((FX10_kindAt I L t2 a2).bind fun p12 => some p12) else (if a3 = (1 : Int32) then ((FX10_firstAt I L t2 a2).bind fun p11 => some p11) else ((FX10_secondAt I L t2 a2).bind fun p10 => some p10))) else (FX11_deed_j60 I L )))))))))
set_option maxRecDepth 100000 in
set_option maxHeartbeats 4000000 in
theorem FX11_deed_j60_x {S : Nat × (Nat → Int32)} {d : Nat} {I : tq_PI} {L : tq_PL}   {q0 : Option Value → tq_PI → tq_PL → Prop} {out : Int32} (hf : FX11_deed_j60 I L = some out) (hk : q0 (some (.int out)) I L) : tq_X S mX11_deed (d + 2) tq_k0 60 ([tq_u, tq_u, tq_u, tq_u, tq_u]) ([]) (tq_st I L) (tq_Q q0) := by
  unfold FX11_deed_j60 at hf
  refine tq_bipush (-2 : Int32) rX11_deed_60 (by decide) ?_
  refine ty_iret rX11_deed_62 rfl rfl ?_
  have hf := Option.some.inj hf
  subst hf
  exact hk

set_option maxRecDepth 100000 in
set_option maxHeartbeats 4000000 in
theorem CX11_deed {S : Nat × (Nat → Int32)} {d : Nat} {I : tq_PI} {L : tq_PL} {a0 : Nat} {a1 : Int32} {a2 : Int32} {a3 : Int32} (h0 : tq_sh0 a0 = 11) {out : Int32} (hf : FX11_deed I L a0 a1 a2 a3 = some out) : tq_K S mX11_deed (d + 2) [.ref a0, .int a1, .int a2, .int a3] I L (tq_one2 (some (.int out)) I L) := by
  unfold FX11_deed at hf
  refine tq_K_of (by decide) (Nat.le_of_ble_eq_true rfl) (ls := [.ref a0, .int a1, .int a2, .int a3, tq_u]) rfl ?_
  refine tq_aload_n rX11_deed_0 rfl ?_
  refine ty_getR rX11_deed_1 f_X11_10 rfl h0 (hp_11_0 h0).1 ?_
  refine tq_iload_n rX11_deed_4 rfl ?_
  obtain ⟨p1, e1, hf⟩ := Option.bind_eq_some_iff.mp hf
  refine ty_callVA p1 ([.int a1]) ([]) rX11_deed_5 l_X11_130 moX0_yearAt mvX0_yearAt (hp_11_0 h0).2.1 rfl rfl (Nat.le_of_ble_eq_true rfl) ⟨rfl, rfl⟩ (CX0_yearAt (hp_11_0 h0).2.1 e1) ?_
  rcases tq_oelim hf with ⟨t2q, hf⟩ | ⟨t2, t2q, hf⟩
  · rw [t2q]
    refine tq_astoreN ([.ref a0, .int a1, .int a2, .int a3, .null]) rX11_deed_8 (Nat.le_of_ble_eq_true rfl) rfl ?_
    refine tq_aloadN rX11_deed_10 rfl ?_
    refine tq_ifnonnullN rX11_deed_12 ?_
    refine tq_bipush (-2 : Int32) rX11_deed_15 (by decide) ?_
    refine ty_iret rX11_deed_17 rfl rfl ?_
    have hf := Option.some.inj hf
    subst hf
    exact ⟨rfl, rfl, rfl⟩
  · have t2h := RX0_yearAt (hp_11_0 h0).2.1 e1 t2q
    rw [t2q]
    refine tq_astore ([.ref a0, .int a1, .int a2, .int a3, .ref t2]) rX11_deed_8 (Nat.le_of_ble_eq_true rfl) rfl ?_
    refine tq_aload rX11_deed_10 rfl ?_
    refine tq_ifnonnullR rX11_deed_12 ?_
    refine tq_iload_n rX11_deed_18 rfl ?_
    refine tq_iconst (-1 : Int32) rX11_deed_19 (by decide) ?_
    refine tq_icmp_ne rX11_deed_20 (fun c3 => ?_) (fun c3 => ?_)
    · rw [if_neg c3] at hf
      refine tq_iload_n rX11_deed_38 rfl ?_
      refine tq_if_lt rX11_deed_39 (fun c4 => ?_) (fun c4 => ?_)
      · rw [if_pos c4] at hf
        exact tq_forget _ (tq_le_u (tq_le_u (tq_le_u (tq_le_u (tq_le_u tq_le_n))))) (FX11_deed_j60_x   hf ⟨rfl, rfl, rfl⟩)
      · rw [if_neg c4] at hf
        refine tq_iload_n rX11_deed_42 rfl ?_
        refine tq_aload rX11_deed_43 rfl ?_
        refine ty_getI rX11_deed_45 f_X11_134 rfl t2h ?_
        refine tq_icmp_ge rX11_deed_48 (fun c5 => ?_) (fun c5 => ?_)
        · rw [if_pos c5] at hf
          exact tq_forget _ (tq_le_u (tq_le_u (tq_le_u (tq_le_u (tq_le_u tq_le_n))))) (FX11_deed_j60_x   hf ⟨rfl, rfl, rfl⟩)
        · rw [if_neg c5] at hf
          refine tq_iload_n rX11_deed_51 rfl ?_
          refine tq_if_lt rX11_deed_52 (fun c6 => ?_) (fun c6 => ?_)
          · rw [if_pos c6] at hf
            exact tq_forget _ (tq_le_u (tq_le_u (tq_le_u (tq_le_u (tq_le_u tq_le_n))))) (FX11_deed_j60_x   hf ⟨rfl, rfl, rfl⟩)
          · rw [if_neg c6] at hf
            refine tq_iload_n rX11_deed_55 rfl ?_
            refine tq_iconst (2 : Int32) rX11_deed_56 (by decide) ?_
            refine tq_icmp_le rX11_deed_57 (fun c7 => ?_) (fun c7 => ?_)
            · rw [if_pos c7] at hf
              refine tq_iload_n rX11_deed_63 rfl ?_
              refine tq_if_ne rX11_deed_64 (fun c8 => ?_) (fun c8 => ?_)
              · rw [if_neg c8] at hf
                refine tq_iload_n rX11_deed_74 rfl ?_
                refine tq_iconst (1 : Int32) rX11_deed_75 (by decide) ?_
                refine tq_icmp_ne rX11_deed_76 (fun c9 => ?_) (fun c9 => ?_)
                · rw [if_neg c9] at hf
                  refine tq_aload rX11_deed_88 rfl ?_
                  refine tq_iload_n rX11_deed_90 rfl ?_
                  obtain ⟨p10, e10, hf⟩ := Option.bind_eq_some_iff.mp hf
                  refine ty_callVI p10 ([.int a2]) ([]) rX11_deed_91 l_X11_145 moX10_secondAt mvX10_secondAt t2h rfl rfl (Nat.le_of_ble_eq_true rfl) ⟨rfl, rfl⟩ (CX10_secondAt t2h e10) ?_
                  refine ty_iret rX11_deed_94 rfl rfl ?_
                  have hf := Option.some.inj hf
                  subst hf
                  exact ⟨rfl, rfl, rfl⟩
                · rw [if_pos c9] at hf
                  refine tq_aload rX11_deed_79 rfl ?_
                  refine tq_iload_n rX11_deed_81 rfl ?_
                  obtain ⟨p11, e11, hf⟩ := Option.bind_eq_some_iff.mp hf
                  refine ty_callVI p11 ([.int a2]) ([]) rX11_deed_82 l_X11_142 moX10_firstAt mvX10_firstAt t2h rfl rfl (Nat.le_of_ble_eq_true rfl) ⟨rfl, rfl⟩ (CX10_firstAt t2h e11) ?_
                  refine tq_goto rX11_deed_85 ?_
                  refine ty_iret rX11_deed_94 rfl rfl ?_
                  have hf := Option.some.inj hf
                  subst hf
                  exact ⟨rfl, rfl, rfl⟩
              · rw [if_pos c8] at hf
                refine tq_aload rX11_deed_67 rfl ?_
                refine tq_iload_n rX11_deed_69 rfl ?_
                obtain ⟨p12, e12, hf⟩ := Option.bind_eq_some_iff.mp hf
                refine ty_callVI p12 ([.int a2]) ([]) rX11_deed_70 l_X11_139 moX10_kindAt mvX10_kindAt t2h rfl rfl (Nat.le_of_ble_eq_true rfl) ⟨rfl, rfl⟩ (CX10_kindAt t2h e12) ?_
                refine ty_iret rX11_deed_73 rfl rfl ?_
                have hf := Option.some.inj hf
                subst hf
                exact ⟨rfl, rfl, rfl⟩
            · rw [if_neg c7] at hf
              exact tq_forget _ (tq_le_u (tq_le_u (tq_le_u (tq_le_u (tq_le_u tq_le_n))))) (FX11_deed_j60_x   hf ⟨rfl, rfl, rfl⟩)
    · rw [if_pos c3] at hf
      refine tq_iload_n rX11_deed_23 rfl ?_
      refine tq_if_ne rX11_deed_24 (fun c13 => ?_) (fun c13 => ?_)
      · rw [if_neg c13] at hf
        refine tq_bipush (-2 : Int32) rX11_deed_35 (by decide) ?_
        refine ty_iret rX11_deed_37 rfl rfl ?_
        have hf := Option.some.inj hf
        subst hf
        exact ⟨rfl, rfl, rfl⟩
      · rw [if_pos c13] at hf
        refine tq_aload rX11_deed_27 rfl ?_
        refine ty_getI rX11_deed_29 f_X11_134 rfl t2h ?_
        refine tq_goto rX11_deed_32 ?_
        refine ty_iret rX11_deed_37 rfl rfl ?_
        have hf := Option.some.inj hf
        subst hf
        exact ⟨rfl, rfl, rfl⟩

abbrev mX11_stop : tq_M := (yX11_stop, cX11_stop, 5, (Option.some Jvm.ClassFile.FieldType.int), 0, 0)
theorem moX8_replay : tq_mok mX8_replay 3 := ⟨tq_sg1 _ (List.mem_of_getElem? (i := 8) rfl), tq_sg4 _ (List.mem_of_getElem? (i := 9) rfl), ⟨by decide, by decide, by decide +kernel⟩, by decide⟩
theorem mvX8_replay : 8 < 13 ∧ (tq_cl 8).1 = mX8_replay.1.cls ∧ Cond.instanceMethod mX8_replay.1 ∈ lw_tbl ∧ Cond.selects mX8_replay.1.cls mX8_replay.1 mX8_replay.1 ∈ lw_tbl := ⟨by decide, rfl, tq_sg4 _ (List.mem_of_getElem? (i := 7) rfl), tq_sg4 _ (List.mem_of_getElem? (i := 8) rfl)⟩
theorem f_X11_34 : tq_fok RX11 34 11 4 := ⟨by decide, by decide, Or.inl (tq_sg2 _ (List.mem_of_getElem? (i := 125) rfl))⟩
theorem l_X11_148 : tq_lok RX11 148 mX8_replay.1 := Or.inl (tq_sg4 _ (List.mem_of_getElem? (i := 6) rfl))
theorem rX11_stop_0 : tq_D cX11_stop 0 (.aload_n 0) 1 1 := ⟨by decide +kernel, rfl⟩
theorem rX11_stop_1 : tq_D cX11_stop 1 (.getfield 10) 3 4 := ⟨by decide +kernel, rfl⟩
theorem rX11_stop_4 : tq_D cX11_stop 4 (.iload_n 1) 1 5 := ⟨by decide +kernel, rfl⟩
theorem rX11_stop_5 : tq_D cX11_stop 5 (.invokevirtual 102) 3 8 := ⟨by decide +kernel, rfl⟩
theorem rX11_stop_8 : tq_D cX11_stop 8 (.astore_n 3) 1 9 := ⟨by decide +kernel, rfl⟩
theorem rX11_stop_9 : tq_D cX11_stop 9 (.aload_n 0) 1 10 := ⟨by decide +kernel, rfl⟩
theorem rX11_stop_10 : tq_D cX11_stop 10 (.getfield 10) 3 13 := ⟨by decide +kernel, rfl⟩
theorem rX11_stop_13 : tq_D cX11_stop 13 (.iload_n 2) 1 14 := ⟨by decide +kernel, rfl⟩
theorem rX11_stop_14 : tq_D cX11_stop 14 (.invokevirtual 130) 3 17 := ⟨by decide +kernel, rfl⟩
theorem rX11_stop_17 : tq_D cX11_stop 17 (.astore 4) 2 19 := ⟨by decide +kernel, rfl⟩
theorem rX11_stop_19 : tq_D cX11_stop 19 (.aload_n 3) 1 20 := ⟨by decide +kernel, rfl⟩
theorem rX11_stop_20 : tq_J cX11_stop 20 .ifnull 28 23 := ⟨8, by decide +kernel, by decide, rfl⟩
theorem rX11_stop_23 : tq_D cX11_stop 23 (.aload 4) 2 25 := ⟨by decide +kernel, rfl⟩
theorem rX11_stop_25 : tq_J cX11_stop 25 .ifnonnull 30 28 := ⟨5, by decide +kernel, by decide, rfl⟩
theorem rX11_stop_28 : tq_D cX11_stop 28 (.iconst (-1)) 1 29 := ⟨by decide +kernel, rfl⟩
theorem rX11_stop_29 : decode cX11_stop 29 = .ok (.ireturn, 1) := by decide +kernel
theorem rX11_stop_30 : tq_D cX11_stop 30 (.aload_n 0) 1 31 := ⟨by decide +kernel, rfl⟩
theorem rX11_stop_31 : tq_D cX11_stop 31 (.getfield 34) 3 34 := ⟨by decide +kernel, rfl⟩
theorem rX11_stop_34 : tq_D cX11_stop 34 (.aload_n 3) 1 35 := ⟨by decide +kernel, rfl⟩
theorem rX11_stop_35 : tq_D cX11_stop 35 (.aload 4) 2 37 := ⟨by decide +kernel, rfl⟩
theorem rX11_stop_37 : tq_D cX11_stop 37 (.aload 4) 2 39 := ⟨by decide +kernel, rfl⟩
theorem rX11_stop_39 : tq_D cX11_stop 39 (.getfield 134) 3 42 := ⟨by decide +kernel, rfl⟩
theorem rX11_stop_42 : tq_D cX11_stop 42 (.invokevirtual 148) 3 45 := ⟨by decide +kernel, rfl⟩
theorem rX11_stop_45 : decode cX11_stop 45 = .ok (.ireturn, 1) := by decide +kernel
noncomputable def FX11_stop_j28 (I : tq_PI) (L : tq_PL)  : Option (Int32 × tq_PI × tq_PL) :=
  some ((-1 : Int32), I, L)
noncomputable def FX11_stop (I : tq_PI) (L : tq_PL) (a0 : Nat) (a1 : Int32) (a2 : Int32) : Option (Int32 × tq_PI × tq_PL) :=
  ((FX0_hillAt I L ((tq_rg a0 0)) a1).bind fun p1 =>  (p1.elim (((FX0_yearAt I L ((tq_rg a0 0)) a2).bind fun p3 =>  (p3.elim ((FX11_stop_j28 I L )) (fun t4 => (FX11_stop_j28 I L ))))) (fun t2 => ((FX0_yearAt I L ((tq_rg a0 0)) a2).bind fun p5 =>  (p5.elim ((FX11_stop_j28 I L )) (fun t6 => ((FX8_replay I L ((tq_rg a0 4)) t2 t6 ((I t6 0))).bind fun p7 => some (p7.1, p7.2.1, p7.2.2))))))))
set_option maxRecDepth 100000 in
set_option maxHeartbeats 4000000 in
theorem FX11_stop_j28_x {S : Nat × (Nat → Int32)} {d : Nat} {I : tq_PI} {L : tq_PL}   {q0 : Option Value → tq_PI → tq_PL → Prop} {out : Int32 × tq_PI × tq_PL} (hf : FX11_stop_j28 I L = some out) (hk : q0 (some (.int out.1)) out.2.1 out.2.2) : tq_X S mX11_stop (d + 7) tq_k0 28 ([tq_u, tq_u, tq_u, tq_u, tq_u]) ([]) (tq_st I L) (tq_Q q0) := by
  unfold FX11_stop_j28 at hf
  refine tq_iconst (-1 : Int32) rX11_stop_28 (by decide) ?_
  refine ty_iret rX11_stop_29 rfl rfl ?_
  have hf := Option.some.inj hf
  subst hf
  exact hk

set_option maxRecDepth 100000 in
set_option maxHeartbeats 4000000 in
theorem CX11_stop {S : Nat × (Nat → Int32)} {d : Nat} {I : tq_PI} {L : tq_PL} {a0 : Nat} {a1 : Int32} {a2 : Int32} (h0 : tq_sh0 a0 = 11) {out : Int32 × tq_PI × tq_PL} (hf : FX11_stop I L a0 a1 a2 = some out) : tq_K S mX11_stop (d + 7) [.ref a0, .int a1, .int a2] I L (tq_one2 (some (.int out.1)) out.2.1 out.2.2) := by
  unfold FX11_stop at hf
  refine tq_K_of (by decide) (Nat.le_of_ble_eq_true rfl) (ls := [.ref a0, .int a1, .int a2, tq_u, tq_u]) rfl ?_
  refine tq_aload_n rX11_stop_0 rfl ?_
  refine ty_getR rX11_stop_1 f_X11_10 rfl h0 (hp_11_0 h0).1 ?_
  refine tq_iload_n rX11_stop_4 rfl ?_
  obtain ⟨p1, e1, hf⟩ := Option.bind_eq_some_iff.mp hf
  refine ty_callVA p1 ([.int a1]) ([]) rX11_stop_5 l_X11_102 moX0_hillAt mvX0_hillAt (hp_11_0 h0).2.1 rfl rfl (Nat.le_of_ble_eq_true rfl) ⟨rfl, rfl⟩ (CX0_hillAt (hp_11_0 h0).2.1 e1) ?_
  rcases tq_oelim hf with ⟨t2q, hf⟩ | ⟨t2, t2q, hf⟩
  · rw [t2q]
    refine tq_astoreN_n ([.ref a0, .int a1, .int a2, .null, tq_u]) rX11_stop_8 (Nat.le_of_ble_eq_true rfl) rfl ?_
    refine tq_aload_n rX11_stop_9 rfl ?_
    refine ty_getR rX11_stop_10 f_X11_10 rfl h0 (hp_11_0 h0).1 ?_
    refine tq_iload_n rX11_stop_13 rfl ?_
    obtain ⟨p3, e3, hf⟩ := Option.bind_eq_some_iff.mp hf
    refine ty_callVA p3 ([.int a2]) ([]) rX11_stop_14 l_X11_130 moX0_yearAt mvX0_yearAt (hp_11_0 h0).2.1 rfl rfl (Nat.le_of_ble_eq_true rfl) ⟨rfl, rfl⟩ (CX0_yearAt (hp_11_0 h0).2.1 e3) ?_
    rcases tq_oelim hf with ⟨t4q, hf⟩ | ⟨t4, t4q, hf⟩
    · rw [t4q]
      refine tq_astoreN ([.ref a0, .int a1, .int a2, .null, .null]) rX11_stop_17 (Nat.le_of_ble_eq_true rfl) rfl ?_
      refine tq_aloadN_n rX11_stop_19 rfl ?_
      refine tq_ifnullN rX11_stop_20 ?_
      exact tq_forget _ (tq_le_u (tq_le_u (tq_le_u (tq_le_u (tq_le_u tq_le_n))))) (FX11_stop_j28_x   hf ⟨rfl, rfl, rfl⟩)
    · have t4h := RX0_yearAt (hp_11_0 h0).2.1 e3 t4q
      rw [t4q]
      refine tq_astore ([.ref a0, .int a1, .int a2, .null, .ref t4]) rX11_stop_17 (Nat.le_of_ble_eq_true rfl) rfl ?_
      refine tq_aloadN_n rX11_stop_19 rfl ?_
      refine tq_ifnullN rX11_stop_20 ?_
      exact tq_forget _ (tq_le_u (tq_le_u (tq_le_u (tq_le_u (tq_le_u tq_le_n))))) (FX11_stop_j28_x   hf ⟨rfl, rfl, rfl⟩)
  · have t2h := RX0_hillAt (hp_11_0 h0).2.1 e1 t2q
    rw [t2q]
    refine tq_astore_n ([.ref a0, .int a1, .int a2, .ref t2, tq_u]) rX11_stop_8 (Nat.le_of_ble_eq_true rfl) rfl ?_
    refine tq_aload_n rX11_stop_9 rfl ?_
    refine ty_getR rX11_stop_10 f_X11_10 rfl h0 (hp_11_0 h0).1 ?_
    refine tq_iload_n rX11_stop_13 rfl ?_
    obtain ⟨p5, e5, hf⟩ := Option.bind_eq_some_iff.mp hf
    refine ty_callVA p5 ([.int a2]) ([]) rX11_stop_14 l_X11_130 moX0_yearAt mvX0_yearAt (hp_11_0 h0).2.1 rfl rfl (Nat.le_of_ble_eq_true rfl) ⟨rfl, rfl⟩ (CX0_yearAt (hp_11_0 h0).2.1 e5) ?_
    rcases tq_oelim hf with ⟨t6q, hf⟩ | ⟨t6, t6q, hf⟩
    · rw [t6q]
      refine tq_astoreN ([.ref a0, .int a1, .int a2, .ref t2, .null]) rX11_stop_17 (Nat.le_of_ble_eq_true rfl) rfl ?_
      refine tq_aload_n rX11_stop_19 rfl ?_
      refine tq_ifnullR rX11_stop_20 ?_
      refine tq_aloadN rX11_stop_23 rfl ?_
      refine tq_ifnonnullN rX11_stop_25 ?_
      exact tq_forget _ (tq_le_u (tq_le_u (tq_le_u (tq_le_u (tq_le_u tq_le_n))))) (FX11_stop_j28_x   hf ⟨rfl, rfl, rfl⟩)
    · have t6h := RX0_yearAt (hp_11_0 h0).2.1 e5 t6q
      rw [t6q]
      refine tq_astore ([.ref a0, .int a1, .int a2, .ref t2, .ref t6]) rX11_stop_17 (Nat.le_of_ble_eq_true rfl) rfl ?_
      refine tq_aload_n rX11_stop_19 rfl ?_
      refine tq_ifnullR rX11_stop_20 ?_
      refine tq_aload rX11_stop_23 rfl ?_
      refine tq_ifnonnullR rX11_stop_25 ?_
      refine tq_aload_n rX11_stop_30 rfl ?_
      refine ty_getR rX11_stop_31 f_X11_34 rfl h0 (hp_11_4 h0).1 ?_
      refine tq_aload_n rX11_stop_34 rfl ?_
      refine tq_aload rX11_stop_35 rfl ?_
      refine tq_aload rX11_stop_37 rfl ?_
      refine ty_getI rX11_stop_39 f_X11_134 rfl t6h ?_
      obtain ⟨p7, e7, hf⟩ := Option.bind_eq_some_iff.mp hf
      refine ty_callVI p7.1 ([.ref t2, .ref t6, .int (I t6 0)]) ([]) rX11_stop_42 l_X11_148 moX8_replay mvX8_replay (hp_11_4 h0).2.1 rfl rfl (Nat.le_of_ble_eq_true rfl) ⟨rfl, rfl⟩ (CX8_replay (hp_11_4 h0).2.1 t2h t6h e7) ?_
      refine ty_iret rX11_stop_45 rfl rfl ?_
      have hf := Option.some.inj hf
      subst hf
      exact ⟨rfl, rfl, rfl⟩

abbrev mX11_state : tq_M := (yX11_state, cX11_state, 7, (Option.some Jvm.ClassFile.FieldType.int), 0, 0)
theorem moX8_answer : tq_mok mX8_answer 1 := ⟨tq_sg1 _ (List.mem_of_getElem? (i := 8) rfl), tq_sg4 _ (List.mem_of_getElem? (i := 96) rfl), ⟨by decide, by decide, by decide +kernel⟩, by decide⟩
theorem mvX8_answer : 8 < 13 ∧ (tq_cl 8).1 = mX8_answer.1.cls ∧ Cond.instanceMethod mX8_answer.1 ∈ lw_tbl ∧ Cond.selects mX8_answer.1.cls mX8_answer.1 mX8_answer.1 ∈ lw_tbl := ⟨by decide, rfl, tq_sg4 _ (List.mem_of_getElem? (i := 94) rfl), tq_sg4 _ (List.mem_of_getElem? (i := 95) rfl)⟩
theorem l_X11_152 : tq_lok RX11 152 mX8_answer.1 := Or.inl (tq_sg4 _ (List.mem_of_getElem? (i := 93) rfl))
theorem rX11_state_0 : tq_D cX11_state 0 (.aload_n 0) 1 1 := ⟨by decide +kernel, rfl⟩
theorem rX11_state_1 : tq_D cX11_state 1 (.getfield 10) 3 4 := ⟨by decide +kernel, rfl⟩
theorem rX11_state_4 : tq_D cX11_state 4 (.iload_n 1) 1 5 := ⟨by decide +kernel, rfl⟩
theorem rX11_state_5 : tq_D cX11_state 5 (.invokevirtual 102) 3 8 := ⟨by decide +kernel, rfl⟩
theorem rX11_state_8 : tq_D cX11_state 8 (.astore 5) 2 10 := ⟨by decide +kernel, rfl⟩
theorem rX11_state_10 : tq_D cX11_state 10 (.aload_n 0) 1 11 := ⟨by decide +kernel, rfl⟩
theorem rX11_state_11 : tq_D cX11_state 11 (.getfield 10) 3 14 := ⟨by decide +kernel, rfl⟩
theorem rX11_state_14 : tq_D cX11_state 14 (.iload_n 2) 1 15 := ⟨by decide +kernel, rfl⟩
theorem rX11_state_15 : tq_D cX11_state 15 (.invokevirtual 130) 3 18 := ⟨by decide +kernel, rfl⟩
theorem rX11_state_18 : tq_D cX11_state 18 (.astore 6) 2 20 := ⟨by decide +kernel, rfl⟩
theorem rX11_state_20 : tq_D cX11_state 20 (.aload 5) 2 22 := ⟨by decide +kernel, rfl⟩
theorem rX11_state_22 : tq_J cX11_state 22 .ifnull 43 25 := ⟨21, by decide +kernel, by decide, rfl⟩
theorem rX11_state_25 : tq_D cX11_state 25 (.aload 6) 2 27 := ⟨by decide +kernel, rfl⟩
theorem rX11_state_27 : tq_J cX11_state 27 .ifnull 43 30 := ⟨16, by decide +kernel, by decide, rfl⟩
theorem rX11_state_30 : tq_D cX11_state 30 (.iload_n 3) 1 31 := ⟨by decide +kernel, rfl⟩
theorem rX11_state_31 : tq_J cX11_state 31 (.ifCond .lt) 43 34 := ⟨12, by decide +kernel, by decide, rfl⟩
theorem rX11_state_34 : tq_D cX11_state 34 (.iload_n 3) 1 35 := ⟨by decide +kernel, rfl⟩
theorem rX11_state_35 : tq_D cX11_state 35 (.aload 6) 2 37 := ⟨by decide +kernel, rfl⟩
theorem rX11_state_37 : tq_D cX11_state 37 (.getfield 134) 3 40 := ⟨by decide +kernel, rfl⟩
theorem rX11_state_40 : tq_J cX11_state 40 (.if_icmp .le) 46 43 := ⟨6, by decide +kernel, by decide, rfl⟩
theorem rX11_state_43 : tq_D cX11_state 43 (.bipush (-2)) 2 45 := ⟨by decide +kernel, rfl⟩
theorem rX11_state_45 : decode cX11_state 45 = .ok (.ireturn, 1) := by decide +kernel
theorem rX11_state_46 : tq_D cX11_state 46 (.aload_n 0) 1 47 := ⟨by decide +kernel, rfl⟩
theorem rX11_state_47 : tq_D cX11_state 47 (.getfield 34) 3 50 := ⟨by decide +kernel, rfl⟩
theorem rX11_state_50 : tq_D cX11_state 50 (.aload 5) 2 52 := ⟨by decide +kernel, rfl⟩
theorem rX11_state_52 : tq_D cX11_state 52 (.aload 6) 2 54 := ⟨by decide +kernel, rfl⟩
theorem rX11_state_54 : tq_D cX11_state 54 (.iload_n 3) 1 55 := ⟨by decide +kernel, rfl⟩
theorem rX11_state_55 : tq_D cX11_state 55 (.invokevirtual 148) 3 58 := ⟨by decide +kernel, rfl⟩
theorem rX11_state_58 : tq_D cX11_state 58 (.iload_n 3) 1 59 := ⟨by decide +kernel, rfl⟩
theorem rX11_state_59 : tq_J cX11_state 59 (.if_icmp .ge) 65 62 := ⟨6, by decide +kernel, by decide, rfl⟩
theorem rX11_state_62 : tq_D cX11_state 62 (.bipush (-2)) 2 64 := ⟨by decide +kernel, rfl⟩
theorem rX11_state_64 : decode cX11_state 64 = .ok (.ireturn, 1) := by decide +kernel
theorem rX11_state_65 : tq_D cX11_state 65 (.aload_n 0) 1 66 := ⟨by decide +kernel, rfl⟩
theorem rX11_state_66 : tq_D cX11_state 66 (.getfield 34) 3 69 := ⟨by decide +kernel, rfl⟩
theorem rX11_state_69 : tq_D cX11_state 69 (.iload 4) 2 71 := ⟨by decide +kernel, rfl⟩
theorem rX11_state_71 : tq_D cX11_state 71 (.invokevirtual 152) 3 74 := ⟨by decide +kernel, rfl⟩
theorem rX11_state_74 : decode cX11_state 74 = .ok (.ireturn, 1) := by decide +kernel
noncomputable def FX11_state_j43 (I : tq_PI) (L : tq_PL)  : Option (Int32 × tq_PI × tq_PL) :=
  some ((-2 : Int32), I, L)
noncomputable def FX11_state (I : tq_PI) (L : tq_PL) (a0 : Nat) (a1 : Int32) (a2 : Int32) (a3 : Int32) (a4 : Int32) : Option (Int32 × tq_PI × tq_PL) :=
  ((FX0_hillAt I L ((tq_rg a0 0)) a1).bind fun p1 =>  (p1.elim (((FX0_yearAt I L ((tq_rg a0 0)) a2).bind fun p3 =>  (p3.elim ((FX11_state_j43 I L )) (fun t4 => (FX11_state_j43 I L ))))) (fun t2 => ((FX0_yearAt I L ((tq_rg a0 0)) a2).bind fun p5 =>  (p5.elim ((FX11_state_j43 I L )) (fun t6 => (if a3 < 0 then (FX11_state_j43 I L ) else (if a3 ≤ (I t6 0) then ((FX8_replay I L ((tq_rg a0 4)) t2 t6 a3).bind fun p9 => (if a3 ≤ p9.1 then ((FX8_answer p9.2.1 p9.2.2 ((tq_rg a0 4)) a4).bind fun p11 => some (p11, p9.2.1, p9.2.2)) else some ((-2 : Int32), p9.2.1, p9.2.2))) else (FX11_state_j43 I L )))))))))
set_option maxRecDepth 100000 in
set_option maxHeartbeats 4000000 in
theorem FX11_state_j43_x {S : Nat × (Nat → Int32)} {d : Nat} {I : tq_PI} {L : tq_PL}   {q0 : Option Value → tq_PI → tq_PL → Prop} {out : Int32 × tq_PI × tq_PL} (hf : FX11_state_j43 I L = some out) (hk : q0 (some (.int out.1)) out.2.1 out.2.2) : tq_X S mX11_state (d + 7) tq_k0 43 ([tq_u, tq_u, tq_u, tq_u, tq_u, tq_u, tq_u]) ([]) (tq_st I L) (tq_Q q0) := by
  unfold FX11_state_j43 at hf
  refine tq_bipush (-2 : Int32) rX11_state_43 (by decide) ?_
  refine ty_iret rX11_state_45 rfl rfl ?_
  have hf := Option.some.inj hf
  subst hf
  exact hk

set_option maxRecDepth 100000 in
set_option maxHeartbeats 4000000 in
theorem CX11_state {S : Nat × (Nat → Int32)} {d : Nat} {I : tq_PI} {L : tq_PL} {a0 : Nat} {a1 : Int32} {a2 : Int32} {a3 : Int32} {a4 : Int32} (h0 : tq_sh0 a0 = 11) {out : Int32 × tq_PI × tq_PL} (hf : FX11_state I L a0 a1 a2 a3 a4 = some out) : tq_K S mX11_state (d + 7) [.ref a0, .int a1, .int a2, .int a3, .int a4] I L (tq_one2 (some (.int out.1)) out.2.1 out.2.2) := by
  unfold FX11_state at hf
  refine tq_K_of (by decide) (Nat.le_of_ble_eq_true rfl) (ls := [.ref a0, .int a1, .int a2, .int a3, .int a4, tq_u, tq_u]) rfl ?_
  refine tq_aload_n rX11_state_0 rfl ?_
  refine ty_getR rX11_state_1 f_X11_10 rfl h0 (hp_11_0 h0).1 ?_
  refine tq_iload_n rX11_state_4 rfl ?_
  obtain ⟨p1, e1, hf⟩ := Option.bind_eq_some_iff.mp hf
  refine ty_callVA p1 ([.int a1]) ([]) rX11_state_5 l_X11_102 moX0_hillAt mvX0_hillAt (hp_11_0 h0).2.1 rfl rfl (Nat.le_of_ble_eq_true rfl) ⟨rfl, rfl⟩ (CX0_hillAt (hp_11_0 h0).2.1 e1) ?_
  rcases tq_oelim hf with ⟨t2q, hf⟩ | ⟨t2, t2q, hf⟩
  · rw [t2q]
    refine tq_astoreN ([.ref a0, .int a1, .int a2, .int a3, .int a4, .null, tq_u]) rX11_state_8 (Nat.le_of_ble_eq_true rfl) rfl ?_
    refine tq_aload_n rX11_state_10 rfl ?_
    refine ty_getR rX11_state_11 f_X11_10 rfl h0 (hp_11_0 h0).1 ?_
    refine tq_iload_n rX11_state_14 rfl ?_
    obtain ⟨p3, e3, hf⟩ := Option.bind_eq_some_iff.mp hf
    refine ty_callVA p3 ([.int a2]) ([]) rX11_state_15 l_X11_130 moX0_yearAt mvX0_yearAt (hp_11_0 h0).2.1 rfl rfl (Nat.le_of_ble_eq_true rfl) ⟨rfl, rfl⟩ (CX0_yearAt (hp_11_0 h0).2.1 e3) ?_
    rcases tq_oelim hf with ⟨t4q, hf⟩ | ⟨t4, t4q, hf⟩
    · rw [t4q]
      refine tq_astoreN ([.ref a0, .int a1, .int a2, .int a3, .int a4, .null, .null]) rX11_state_18 (Nat.le_of_ble_eq_true rfl) rfl ?_
      refine tq_aloadN rX11_state_20 rfl ?_
      refine tq_ifnullN rX11_state_22 ?_
      exact tq_forget _ (tq_le_u (tq_le_u (tq_le_u (tq_le_u (tq_le_u (tq_le_u (tq_le_u tq_le_n))))))) (FX11_state_j43_x   hf ⟨rfl, rfl, rfl⟩)
    · have t4h := RX0_yearAt (hp_11_0 h0).2.1 e3 t4q
      rw [t4q]
      refine tq_astore ([.ref a0, .int a1, .int a2, .int a3, .int a4, .null, .ref t4]) rX11_state_18 (Nat.le_of_ble_eq_true rfl) rfl ?_
      refine tq_aloadN rX11_state_20 rfl ?_
      refine tq_ifnullN rX11_state_22 ?_
      exact tq_forget _ (tq_le_u (tq_le_u (tq_le_u (tq_le_u (tq_le_u (tq_le_u (tq_le_u tq_le_n))))))) (FX11_state_j43_x   hf ⟨rfl, rfl, rfl⟩)
  · have t2h := RX0_hillAt (hp_11_0 h0).2.1 e1 t2q
    rw [t2q]
    refine tq_astore ([.ref a0, .int a1, .int a2, .int a3, .int a4, .ref t2, tq_u]) rX11_state_8 (Nat.le_of_ble_eq_true rfl) rfl ?_
    refine tq_aload_n rX11_state_10 rfl ?_
    refine ty_getR rX11_state_11 f_X11_10 rfl h0 (hp_11_0 h0).1 ?_
    refine tq_iload_n rX11_state_14 rfl ?_
    obtain ⟨p5, e5, hf⟩ := Option.bind_eq_some_iff.mp hf
    refine ty_callVA p5 ([.int a2]) ([]) rX11_state_15 l_X11_130 moX0_yearAt mvX0_yearAt (hp_11_0 h0).2.1 rfl rfl (Nat.le_of_ble_eq_true rfl) ⟨rfl, rfl⟩ (CX0_yearAt (hp_11_0 h0).2.1 e5) ?_
    rcases tq_oelim hf with ⟨t6q, hf⟩ | ⟨t6, t6q, hf⟩
    · rw [t6q]
      refine tq_astoreN ([.ref a0, .int a1, .int a2, .int a3, .int a4, .ref t2, .null]) rX11_state_18 (Nat.le_of_ble_eq_true rfl) rfl ?_
      refine tq_aload rX11_state_20 rfl ?_
      refine tq_ifnullR rX11_state_22 ?_
      refine tq_aloadN rX11_state_25 rfl ?_
      refine tq_ifnullN rX11_state_27 ?_
      exact tq_forget _ (tq_le_u (tq_le_u (tq_le_u (tq_le_u (tq_le_u (tq_le_u (tq_le_u tq_le_n))))))) (FX11_state_j43_x   hf ⟨rfl, rfl, rfl⟩)
    · have t6h := RX0_yearAt (hp_11_0 h0).2.1 e5 t6q
      rw [t6q]
      refine tq_astore ([.ref a0, .int a1, .int a2, .int a3, .int a4, .ref t2, .ref t6]) rX11_state_18 (Nat.le_of_ble_eq_true rfl) rfl ?_
      refine tq_aload rX11_state_20 rfl ?_
      refine tq_ifnullR rX11_state_22 ?_
      refine tq_aload rX11_state_25 rfl ?_
      refine tq_ifnullR rX11_state_27 ?_
      refine tq_iload_n rX11_state_30 rfl ?_
      refine tq_if_lt rX11_state_31 (fun c7 => ?_) (fun c7 => ?_)
      · rw [if_pos c7] at hf
        exact tq_forget _ (tq_le_u (tq_le_u (tq_le_u (tq_le_u (tq_le_u (tq_le_u (tq_le_u tq_le_n))))))) (FX11_state_j43_x   hf ⟨rfl, rfl, rfl⟩)
      · rw [if_neg c7] at hf
        refine tq_iload_n rX11_state_34 rfl ?_
        refine tq_aload rX11_state_35 rfl ?_
        refine ty_getI rX11_state_37 f_X11_134 rfl t6h ?_
        refine tq_icmp_le rX11_state_40 (fun c8 => ?_) (fun c8 => ?_)
        · rw [if_pos c8] at hf
          refine tq_aload_n rX11_state_46 rfl ?_
          refine ty_getR rX11_state_47 f_X11_34 rfl h0 (hp_11_4 h0).1 ?_
          refine tq_aload rX11_state_50 rfl ?_
          refine tq_aload rX11_state_52 rfl ?_
          refine tq_iload_n rX11_state_54 rfl ?_
          obtain ⟨p9, e9, hf⟩ := Option.bind_eq_some_iff.mp hf
          refine ty_callVI p9.1 ([.ref t2, .ref t6, .int a3]) ([]) rX11_state_55 l_X11_148 moX8_replay mvX8_replay (hp_11_4 h0).2.1 rfl rfl (Nat.le_of_ble_eq_true rfl) ⟨rfl, rfl⟩ (CX8_replay (hp_11_4 h0).2.1 t2h t6h e9) ?_
          refine tq_iload_n rX11_state_58 rfl ?_
          refine tq_icmp_ge rX11_state_59 (fun c10 => ?_) (fun c10 => ?_)
          · rw [if_pos c10] at hf
            refine tq_aload_n rX11_state_65 rfl ?_
            refine ty_getR rX11_state_66 f_X11_34 rfl h0 (hp_11_4 h0).1 ?_
            refine tq_iload rX11_state_69 rfl ?_
            obtain ⟨p11, e11, hf⟩ := Option.bind_eq_some_iff.mp hf
            refine ty_callVI p11 ([.int a4]) ([]) rX11_state_71 l_X11_152 moX8_answer mvX8_answer (hp_11_4 h0).2.1 rfl rfl (Nat.le_of_ble_eq_true rfl) ⟨rfl, rfl⟩ (CX8_answer (hp_11_4 h0).2.1 e11) ?_
            refine ty_iret rX11_state_74 rfl rfl ?_
            have hf := Option.some.inj hf
            subst hf
            exact ⟨rfl, rfl, rfl⟩
          · rw [if_neg c10] at hf
            refine tq_bipush (-2 : Int32) rX11_state_62 (by decide) ?_
            refine ty_iret rX11_state_64 rfl rfl ?_
            have hf := Option.some.inj hf
            subst hf
            exact ⟨rfl, rfl, rfl⟩
        · rw [if_neg c8] at hf
          exact tq_forget _ (tq_le_u (tq_le_u (tq_le_u (tq_le_u (tq_le_u (tq_le_u (tq_le_u tq_le_n))))))) (FX11_state_j43_x   hf ⟨rfl, rfl, rfl⟩)

abbrev mX11_thick : tq_M := (yX11_thick, cX11_thick, 3, (Option.some Jvm.ClassFile.FieldType.int), 0, 0)
theorem l_X11_155 : tq_lok RX11 155 mX3_solid.1 := Or.inl (tq_sg4 _ (List.mem_of_getElem? (i := 111) rfl))
theorem l_X11_158 : tq_lok RX11 158 mX3_thickness.1 := Or.inl (tq_sg4 _ (List.mem_of_getElem? (i := 112) rfl))
theorem rX11_thick_0 : tq_D cX11_thick 0 (.aload_n 0) 1 1 := ⟨by decide +kernel, rfl⟩
theorem rX11_thick_1 : tq_D cX11_thick 1 (.getfield 10) 3 4 := ⟨by decide +kernel, rfl⟩
theorem rX11_thick_4 : tq_D cX11_thick 4 (.iload_n 1) 1 5 := ⟨by decide +kernel, rfl⟩
theorem rX11_thick_5 : tq_D cX11_thick 5 (.invokevirtual 102) 3 8 := ⟨by decide +kernel, rfl⟩
theorem rX11_thick_8 : tq_D cX11_thick 8 (.astore_n 2) 1 9 := ⟨by decide +kernel, rfl⟩
theorem rX11_thick_9 : tq_D cX11_thick 9 (.aload_n 2) 1 10 := ⟨by decide +kernel, rfl⟩
theorem rX11_thick_10 : tq_J cX11_thick 10 .ifnonnull 17 13 := ⟨7, by decide +kernel, by decide, rfl⟩
theorem rX11_thick_13 : tq_D cX11_thick 13 (.iconst (-1)) 1 14 := ⟨by decide +kernel, rfl⟩
theorem rX11_thick_14 : tq_J cX11_thick 14 .goto 25 17 := ⟨11, by decide +kernel, by decide, rfl⟩
theorem rX11_thick_17 : tq_D cX11_thick 17 (.aload_n 2) 1 18 := ⟨by decide +kernel, rfl⟩
theorem rX11_thick_18 : tq_D cX11_thick 18 (.aload_n 2) 1 19 := ⟨by decide +kernel, rfl⟩
theorem rX11_thick_19 : tq_D cX11_thick 19 (.invokevirtual 155) 3 22 := ⟨by decide +kernel, rfl⟩
theorem rX11_thick_22 : tq_D cX11_thick 22 (.invokevirtual 158) 3 25 := ⟨by decide +kernel, rfl⟩
theorem rX11_thick_25 : decode cX11_thick 25 = .ok (.ireturn, 1) := by decide +kernel
noncomputable def FX11_thick (I : tq_PI) (L : tq_PL) (a0 : Nat) (a1 : Int32) : Option (Int32) :=
  ((FX0_hillAt I L ((tq_rg a0 0)) a1).bind fun p1 =>  (p1.elim (some (-1 : Int32)) (fun t2 => (tq_let (FX3_solid I L t2) fun p3 => ((FX3_thickness I L t2 p3).bind fun p4 => some p4)))))
set_option maxRecDepth 100000 in
set_option maxHeartbeats 4000000 in
theorem CX11_thick {S : Nat × (Nat → Int32)} {d : Nat} {I : tq_PI} {L : tq_PL} {a0 : Nat} {a1 : Int32} (h0 : tq_sh0 a0 = 11) {out : Int32} (hf : FX11_thick I L a0 a1 = some out) : tq_K S mX11_thick (d + 5) [.ref a0, .int a1] I L (tq_one2 (some (.int out)) I L) := by
  unfold FX11_thick at hf
  refine tq_K_of (by decide) (Nat.le_of_ble_eq_true rfl) (ls := [.ref a0, .int a1, tq_u]) rfl ?_
  refine tq_aload_n rX11_thick_0 rfl ?_
  refine ty_getR rX11_thick_1 f_X11_10 rfl h0 (hp_11_0 h0).1 ?_
  refine tq_iload_n rX11_thick_4 rfl ?_
  obtain ⟨p1, e1, hf⟩ := Option.bind_eq_some_iff.mp hf
  refine ty_callVA p1 ([.int a1]) ([]) rX11_thick_5 l_X11_102 moX0_hillAt mvX0_hillAt (hp_11_0 h0).2.1 rfl rfl (Nat.le_of_ble_eq_true rfl) ⟨rfl, rfl⟩ (CX0_hillAt (hp_11_0 h0).2.1 e1) ?_
  rcases tq_oelim hf with ⟨t2q, hf⟩ | ⟨t2, t2q, hf⟩
  · rw [t2q]
    refine tq_astoreN_n ([.ref a0, .int a1, .null]) rX11_thick_8 (Nat.le_of_ble_eq_true rfl) rfl ?_
    refine tq_aloadN_n rX11_thick_9 rfl ?_
    refine tq_ifnonnullN rX11_thick_10 ?_
    refine tq_iconst (-1 : Int32) rX11_thick_13 (by decide) ?_
    refine tq_goto rX11_thick_14 ?_
    refine ty_iret rX11_thick_25 rfl rfl ?_
    have hf := Option.some.inj hf
    subst hf
    exact ⟨rfl, rfl, rfl⟩
  · have t2h := RX0_hillAt (hp_11_0 h0).2.1 e1 t2q
    rw [t2q]
    refine tq_astore_n ([.ref a0, .int a1, .ref t2]) rX11_thick_8 (Nat.le_of_ble_eq_true rfl) rfl ?_
    refine tq_aload_n rX11_thick_9 rfl ?_
    refine tq_ifnonnullR rX11_thick_10 ?_
    refine tq_aload_n rX11_thick_17 rfl ?_
    refine tq_aload_n rX11_thick_18 rfl ?_
    obtain ⟨p3, e3, hf⟩ := tq_let_elim hf
    refine ty_callVJ p3 ([]) ([.ref t2]) rX11_thick_19 l_X11_155 moX3_solid mvX3_solid t2h rfl rfl (Nat.le_of_ble_eq_true rfl) ⟨rfl, rfl⟩ (CX3_solid t2h e3) ?_
    obtain ⟨p4, e4, hf⟩ := Option.bind_eq_some_iff.mp hf
    refine ty_callVI p4 ([.long p3]) ([]) rX11_thick_22 l_X11_158 moX3_thickness mvX3_thickness t2h rfl rfl (Nat.le_of_ble_eq_true rfl) ⟨rfl, rfl⟩ (CX3_thickness t2h e4) ?_
    refine ty_iret rX11_thick_25 rfl rfl ?_
    have hf := Option.some.inj hf
    subst hf
    exact ⟨rfl, rfl, rfl⟩

abbrev mX11_isSide : tq_M := (yX11_isSide, cX11_isSide, 1, (Option.some Jvm.ClassFile.FieldType.boolean), 0, 0)
theorem rX11_isSide_0 : tq_D cX11_isSide 0 (.iload_n 0) 1 1 := ⟨by decide +kernel, rfl⟩
theorem rX11_isSide_1 : tq_J cX11_isSide 1 (.ifCond .eq) 9 4 := ⟨8, by decide +kernel, by decide, rfl⟩
theorem rX11_isSide_4 : tq_D cX11_isSide 4 (.iload_n 0) 1 5 := ⟨by decide +kernel, rfl⟩
theorem rX11_isSide_5 : tq_D cX11_isSide 5 (.iconst 1) 1 6 := ⟨by decide +kernel, rfl⟩
theorem rX11_isSide_6 : tq_J cX11_isSide 6 (.if_icmp .ne) 13 9 := ⟨7, by decide +kernel, by decide, rfl⟩
theorem rX11_isSide_9 : tq_D cX11_isSide 9 (.iconst 1) 1 10 := ⟨by decide +kernel, rfl⟩
theorem rX11_isSide_10 : tq_J cX11_isSide 10 .goto 14 13 := ⟨4, by decide +kernel, by decide, rfl⟩
theorem rX11_isSide_13 : tq_D cX11_isSide 13 (.iconst 0) 1 14 := ⟨by decide +kernel, rfl⟩
theorem rX11_isSide_14 : decode cX11_isSide 14 = .ok (.ireturn, 1) := by decide +kernel
noncomputable def FX11_isSide_j9 (I : tq_PI) (L : tq_PL)  : Bool :=
  true
noncomputable def FX11_isSide (I : tq_PI) (L : tq_PL) (a0 : Int32) : Bool :=
  (if a0 = 0 then (FX11_isSide_j9 I L ) else (if a0 = (1 : Int32) then (FX11_isSide_j9 I L ) else false))
set_option maxRecDepth 100000 in
set_option maxHeartbeats 4000000 in
theorem FX11_isSide_j9_x {S : Nat × (Nat → Int32)} {d : Nat} {I : tq_PI} {L : tq_PL}   {q0 : Option Value → tq_PI → tq_PL → Prop} {out : Bool} (hf : FX11_isSide_j9 I L = out) (hk : q0 (some (.int (tq_b out))) I L) : tq_X S mX11_isSide d tq_k0 9 ([tq_u]) ([]) (tq_st I L) (tq_Q q0) := by
  unfold FX11_isSide_j9 at hf
  refine tq_iconst (1 : Int32) rX11_isSide_9 (by decide) ?_
  refine tq_goto rX11_isSide_10 ?_
  refine ty_zret (ty := .boolean) rX11_isSide_14 rfl rfl rfl ?_
  subst hf
  exact hk

set_option maxRecDepth 100000 in
set_option maxHeartbeats 4000000 in
theorem CX11_isSide {S : Nat × (Nat → Int32)} {d : Nat} {I : tq_PI} {L : tq_PL} {a0 : Int32}  {out : Bool} (hf : FX11_isSide I L a0 = out) : tq_K S mX11_isSide d [.int a0] I L (tq_one2 (some (.int (tq_b out))) I L) := by
  unfold FX11_isSide at hf
  refine tq_K_of (by decide) (Nat.le_of_ble_eq_true rfl) (ls := [.int a0]) rfl ?_
  refine tq_iload_n rX11_isSide_0 rfl ?_
  refine tq_if_eq rX11_isSide_1 (fun c1 => ?_) (fun c1 => ?_)
  · rw [if_pos c1] at hf
    exact tq_forget _ (tq_le_u tq_le_n) (FX11_isSide_j9_x   hf ⟨rfl, rfl, rfl⟩)
  · rw [if_neg c1] at hf
    refine tq_iload_n rX11_isSide_4 rfl ?_
    refine tq_iconst (1 : Int32) rX11_isSide_5 (by decide) ?_
    refine tq_icmp_ne rX11_isSide_6 (fun c2 => ?_) (fun c2 => ?_)
    · rw [if_neg c2] at hf
      refine tq_iconst (0 : Int32) rX11_isSide_13 (by decide) ?_
      refine ty_zret (ty := .boolean) rX11_isSide_14 rfl rfl rfl ?_
      subst hf
      exact ⟨rfl, rfl, rfl⟩
    · rw [if_pos c2] at hf
      exact tq_forget _ (tq_le_u tq_le_n) (FX11_isSide_j9_x   hf ⟨rfl, rfl, rfl⟩)

abbrev mX11_cuts : tq_M := (yX11_cuts, cX11_cuts, 8, (Option.some Jvm.ClassFile.FieldType.int), 0, 0)
theorem moX3_pick : tq_mok mX3_pick 2 := ⟨tq_sg1 _ (List.mem_of_getElem? (i := 3) rfl), tq_sg4 _ (List.mem_of_getElem? (i := 131) rfl), ⟨by decide, by decide, by decide +kernel⟩, by decide⟩
theorem mvX3_pick : 3 < 13 ∧ (tq_cl 3).1 = mX3_pick.1.cls ∧ Cond.instanceMethod mX3_pick.1 ∈ lw_tbl ∧ Cond.selects mX3_pick.1.cls mX3_pick.1 mX3_pick.1 ∈ lw_tbl := ⟨by decide, rfl, tq_sg4 _ (List.mem_of_getElem? (i := 129) rfl), tq_sg4 _ (List.mem_of_getElem? (i := 130) rfl)⟩
theorem moX11_isSide : tq_mok mX11_isSide 1 := ⟨tq_sg1 _ (List.mem_of_getElem? (i := 1) rfl), tq_sg4 _ (List.mem_of_getElem? (i := 119) rfl), ⟨by decide, by decide, by decide +kernel⟩, by decide⟩
theorem msX11_isSide : Cond.static mX11_isSide.1 ∈ lw_tbl := tq_sg4 _ (List.mem_of_getElem? (i := 118) rfl)
theorem l_X11_161 : tq_lok RX11 161 mX11_isSide.1 := Or.inl (tq_sg4 _ (List.mem_of_getElem? (i := 117) rfl))
theorem l_X11_165 : tq_lok RX11 165 mX3_safeFor.1 := Or.inl (tq_sg4 _ (List.mem_of_getElem? (i := 120) rfl))
theorem l_X11_169 : tq_lok RX11 169 mX3_cuttable.1 := Or.inl (tq_sg4 _ (List.mem_of_getElem? (i := 127) rfl))
theorem l_X11_172 : tq_lok RX11 172 mX3_pick.1 := Or.inl (tq_sg4 _ (List.mem_of_getElem? (i := 128) rfl))
theorem rX11_cuts_0 : tq_D cX11_cuts 0 (.aload_n 0) 1 1 := ⟨by decide +kernel, rfl⟩
theorem rX11_cuts_1 : tq_D cX11_cuts 1 (.getfield 10) 3 4 := ⟨by decide +kernel, rfl⟩
theorem rX11_cuts_4 : tq_D cX11_cuts 4 (.iload_n 1) 1 5 := ⟨by decide +kernel, rfl⟩
theorem rX11_cuts_5 : tq_D cX11_cuts 5 (.invokevirtual 102) 3 8 := ⟨by decide +kernel, rfl⟩
theorem rX11_cuts_8 : tq_D cX11_cuts 8 (.astore 5) 2 10 := ⟨by decide +kernel, rfl⟩
theorem rX11_cuts_10 : tq_D cX11_cuts 10 (.aload 5) 2 12 := ⟨by decide +kernel, rfl⟩
theorem rX11_cuts_12 : tq_J cX11_cuts 12 .ifnull 22 15 := ⟨10, by decide +kernel, by decide, rfl⟩
theorem rX11_cuts_15 : tq_D cX11_cuts 15 (.iload_n 2) 1 16 := ⟨by decide +kernel, rfl⟩
theorem rX11_cuts_16 : tq_D cX11_cuts 16 (.invokestatic 161) 3 19 := ⟨by decide +kernel, rfl⟩
theorem rX11_cuts_19 : tq_J cX11_cuts 19 (.ifCond .ne) 24 22 := ⟨5, by decide +kernel, by decide, rfl⟩
theorem rX11_cuts_22 : tq_D cX11_cuts 22 (.iconst (-1)) 1 23 := ⟨by decide +kernel, rfl⟩
theorem rX11_cuts_23 : decode cX11_cuts 23 = .ok (.ireturn, 1) := by decide +kernel
theorem rX11_cuts_24 : tq_D cX11_cuts 24 (.iload_n 3) 1 25 := ⟨by decide +kernel, rfl⟩
theorem rX11_cuts_25 : tq_J cX11_cuts 25 (.ifCond .eq) 42 28 := ⟨17, by decide +kernel, by decide, rfl⟩
theorem rX11_cuts_28 : tq_D cX11_cuts 28 (.aload 5) 2 30 := ⟨by decide +kernel, rfl⟩
theorem rX11_cuts_30 : tq_D cX11_cuts 30 (.iload_n 2) 1 31 := ⟨by decide +kernel, rfl⟩
theorem rX11_cuts_31 : tq_D cX11_cuts 31 (.aload 5) 2 33 := ⟨by decide +kernel, rfl⟩
theorem rX11_cuts_33 : tq_D cX11_cuts 33 (.invokevirtual 155) 3 36 := ⟨by decide +kernel, rfl⟩
theorem rX11_cuts_36 : tq_D cX11_cuts 36 (.invokevirtual 165) 3 39 := ⟨by decide +kernel, rfl⟩
theorem rX11_cuts_39 : tq_J cX11_cuts 39 .goto 53 42 := ⟨14, by decide +kernel, by decide, rfl⟩
theorem rX11_cuts_42 : tq_D cX11_cuts 42 (.aload 5) 2 44 := ⟨by decide +kernel, rfl⟩
theorem rX11_cuts_44 : tq_D cX11_cuts 44 (.iload_n 2) 1 45 := ⟨by decide +kernel, rfl⟩
theorem rX11_cuts_45 : tq_D cX11_cuts 45 (.aload 5) 2 47 := ⟨by decide +kernel, rfl⟩
theorem rX11_cuts_47 : tq_D cX11_cuts 47 (.invokevirtual 155) 3 50 := ⟨by decide +kernel, rfl⟩
theorem rX11_cuts_50 : tq_D cX11_cuts 50 (.invokevirtual 169) 3 53 := ⟨by decide +kernel, rfl⟩
theorem rX11_cuts_53 : tq_D cX11_cuts 53 (.lstore 6) 2 55 := ⟨by decide +kernel, rfl⟩
theorem rX11_cuts_55 : tq_D cX11_cuts 55 (.iload 4) 2 57 := ⟨by decide +kernel, rfl⟩
theorem rX11_cuts_57 : tq_D cX11_cuts 57 (.iconst (-1)) 1 58 := ⟨by decide +kernel, rfl⟩
theorem rX11_cuts_58 : tq_J cX11_cuts 58 (.if_icmp .ne) 69 61 := ⟨11, by decide +kernel, by decide, rfl⟩
theorem rX11_cuts_61 : tq_D cX11_cuts 61 (.lload 6) 2 63 := ⟨by decide +kernel, rfl⟩
theorem rX11_cuts_63 : tq_D cX11_cuts 63 (.invokestatic 118) 3 66 := ⟨by decide +kernel, rfl⟩
theorem rX11_cuts_66 : tq_J cX11_cuts 66 .goto 78 69 := ⟨12, by decide +kernel, by decide, rfl⟩
theorem rX11_cuts_69 : tq_D cX11_cuts 69 (.aload 5) 2 71 := ⟨by decide +kernel, rfl⟩
theorem rX11_cuts_71 : tq_D cX11_cuts 71 (.lload 6) 2 73 := ⟨by decide +kernel, rfl⟩
theorem rX11_cuts_73 : tq_D cX11_cuts 73 (.iload 4) 2 75 := ⟨by decide +kernel, rfl⟩
theorem rX11_cuts_75 : tq_D cX11_cuts 75 (.invokevirtual 172) 3 78 := ⟨by decide +kernel, rfl⟩
theorem rX11_cuts_78 : decode cX11_cuts 78 = .ok (.ireturn, 1) := by decide +kernel
noncomputable def FX11_cuts_j22 (I : tq_PI) (L : tq_PL)  : Option (Int32) :=
  some (-1 : Int32)
noncomputable def FX11_cuts_j53 (I : tq_PI) (L : tq_PL) (a4 : Int32) (a5 : Nat) (b0 : Int64) : Option (Int32) :=
  (if a4 = (-1 : Int32) then (tq_let (FJ13_bitCount_95d88 I L b0) fun p10 => some p10) else ((FX3_pick I L a5 b0 a4).bind fun p9 => some p9))
noncomputable def FX11_cuts (I : tq_PI) (L : tq_PL) (a0 : Nat) (a1 : Int32) (a2 : Int32) (a3 : Int32) (a4 : Int32) : Option (Int32) :=
  ((FX0_hillAt I L ((tq_rg a0 0)) a1).bind fun p1 =>  (p1.elim ((FX11_cuts_j22 I L )) (fun t2 => (tq_let (FX11_isSide I L a2) fun p3 => (if (tq_b p3) = 0 then (FX11_cuts_j22 I L ) else (if a3 = 0 then (tq_let (FX3_solid I L t2) fun p6 => ((FX3_cuttable I L t2 a2 p6).bind fun p7 => (FX11_cuts_j53 I L a4 t2 p7))) else (tq_let (FX3_solid I L t2) fun p11 => ((FX3_safeFor I L t2 a2 p11).bind fun p12 => (FX11_cuts_j53 I L a4 t2 p12)))))))))
set_option maxRecDepth 100000 in
set_option maxHeartbeats 4000000 in
theorem FX11_cuts_j22_x {S : Nat × (Nat → Int32)} {d : Nat} {I : tq_PI} {L : tq_PL}   {q0 : Option Value → tq_PI → tq_PL → Prop} {out : Int32} (hf : FX11_cuts_j22 I L = some out) (hk : q0 (some (.int out)) I L) : tq_X S mX11_cuts (d + 4) tq_k0 22 ([tq_u, tq_u, tq_u, tq_u, tq_u, tq_u, tq_u, tq_u]) ([]) (tq_st I L) (tq_Q q0) := by
  unfold FX11_cuts_j22 at hf
  refine tq_iconst (-1 : Int32) rX11_cuts_22 (by decide) ?_
  refine ty_iret rX11_cuts_23 rfl rfl ?_
  have hf := Option.some.inj hf
  subst hf
  exact hk

set_option maxRecDepth 100000 in
set_option maxHeartbeats 4000000 in
theorem FX11_cuts_j53_x {S : Nat × (Nat → Int32)} {d : Nat} {I : tq_PI} {L : tq_PL} {a4 : Int32} {a5 : Nat} {b0 : Int64} (h5 : tq_sh0 a5 = 3) {q0 : Option Value → tq_PI → tq_PL → Prop} {out : Int32} (hf : FX11_cuts_j53 I L a4 a5 b0 = some out) (hk : q0 (some (.int out)) I L) : tq_X S mX11_cuts (d + 4) tq_k0 53 ([tq_u, tq_u, tq_u, tq_u, .int a4, .ref a5, tq_u, tq_u]) ([.long b0]) (tq_st I L) (tq_Q q0) := by
  unfold FX11_cuts_j53 at hf
  refine tq_lstore ([tq_u, tq_u, tq_u, tq_u, .int a4, .ref a5, .long b0, tq_u]) rX11_cuts_53 (Nat.le_of_ble_eq_true rfl) rfl ?_
  refine tq_iload rX11_cuts_55 rfl ?_
  refine tq_iconst (-1 : Int32) rX11_cuts_57 (by decide) ?_
  refine tq_icmp_ne rX11_cuts_58 (fun c8 => ?_) (fun c8 => ?_)
  · rw [if_neg c8] at hf
    refine tq_aload rX11_cuts_69 rfl ?_
    refine tq_lload rX11_cuts_71 rfl ?_
    refine tq_iload rX11_cuts_73 rfl ?_
    obtain ⟨p9, e9, hf⟩ := Option.bind_eq_some_iff.mp hf
    refine ty_callVI p9 ([.long b0, .int a4]) ([]) rX11_cuts_75 l_X11_172 moX3_pick mvX3_pick h5 rfl rfl (Nat.le_of_ble_eq_true rfl) ⟨rfl, rfl⟩ (CX3_pick h5 e9) ?_
    refine ty_iret rX11_cuts_78 rfl rfl ?_
    have hf := Option.some.inj hf
    subst hf
    exact hk
  · rw [if_pos c8] at hf
    refine tq_lload rX11_cuts_61 rfl ?_
    obtain ⟨p10, e10, hf⟩ := tq_let_elim hf
    refine ty_callSI p10 ([.long b0]) ([]) rX11_cuts_63 l_X11_118 moJ13_bitCount_95d88 msJ13_bitCount_95d88 rfl rfl (Nat.le_of_ble_eq_true rfl) ⟨rfl, rfl⟩ (CJ13_bitCount_95d88  e10) ?_
    refine tq_goto rX11_cuts_66 ?_
    refine ty_iret rX11_cuts_78 rfl rfl ?_
    have hf := Option.some.inj hf
    subst hf
    exact hk

set_option maxRecDepth 100000 in
set_option maxHeartbeats 4000000 in
theorem CX11_cuts {S : Nat × (Nat → Int32)} {d : Nat} {I : tq_PI} {L : tq_PL} {a0 : Nat} {a1 : Int32} {a2 : Int32} {a3 : Int32} {a4 : Int32} (h0 : tq_sh0 a0 = 11) {out : Int32} (hf : FX11_cuts I L a0 a1 a2 a3 a4 = some out) : tq_K S mX11_cuts (d + 4) [.ref a0, .int a1, .int a2, .int a3, .int a4] I L (tq_one2 (some (.int out)) I L) := by
  unfold FX11_cuts at hf
  refine tq_K_of (by decide) (Nat.le_of_ble_eq_true rfl) (ls := [.ref a0, .int a1, .int a2, .int a3, .int a4, tq_u, tq_u, tq_u]) rfl ?_
  refine tq_aload_n rX11_cuts_0 rfl ?_
  refine ty_getR rX11_cuts_1 f_X11_10 rfl h0 (hp_11_0 h0).1 ?_
  refine tq_iload_n rX11_cuts_4 rfl ?_
  obtain ⟨p1, e1, hf⟩ := Option.bind_eq_some_iff.mp hf
  refine ty_callVA p1 ([.int a1]) ([]) rX11_cuts_5 l_X11_102 moX0_hillAt mvX0_hillAt (hp_11_0 h0).2.1 rfl rfl (Nat.le_of_ble_eq_true rfl) ⟨rfl, rfl⟩ (CX0_hillAt (hp_11_0 h0).2.1 e1) ?_
  rcases tq_oelim hf with ⟨t2q, hf⟩ | ⟨t2, t2q, hf⟩
  · rw [t2q]
    refine tq_astoreN ([.ref a0, .int a1, .int a2, .int a3, .int a4, .null, tq_u, tq_u]) rX11_cuts_8 (Nat.le_of_ble_eq_true rfl) rfl ?_
    refine tq_aloadN rX11_cuts_10 rfl ?_
    refine tq_ifnullN rX11_cuts_12 ?_
    exact tq_forget _ (tq_le_u (tq_le_u (tq_le_u (tq_le_u (tq_le_u (tq_le_u (tq_le_u (tq_le_u tq_le_n)))))))) (FX11_cuts_j22_x   hf ⟨rfl, rfl, rfl⟩)
  · have t2h := RX0_hillAt (hp_11_0 h0).2.1 e1 t2q
    rw [t2q]
    refine tq_astore ([.ref a0, .int a1, .int a2, .int a3, .int a4, .ref t2, tq_u, tq_u]) rX11_cuts_8 (Nat.le_of_ble_eq_true rfl) rfl ?_
    refine tq_aload rX11_cuts_10 rfl ?_
    refine tq_ifnullR rX11_cuts_12 ?_
    refine tq_iload_n rX11_cuts_15 rfl ?_
    obtain ⟨p3, e3, hf⟩ := tq_let_elim hf
    refine ty_callSI (tq_b p3) ([.int a2]) ([]) rX11_cuts_16 l_X11_161 moX11_isSide msX11_isSide rfl rfl (Nat.le_of_ble_eq_true rfl) ⟨rfl, rfl⟩ (CX11_isSide  e3) ?_
    refine tq_if_ne rX11_cuts_19 (fun c4 => ?_) (fun c4 => ?_)
    · rw [if_neg c4] at hf
      refine tq_iload_n rX11_cuts_24 rfl ?_
      refine tq_if_eq rX11_cuts_25 (fun c5 => ?_) (fun c5 => ?_)
      · rw [if_pos c5] at hf
        refine tq_aload rX11_cuts_42 rfl ?_
        refine tq_iload_n rX11_cuts_44 rfl ?_
        refine tq_aload rX11_cuts_45 rfl ?_
        obtain ⟨p6, e6, hf⟩ := tq_let_elim hf
        refine ty_callVJ p6 ([]) ([.int a2, .ref t2]) rX11_cuts_47 l_X11_155 moX3_solid mvX3_solid t2h rfl rfl (Nat.le_of_ble_eq_true rfl) ⟨rfl, rfl⟩ (CX3_solid t2h e6) ?_
        obtain ⟨p7, e7, hf⟩ := Option.bind_eq_some_iff.mp hf
        refine ty_callVJ p7 ([.int a2, .long p6]) ([]) rX11_cuts_50 l_X11_169 moX3_cuttable mvX3_cuttable t2h rfl rfl (Nat.le_of_ble_eq_true rfl) ⟨rfl, rfl⟩ (CX3_cuttable t2h e7) ?_
        exact tq_forget _ (tq_le_u (tq_le_u (tq_le_u (tq_le_u (tq_le_s (tq_le_s (tq_le_u (tq_le_u tq_le_n)))))))) (FX11_cuts_j53_x  t2h hf ⟨rfl, rfl, rfl⟩)
      · rw [if_neg c5] at hf
        refine tq_aload rX11_cuts_28 rfl ?_
        refine tq_iload_n rX11_cuts_30 rfl ?_
        refine tq_aload rX11_cuts_31 rfl ?_
        obtain ⟨p11, e11, hf⟩ := tq_let_elim hf
        refine ty_callVJ p11 ([]) ([.int a2, .ref t2]) rX11_cuts_33 l_X11_155 moX3_solid mvX3_solid t2h rfl rfl (Nat.le_of_ble_eq_true rfl) ⟨rfl, rfl⟩ (CX3_solid t2h e11) ?_
        obtain ⟨p12, e12, hf⟩ := Option.bind_eq_some_iff.mp hf
        refine ty_callVJ p12 ([.int a2, .long p11]) ([]) rX11_cuts_36 l_X11_165 moX3_safeFor mvX3_safeFor t2h rfl rfl (Nat.le_of_ble_eq_true rfl) ⟨rfl, rfl⟩ (CX3_safeFor t2h e12) ?_
        refine tq_goto rX11_cuts_39 ?_
        exact tq_forget _ (tq_le_u (tq_le_u (tq_le_u (tq_le_u (tq_le_s (tq_le_s (tq_le_u (tq_le_u tq_le_n)))))))) (FX11_cuts_j53_x  t2h hf ⟨rfl, rfl, rfl⟩)
    · rw [if_pos c4] at hf
      exact tq_forget _ (tq_le_u (tq_le_u (tq_le_u (tq_le_u (tq_le_u (tq_le_u (tq_le_u (tq_le_u tq_le_n)))))))) (FX11_cuts_j22_x   hf ⟨rfl, rfl, rfl⟩)

abbrev mX11_fell : tq_M := (yX11_fell, cX11_fell, 6, (Option.some Jvm.ClassFile.FieldType.int), 0, 0)
theorem moX3_weakest : tq_mok mX3_weakest 0 := ⟨tq_sg1 _ (List.mem_of_getElem? (i := 3) rfl), tq_sg4 _ (List.mem_of_getElem? (i := 146) rfl), ⟨by decide, by decide, by decide +kernel⟩, by decide⟩
theorem mvX3_weakest : 3 < 13 ∧ (tq_cl 3).1 = mX3_weakest.1.cls ∧ Cond.instanceMethod mX3_weakest.1 ∈ lw_tbl ∧ Cond.selects mX3_weakest.1.cls mX3_weakest.1 mX3_weakest.1 ∈ lw_tbl := ⟨by decide, rfl, tq_sg4 _ (List.mem_of_getElem? (i := 144) rfl), tq_sg4 _ (List.mem_of_getElem? (i := 145) rfl)⟩
theorem l_X11_176 : tq_lok RX11 176 mX3_weakest.1 := Or.inl (tq_sg4 _ (List.mem_of_getElem? (i := 143) rfl))
theorem l_X11_179 : tq_lok RX11 179 mX3_lostWithout.1 := Or.inl (tq_sg4 _ (List.mem_of_getElem? (i := 152) rfl))
theorem l_X11_182 : tq_lok RX11 182 mX3_bitOf.1 := Or.inl (tq_sg4 _ (List.mem_of_getElem? (i := 153) rfl))
theorem rX11_fell_0 : tq_D cX11_fell 0 (.aload_n 0) 1 1 := ⟨by decide +kernel, rfl⟩
theorem rX11_fell_1 : tq_D cX11_fell 1 (.getfield 10) 3 4 := ⟨by decide +kernel, rfl⟩
theorem rX11_fell_4 : tq_D cX11_fell 4 (.iload_n 1) 1 5 := ⟨by decide +kernel, rfl⟩
theorem rX11_fell_5 : tq_D cX11_fell 5 (.invokevirtual 102) 3 8 := ⟨by decide +kernel, rfl⟩
theorem rX11_fell_8 : tq_D cX11_fell 8 (.astore_n 3) 1 9 := ⟨by decide +kernel, rfl⟩
theorem rX11_fell_9 : tq_D cX11_fell 9 (.aload_n 3) 1 10 := ⟨by decide +kernel, rfl⟩
theorem rX11_fell_10 : tq_J cX11_fell 10 .ifnonnull 15 13 := ⟨5, by decide +kernel, by decide, rfl⟩
theorem rX11_fell_13 : tq_D cX11_fell 13 (.iconst (-1)) 1 14 := ⟨by decide +kernel, rfl⟩
theorem rX11_fell_14 : decode cX11_fell 14 = .ok (.ireturn, 1) := by decide +kernel
theorem rX11_fell_15 : tq_D cX11_fell 15 (.iload_n 2) 1 16 := ⟨by decide +kernel, rfl⟩
theorem rX11_fell_16 : tq_D cX11_fell 16 (.iconst (-1)) 1 17 := ⟨by decide +kernel, rfl⟩
theorem rX11_fell_17 : tq_J cX11_fell 17 (.if_icmp .eq) 26 20 := ⟨9, by decide +kernel, by decide, rfl⟩
theorem rX11_fell_20 : tq_D cX11_fell 20 (.iload_n 2) 1 21 := ⟨by decide +kernel, rfl⟩
theorem rX11_fell_21 : tq_D cX11_fell 21 (.bipush (-2)) 2 23 := ⟨by decide +kernel, rfl⟩
theorem rX11_fell_23 : tq_J cX11_fell 23 (.if_icmp .ne) 63 26 := ⟨40, by decide +kernel, by decide, rfl⟩
theorem rX11_fell_26 : tq_D cX11_fell 26 (.aload_n 3) 1 27 := ⟨by decide +kernel, rfl⟩
theorem rX11_fell_27 : tq_D cX11_fell 27 (.invokevirtual 176) 3 30 := ⟨by decide +kernel, rfl⟩
theorem rX11_fell_30 : tq_D cX11_fell 30 (.lstore 4) 2 32 := ⟨by decide +kernel, rfl⟩
theorem rX11_fell_32 : tq_D cX11_fell 32 (.lload 4) 2 34 := ⟨by decide +kernel, rfl⟩
theorem rX11_fell_34 : tq_D cX11_fell 34 (.lconst 0) 1 35 := ⟨by decide +kernel, rfl⟩
theorem rX11_fell_35 : tq_D cX11_fell 35 (.lcmp) 1 36 := ⟨by decide +kernel, rfl⟩
theorem rX11_fell_36 : tq_J cX11_fell 36 (.ifCond .ne) 41 39 := ⟨5, by decide +kernel, by decide, rfl⟩
theorem rX11_fell_39 : tq_D cX11_fell 39 (.iconst (-1)) 1 40 := ⟨by decide +kernel, rfl⟩
theorem rX11_fell_40 : decode cX11_fell 40 = .ok (.ireturn, 1) := by decide +kernel
theorem rX11_fell_41 : tq_D cX11_fell 41 (.iload_n 2) 1 42 := ⟨by decide +kernel, rfl⟩
theorem rX11_fell_42 : tq_D cX11_fell 42 (.iconst (-1)) 1 43 := ⟨by decide +kernel, rfl⟩
theorem rX11_fell_43 : tq_J cX11_fell 43 (.if_icmp .ne) 55 46 := ⟨12, by decide +kernel, by decide, rfl⟩
theorem rX11_fell_46 : tq_D cX11_fell 46 (.aload_n 3) 1 47 := ⟨by decide +kernel, rfl⟩
theorem rX11_fell_47 : tq_D cX11_fell 47 (.lload 4) 2 49 := ⟨by decide +kernel, rfl⟩
theorem rX11_fell_49 : tq_D cX11_fell 49 (.invokevirtual 179) 3 52 := ⟨by decide +kernel, rfl⟩
theorem rX11_fell_52 : tq_J cX11_fell 52 .goto 62 55 := ⟨10, by decide +kernel, by decide, rfl⟩
theorem rX11_fell_55 : tq_D cX11_fell 55 (.aload_n 3) 1 56 := ⟨by decide +kernel, rfl⟩
theorem rX11_fell_56 : tq_D cX11_fell 56 (.lload 4) 2 58 := ⟨by decide +kernel, rfl⟩
theorem rX11_fell_58 : tq_D cX11_fell 58 (.iconst 0) 1 59 := ⟨by decide +kernel, rfl⟩
theorem rX11_fell_59 : tq_D cX11_fell 59 (.invokevirtual 172) 3 62 := ⟨by decide +kernel, rfl⟩
theorem rX11_fell_62 : decode cX11_fell 62 = .ok (.ireturn, 1) := by decide +kernel
theorem rX11_fell_63 : tq_D cX11_fell 63 (.aload_n 3) 1 64 := ⟨by decide +kernel, rfl⟩
theorem rX11_fell_64 : tq_D cX11_fell 64 (.invokevirtual 114) 3 67 := ⟨by decide +kernel, rfl⟩
theorem rX11_fell_67 : tq_D cX11_fell 67 (.aload_n 3) 1 68 := ⟨by decide +kernel, rfl⟩
theorem rX11_fell_68 : tq_D cX11_fell 68 (.iload_n 2) 1 69 := ⟨by decide +kernel, rfl⟩
theorem rX11_fell_69 : tq_D cX11_fell 69 (.invokevirtual 182) 3 72 := ⟨by decide +kernel, rfl⟩
theorem rX11_fell_72 : tq_D cX11_fell 72 (.land) 1 73 := ⟨by decide +kernel, rfl⟩
theorem rX11_fell_73 : tq_D cX11_fell 73 (.lstore 4) 2 75 := ⟨by decide +kernel, rfl⟩
theorem rX11_fell_75 : tq_D cX11_fell 75 (.lload 4) 2 77 := ⟨by decide +kernel, rfl⟩
theorem rX11_fell_77 : tq_D cX11_fell 77 (.lconst 0) 1 78 := ⟨by decide +kernel, rfl⟩
theorem rX11_fell_78 : tq_D cX11_fell 78 (.lcmp) 1 79 := ⟨by decide +kernel, rfl⟩
theorem rX11_fell_79 : tq_J cX11_fell 79 (.ifCond .ne) 86 82 := ⟨7, by decide +kernel, by decide, rfl⟩
theorem rX11_fell_82 : tq_D cX11_fell 82 (.iconst (-1)) 1 83 := ⟨by decide +kernel, rfl⟩
theorem rX11_fell_83 : tq_J cX11_fell 83 .goto 92 86 := ⟨9, by decide +kernel, by decide, rfl⟩
theorem rX11_fell_86 : tq_D cX11_fell 86 (.aload_n 3) 1 87 := ⟨by decide +kernel, rfl⟩
theorem rX11_fell_87 : tq_D cX11_fell 87 (.lload 4) 2 89 := ⟨by decide +kernel, rfl⟩
theorem rX11_fell_89 : tq_D cX11_fell 89 (.invokevirtual 179) 3 92 := ⟨by decide +kernel, rfl⟩
theorem rX11_fell_92 : decode cX11_fell 92 = .ok (.ireturn, 1) := by decide +kernel
noncomputable def FX11_fell_j26 (I : tq_PI) (L : tq_PL) (a2 : Int32) (a3 : Nat) : Option (Int32) :=
  ((FX3_weakest I L a3).bind fun p4 => (if (lg_cmp p4 (0 : Int64)) = 0 then some (-1 : Int32) else (if a2 = (-1 : Int32) then ((FX3_lostWithout I L a3 p4).bind fun p8 => some p8) else ((FX3_pick I L a3 p4 ((0 : Int32))).bind fun p7 => some p7))))
noncomputable def FX11_fell (I : tq_PI) (L : tq_PL) (a0 : Nat) (a1 : Int32) (a2 : Int32) : Option (Int32) :=
  ((FX0_hillAt I L ((tq_rg a0 0)) a1).bind fun p1 =>  (p1.elim (some (-1 : Int32)) (fun t2 => (if a2 = (-1 : Int32) then (FX11_fell_j26 I L a2 t2) else (if a2 = (-2 : Int32) then (FX11_fell_j26 I L a2 t2) else (tq_let (FX3_stones I L t2) fun p10 => ((FX3_bitOf I L t2 a2).bind fun p11 => (if (lg_cmp (p10 &&& p11) (0 : Int64)) = 0 then some (-1 : Int32) else ((FX3_lostWithout I L t2 ((p10 &&& p11))).bind fun p13 => some p13)))))))))
set_option maxRecDepth 100000 in
set_option maxHeartbeats 4000000 in
theorem FX11_fell_j26_x {S : Nat × (Nat → Int32)} {d : Nat} {I : tq_PI} {L : tq_PL} {a2 : Int32} {a3 : Nat} (h3 : tq_sh0 a3 = 3) {q0 : Option Value → tq_PI → tq_PL → Prop} {out : Int32} (hf : FX11_fell_j26 I L a2 a3 = some out) (hk : q0 (some (.int out)) I L) : tq_X S mX11_fell (d + 5) tq_k0 26 ([tq_u, tq_u, .int a2, .ref a3, tq_u, tq_u]) ([]) (tq_st I L) (tq_Q q0) := by
  unfold FX11_fell_j26 at hf
  refine tq_aload_n rX11_fell_26 rfl ?_
  obtain ⟨p4, e4, hf⟩ := Option.bind_eq_some_iff.mp hf
  refine ty_callVJ p4 ([]) ([]) rX11_fell_27 l_X11_176 moX3_weakest mvX3_weakest h3 rfl rfl (Nat.le_of_ble_eq_true rfl) ⟨rfl, rfl⟩ (CX3_weakest h3 e4) ?_
  refine tq_lstore ([tq_u, tq_u, .int a2, .ref a3, .long p4, tq_u]) rX11_fell_30 (Nat.le_of_ble_eq_true rfl) rfl ?_
  refine tq_lload rX11_fell_32 rfl ?_
  refine tq_lconst (0 : Int64) rX11_fell_34 (by decide) ?_
  refine tq_lcmp rX11_fell_35 ?_
  refine tq_if_ne rX11_fell_36 (fun c5 => ?_) (fun c5 => ?_)
  · rw [if_neg c5] at hf
    refine tq_iload_n rX11_fell_41 rfl ?_
    refine tq_iconst (-1 : Int32) rX11_fell_42 (by decide) ?_
    refine tq_icmp_ne rX11_fell_43 (fun c6 => ?_) (fun c6 => ?_)
    · rw [if_neg c6] at hf
      refine tq_aload_n rX11_fell_55 rfl ?_
      refine tq_lload rX11_fell_56 rfl ?_
      refine tq_iconst (0 : Int32) rX11_fell_58 (by decide) ?_
      obtain ⟨p7, e7, hf⟩ := Option.bind_eq_some_iff.mp hf
      refine ty_callVI p7 ([.long p4, .int (0 : Int32)]) ([]) rX11_fell_59 l_X11_172 moX3_pick mvX3_pick h3 rfl rfl (Nat.le_of_ble_eq_true rfl) ⟨rfl, rfl⟩ (CX3_pick h3 e7) ?_
      refine ty_iret rX11_fell_62 rfl rfl ?_
      have hf := Option.some.inj hf
      subst hf
      exact hk
    · rw [if_pos c6] at hf
      refine tq_aload_n rX11_fell_46 rfl ?_
      refine tq_lload rX11_fell_47 rfl ?_
      obtain ⟨p8, e8, hf⟩ := Option.bind_eq_some_iff.mp hf
      refine ty_callVI p8 ([.long p4]) ([]) rX11_fell_49 l_X11_179 moX3_lostWithout mvX3_lostWithout h3 rfl rfl (Nat.le_of_ble_eq_true rfl) ⟨rfl, rfl⟩ (CX3_lostWithout h3 e8) ?_
      refine tq_goto rX11_fell_52 ?_
      refine ty_iret rX11_fell_62 rfl rfl ?_
      have hf := Option.some.inj hf
      subst hf
      exact hk
  · rw [if_pos c5] at hf
    refine tq_iconst (-1 : Int32) rX11_fell_39 (by decide) ?_
    refine ty_iret rX11_fell_40 rfl rfl ?_
    have hf := Option.some.inj hf
    subst hf
    exact hk

set_option maxRecDepth 100000 in
set_option maxHeartbeats 4000000 in
theorem CX11_fell {S : Nat × (Nat → Int32)} {d : Nat} {I : tq_PI} {L : tq_PL} {a0 : Nat} {a1 : Int32} {a2 : Int32} (h0 : tq_sh0 a0 = 11) {out : Int32} (hf : FX11_fell I L a0 a1 a2 = some out) : tq_K S mX11_fell (d + 5) [.ref a0, .int a1, .int a2] I L (tq_one2 (some (.int out)) I L) := by
  unfold FX11_fell at hf
  refine tq_K_of (by decide) (Nat.le_of_ble_eq_true rfl) (ls := [.ref a0, .int a1, .int a2, tq_u, tq_u, tq_u]) rfl ?_
  refine tq_aload_n rX11_fell_0 rfl ?_
  refine ty_getR rX11_fell_1 f_X11_10 rfl h0 (hp_11_0 h0).1 ?_
  refine tq_iload_n rX11_fell_4 rfl ?_
  obtain ⟨p1, e1, hf⟩ := Option.bind_eq_some_iff.mp hf
  refine ty_callVA p1 ([.int a1]) ([]) rX11_fell_5 l_X11_102 moX0_hillAt mvX0_hillAt (hp_11_0 h0).2.1 rfl rfl (Nat.le_of_ble_eq_true rfl) ⟨rfl, rfl⟩ (CX0_hillAt (hp_11_0 h0).2.1 e1) ?_
  rcases tq_oelim hf with ⟨t2q, hf⟩ | ⟨t2, t2q, hf⟩
  · rw [t2q]
    refine tq_astoreN_n ([.ref a0, .int a1, .int a2, .null, tq_u, tq_u]) rX11_fell_8 (Nat.le_of_ble_eq_true rfl) rfl ?_
    refine tq_aloadN_n rX11_fell_9 rfl ?_
    refine tq_ifnonnullN rX11_fell_10 ?_
    refine tq_iconst (-1 : Int32) rX11_fell_13 (by decide) ?_
    refine ty_iret rX11_fell_14 rfl rfl ?_
    have hf := Option.some.inj hf
    subst hf
    exact ⟨rfl, rfl, rfl⟩
  · have t2h := RX0_hillAt (hp_11_0 h0).2.1 e1 t2q
    rw [t2q]
    refine tq_astore_n ([.ref a0, .int a1, .int a2, .ref t2, tq_u, tq_u]) rX11_fell_8 (Nat.le_of_ble_eq_true rfl) rfl ?_
    refine tq_aload_n rX11_fell_9 rfl ?_
    refine tq_ifnonnullR rX11_fell_10 ?_
    refine tq_iload_n rX11_fell_15 rfl ?_
    refine tq_iconst (-1 : Int32) rX11_fell_16 (by decide) ?_
    refine tq_icmp_eq rX11_fell_17 (fun c3 => ?_) (fun c3 => ?_)
    · rw [if_pos c3] at hf
      exact tq_forget _ (tq_le_u (tq_le_u (tq_le_s (tq_le_s (tq_le_u (tq_le_u tq_le_n)))))) (FX11_fell_j26_x  t2h hf ⟨rfl, rfl, rfl⟩)
    · rw [if_neg c3] at hf
      refine tq_iload_n rX11_fell_20 rfl ?_
      refine tq_bipush (-2 : Int32) rX11_fell_21 (by decide) ?_
      refine tq_icmp_ne rX11_fell_23 (fun c9 => ?_) (fun c9 => ?_)
      · rw [if_neg c9] at hf
        refine tq_aload_n rX11_fell_63 rfl ?_
        obtain ⟨p10, e10, hf⟩ := tq_let_elim hf
        refine ty_callVJ p10 ([]) ([]) rX11_fell_64 l_X11_114 moX3_stones mvX3_stones t2h rfl rfl (Nat.le_of_ble_eq_true rfl) ⟨rfl, rfl⟩ (CX3_stones t2h e10) ?_
        refine tq_aload_n rX11_fell_67 rfl ?_
        refine tq_iload_n rX11_fell_68 rfl ?_
        obtain ⟨p11, e11, hf⟩ := Option.bind_eq_some_iff.mp hf
        refine ty_callVJ p11 ([.int a2]) ([.long p10]) rX11_fell_69 l_X11_182 moX3_bitOf mvX3_bitOf t2h rfl rfl (Nat.le_of_ble_eq_true rfl) ⟨rfl, rfl⟩ (CX3_bitOf t2h e11) ?_
        refine tq_land rX11_fell_72 ?_
        refine tq_lstore ([.ref a0, .int a1, .int a2, .ref t2, .long (p10 &&& p11), tq_u]) rX11_fell_73 (Nat.le_of_ble_eq_true rfl) rfl ?_
        refine tq_lload rX11_fell_75 rfl ?_
        refine tq_lconst (0 : Int64) rX11_fell_77 (by decide) ?_
        refine tq_lcmp rX11_fell_78 ?_
        refine tq_if_ne rX11_fell_79 (fun c12 => ?_) (fun c12 => ?_)
        · rw [if_neg c12] at hf
          refine tq_aload_n rX11_fell_86 rfl ?_
          refine tq_lload rX11_fell_87 rfl ?_
          obtain ⟨p13, e13, hf⟩ := Option.bind_eq_some_iff.mp hf
          refine ty_callVI p13 ([.long (p10 &&& p11)]) ([]) rX11_fell_89 l_X11_179 moX3_lostWithout mvX3_lostWithout t2h rfl rfl (Nat.le_of_ble_eq_true rfl) ⟨rfl, rfl⟩ (CX3_lostWithout t2h e13) ?_
          refine ty_iret rX11_fell_92 rfl rfl ?_
          have hf := Option.some.inj hf
          subst hf
          exact ⟨rfl, rfl, rfl⟩
        · rw [if_pos c12] at hf
          refine tq_iconst (-1 : Int32) rX11_fell_82 (by decide) ?_
          refine tq_goto rX11_fell_83 ?_
          refine ty_iret rX11_fell_92 rfl rfl ?_
          have hf := Option.some.inj hf
          subst hf
          exact ⟨rfl, rfl, rfl⟩
      · rw [if_pos c9] at hf
        exact tq_forget _ (tq_le_u (tq_le_u (tq_le_s (tq_le_s (tq_le_u (tq_le_u tq_le_n)))))) (FX11_fell_j26_x  t2h hf ⟨rfl, rfl, rfl⟩)

abbrev mX11_rich : tq_M := (yX11_rich, cX11_rich, 6, (Option.some Jvm.ClassFile.FieldType.int), 0, 0)
theorem moX5_cellAt : tq_mok mX5_cellAt 1 := ⟨tq_sg1 _ (List.mem_of_getElem? (i := 9) rfl), tq_sg4 _ (List.mem_of_getElem? (i := 183) rfl), ⟨by decide, by decide, by decide +kernel⟩, by decide⟩
theorem mvX5_cellAt : 5 < 13 ∧ (tq_cl 5).1 = mX5_cellAt.1.cls ∧ Cond.instanceMethod mX5_cellAt.1 ∈ lw_tbl ∧ Cond.selects mX5_cellAt.1.cls mX5_cellAt.1 mX5_cellAt.1 ∈ lw_tbl := ⟨by decide, rfl, tq_sg4 _ (List.mem_of_getElem? (i := 181) rfl), tq_sg4 _ (List.mem_of_getElem? (i := 182) rfl)⟩
theorem moX5_richest : tq_mok mX5_richest 3 := ⟨tq_sg1 _ (List.mem_of_getElem? (i := 9) rfl), tq_sg4 _ (List.mem_of_getElem? (i := 161) rfl), ⟨by decide, by decide, by decide +kernel⟩, by decide⟩
theorem mvX5_richest : 5 < 13 ∧ (tq_cl 5).1 = mX5_richest.1.cls ∧ Cond.instanceMethod mX5_richest.1 ∈ lw_tbl ∧ Cond.selects mX5_richest.1.cls mX5_richest.1 mX5_richest.1 ∈ lw_tbl := ⟨by decide, rfl, tq_sg4 _ (List.mem_of_getElem? (i := 159) rfl), tq_sg4 _ (List.mem_of_getElem? (i := 160) rfl)⟩
theorem f_X11_190 : tq_fok RX11 190 5 2 := ⟨by decide, by decide, Or.inr ⟨_, tq_sg2 _ (List.mem_of_getElem? (i := 47) rfl)⟩⟩
theorem f_X11_193 : tq_fok RX11 193 5 3 := ⟨by decide, by decide, Or.inr ⟨_, tq_sg2 _ (List.mem_of_getElem? (i := 49) rfl)⟩⟩
theorem f_X11_41 : tq_fok RX11 41 11 5 := ⟨by decide, by decide, Or.inl (tq_sg2 _ (List.mem_of_getElem? (i := 126) rfl))⟩
theorem l_X11_186 : tq_lok RX11 186 mX5_richest.1 := Or.inl (tq_sg4 _ (List.mem_of_getElem? (i := 158) rfl))
theorem l_X11_194 : tq_lok RX11 194 mX5_cellAt.1 := Or.inl (tq_sg4 _ (List.mem_of_getElem? (i := 180) rfl))
theorem rX11_rich_0 : tq_D cX11_rich 0 (.aload_n 0) 1 1 := ⟨by decide +kernel, rfl⟩
theorem rX11_rich_1 : tq_D cX11_rich 1 (.getfield 10) 3 4 := ⟨by decide +kernel, rfl⟩
theorem rX11_rich_4 : tq_D cX11_rich 4 (.iload_n 1) 1 5 := ⟨by decide +kernel, rfl⟩
theorem rX11_rich_5 : tq_D cX11_rich 5 (.invokevirtual 102) 3 8 := ⟨by decide +kernel, rfl⟩
theorem rX11_rich_8 : tq_D cX11_rich 8 (.astore 5) 2 10 := ⟨by decide +kernel, rfl⟩
theorem rX11_rich_10 : tq_D cX11_rich 10 (.aload 5) 2 12 := ⟨by decide +kernel, rfl⟩
theorem rX11_rich_12 : tq_J cX11_rich 12 .ifnull 31 15 := ⟨19, by decide +kernel, by decide, rfl⟩
theorem rX11_rich_15 : tq_D cX11_rich 15 (.iload_n 2) 1 16 := ⟨by decide +kernel, rfl⟩
theorem rX11_rich_16 : tq_D cX11_rich 16 (.invokestatic 161) 3 19 := ⟨by decide +kernel, rfl⟩
theorem rX11_rich_19 : tq_J cX11_rich 19 (.ifCond .eq) 31 22 := ⟨12, by decide +kernel, by decide, rfl⟩
theorem rX11_rich_22 : tq_D cX11_rich 22 (.iload_n 3) 1 23 := ⟨by decide +kernel, rfl⟩
theorem rX11_rich_23 : tq_J cX11_rich 23 (.ifCond .lt) 31 26 := ⟨8, by decide +kernel, by decide, rfl⟩
theorem rX11_rich_26 : tq_D cX11_rich 26 (.iload_n 3) 1 27 := ⟨by decide +kernel, rfl⟩
theorem rX11_rich_27 : tq_D cX11_rich 27 (.iconst 3) 1 28 := ⟨by decide +kernel, rfl⟩
theorem rX11_rich_28 : tq_J cX11_rich 28 (.if_icmp .le) 33 31 := ⟨5, by decide +kernel, by decide, rfl⟩
theorem rX11_rich_31 : tq_D cX11_rich 31 (.iconst (-1)) 1 32 := ⟨by decide +kernel, rfl⟩
theorem rX11_rich_32 : decode cX11_rich 32 = .ok (.ireturn, 1) := by decide +kernel
theorem rX11_rich_33 : tq_D cX11_rich 33 (.aload_n 0) 1 34 := ⟨by decide +kernel, rfl⟩
theorem rX11_rich_34 : tq_D cX11_rich 34 (.getfield 41) 3 37 := ⟨by decide +kernel, rfl⟩
theorem rX11_rich_37 : tq_D cX11_rich 37 (.aload 5) 2 39 := ⟨by decide +kernel, rfl⟩
theorem rX11_rich_39 : tq_D cX11_rich 39 (.iload_n 2) 1 40 := ⟨by decide +kernel, rfl⟩
theorem rX11_rich_40 : tq_D cX11_rich 40 (.iload_n 3) 1 41 := ⟨by decide +kernel, rfl⟩
theorem rX11_rich_41 : tq_D cX11_rich 41 (.invokevirtual 186) 3 44 := ⟨by decide +kernel, rfl⟩
theorem rX11_rich_44 : tq_D cX11_rich 44 (.iload 4) 2 46 := ⟨by decide +kernel, rfl⟩
theorem rX11_rich_46 : tq_D cX11_rich 46 (.iconst (-1)) 1 47 := ⟨by decide +kernel, rfl⟩
theorem rX11_rich_47 : tq_J cX11_rich 47 (.if_icmp .ne) 58 50 := ⟨11, by decide +kernel, by decide, rfl⟩
theorem rX11_rich_50 : tq_D cX11_rich 50 (.aload_n 0) 1 51 := ⟨by decide +kernel, rfl⟩
theorem rX11_rich_51 : tq_D cX11_rich 51 (.getfield 41) 3 54 := ⟨by decide +kernel, rfl⟩
theorem rX11_rich_54 : tq_D cX11_rich 54 (.getfield 190) 3 57 := ⟨by decide +kernel, rfl⟩
theorem rX11_rich_57 : decode cX11_rich 57 = .ok (.ireturn, 1) := by decide +kernel
theorem rX11_rich_58 : tq_D cX11_rich 58 (.iload 4) 2 60 := ⟨by decide +kernel, rfl⟩
theorem rX11_rich_60 : tq_D cX11_rich 60 (.bipush (-2)) 2 62 := ⟨by decide +kernel, rfl⟩
theorem rX11_rich_62 : tq_J cX11_rich 62 (.if_icmp .ne) 75 65 := ⟨13, by decide +kernel, by decide, rfl⟩
theorem rX11_rich_65 : tq_D cX11_rich 65 (.aload_n 0) 1 66 := ⟨by decide +kernel, rfl⟩
theorem rX11_rich_66 : tq_D cX11_rich 66 (.getfield 41) 3 69 := ⟨by decide +kernel, rfl⟩
theorem rX11_rich_69 : tq_D cX11_rich 69 (.getfield 193) 3 72 := ⟨by decide +kernel, rfl⟩
theorem rX11_rich_72 : tq_J cX11_rich 72 .goto 84 75 := ⟨12, by decide +kernel, by decide, rfl⟩
theorem rX11_rich_75 : tq_D cX11_rich 75 (.aload_n 0) 1 76 := ⟨by decide +kernel, rfl⟩
theorem rX11_rich_76 : tq_D cX11_rich 76 (.getfield 41) 3 79 := ⟨by decide +kernel, rfl⟩
theorem rX11_rich_79 : tq_D cX11_rich 79 (.iload 4) 2 81 := ⟨by decide +kernel, rfl⟩
theorem rX11_rich_81 : tq_D cX11_rich 81 (.invokevirtual 194) 3 84 := ⟨by decide +kernel, rfl⟩
theorem rX11_rich_84 : decode cX11_rich 84 = .ok (.ireturn, 1) := by decide +kernel
noncomputable def FX11_rich_j31 (I : tq_PI) (L : tq_PL)  : Option (Int32 × tq_PI × tq_PL) :=
  some ((-1 : Int32), I, L)
noncomputable def FX11_rich (I : tq_PI) (L : tq_PL) (a0 : Nat) (a1 : Int32) (a2 : Int32) (a3 : Int32) (a4 : Int32) : Option (Int32 × tq_PI × tq_PL) :=
  ((FX0_hillAt I L ((tq_rg a0 0)) a1).bind fun p1 =>  (p1.elim ((FX11_rich_j31 I L )) (fun t2 => (tq_let (FX11_isSide I L a2) fun p3 => (if (tq_b p3) = 0 then (FX11_rich_j31 I L ) else (if a3 < 0 then (FX11_rich_j31 I L ) else (if a3 ≤ (3 : Int32) then ((FX5_richest I L ((tq_rg a0 5)) t2 a2 a3).bind fun p7 => (if a4 = (-1 : Int32) then some ((p7.1 (tq_rg a0 5) 2), p7.1, p7.2) else (if a4 = (-2 : Int32) then some ((p7.1 (tq_rg a0 5) 3), p7.1, p7.2) else ((FX5_cellAt p7.1 p7.2 ((tq_rg a0 5)) a4).bind fun p10 => some (p10, p7.1, p7.2))))) else (FX11_rich_j31 I L ))))))))
set_option maxRecDepth 100000 in
set_option maxHeartbeats 4000000 in
theorem FX11_rich_j31_x {S : Nat × (Nat → Int32)} {d : Nat} {I : tq_PI} {L : tq_PL}   {q0 : Option Value → tq_PI → tq_PL → Prop} {out : Int32 × tq_PI × tq_PL} (hf : FX11_rich_j31 I L = some out) (hk : q0 (some (.int out.1)) out.2.1 out.2.2) : tq_X S mX11_rich (d + 26) tq_k0 31 ([tq_u, tq_u, tq_u, tq_u, tq_u, tq_u]) ([]) (tq_st I L) (tq_Q q0) := by
  unfold FX11_rich_j31 at hf
  refine tq_iconst (-1 : Int32) rX11_rich_31 (by decide) ?_
  refine ty_iret rX11_rich_32 rfl rfl ?_
  have hf := Option.some.inj hf
  subst hf
  exact hk

set_option maxRecDepth 100000 in
set_option maxHeartbeats 4000000 in
theorem CX11_rich {S : Nat × (Nat → Int32)} {d : Nat} {I : tq_PI} {L : tq_PL} {a0 : Nat} {a1 : Int32} {a2 : Int32} {a3 : Int32} {a4 : Int32} (h0 : tq_sh0 a0 = 11) {out : Int32 × tq_PI × tq_PL} (hf : FX11_rich I L a0 a1 a2 a3 a4 = some out) : tq_K S mX11_rich (d + 26) [.ref a0, .int a1, .int a2, .int a3, .int a4] I L (tq_one2 (some (.int out.1)) out.2.1 out.2.2) := by
  unfold FX11_rich at hf
  refine tq_K_of (by decide) (Nat.le_of_ble_eq_true rfl) (ls := [.ref a0, .int a1, .int a2, .int a3, .int a4, tq_u]) rfl ?_
  refine tq_aload_n rX11_rich_0 rfl ?_
  refine ty_getR rX11_rich_1 f_X11_10 rfl h0 (hp_11_0 h0).1 ?_
  refine tq_iload_n rX11_rich_4 rfl ?_
  obtain ⟨p1, e1, hf⟩ := Option.bind_eq_some_iff.mp hf
  refine ty_callVA p1 ([.int a1]) ([]) rX11_rich_5 l_X11_102 moX0_hillAt mvX0_hillAt (hp_11_0 h0).2.1 rfl rfl (Nat.le_of_ble_eq_true rfl) ⟨rfl, rfl⟩ (CX0_hillAt (hp_11_0 h0).2.1 e1) ?_
  rcases tq_oelim hf with ⟨t2q, hf⟩ | ⟨t2, t2q, hf⟩
  · rw [t2q]
    refine tq_astoreN ([.ref a0, .int a1, .int a2, .int a3, .int a4, .null]) rX11_rich_8 (Nat.le_of_ble_eq_true rfl) rfl ?_
    refine tq_aloadN rX11_rich_10 rfl ?_
    refine tq_ifnullN rX11_rich_12 ?_
    exact tq_forget _ (tq_le_u (tq_le_u (tq_le_u (tq_le_u (tq_le_u (tq_le_u tq_le_n)))))) (FX11_rich_j31_x   hf ⟨rfl, rfl, rfl⟩)
  · have t2h := RX0_hillAt (hp_11_0 h0).2.1 e1 t2q
    rw [t2q]
    refine tq_astore ([.ref a0, .int a1, .int a2, .int a3, .int a4, .ref t2]) rX11_rich_8 (Nat.le_of_ble_eq_true rfl) rfl ?_
    refine tq_aload rX11_rich_10 rfl ?_
    refine tq_ifnullR rX11_rich_12 ?_
    refine tq_iload_n rX11_rich_15 rfl ?_
    obtain ⟨p3, e3, hf⟩ := tq_let_elim hf
    refine ty_callSI (tq_b p3) ([.int a2]) ([]) rX11_rich_16 l_X11_161 moX11_isSide msX11_isSide rfl rfl (Nat.le_of_ble_eq_true rfl) ⟨rfl, rfl⟩ (CX11_isSide  e3) ?_
    refine tq_if_eq rX11_rich_19 (fun c4 => ?_) (fun c4 => ?_)
    · rw [if_pos c4] at hf
      exact tq_forget _ (tq_le_u (tq_le_u (tq_le_u (tq_le_u (tq_le_u (tq_le_u tq_le_n)))))) (FX11_rich_j31_x   hf ⟨rfl, rfl, rfl⟩)
    · rw [if_neg c4] at hf
      refine tq_iload_n rX11_rich_22 rfl ?_
      refine tq_if_lt rX11_rich_23 (fun c5 => ?_) (fun c5 => ?_)
      · rw [if_pos c5] at hf
        exact tq_forget _ (tq_le_u (tq_le_u (tq_le_u (tq_le_u (tq_le_u (tq_le_u tq_le_n)))))) (FX11_rich_j31_x   hf ⟨rfl, rfl, rfl⟩)
      · rw [if_neg c5] at hf
        refine tq_iload_n rX11_rich_26 rfl ?_
        refine tq_iconst (3 : Int32) rX11_rich_27 (by decide) ?_
        refine tq_icmp_le rX11_rich_28 (fun c6 => ?_) (fun c6 => ?_)
        · rw [if_pos c6] at hf
          refine tq_aload_n rX11_rich_33 rfl ?_
          refine ty_getR rX11_rich_34 f_X11_41 rfl h0 (hp_11_5 h0).1 ?_
          refine tq_aload rX11_rich_37 rfl ?_
          refine tq_iload_n rX11_rich_39 rfl ?_
          refine tq_iload_n rX11_rich_40 rfl ?_
          obtain ⟨p7, e7, hf⟩ := Option.bind_eq_some_iff.mp hf
          refine ty_callVV ([.ref t2, .int a2, .int a3]) ([]) rX11_rich_41 l_X11_186 moX5_richest mvX5_richest (hp_11_5 h0).2.1 rfl rfl (Nat.le_of_ble_eq_true rfl) ⟨rfl, rfl⟩ (CX5_richest (hp_11_5 h0).2.1 t2h e7) ?_
          refine tq_iload rX11_rich_44 rfl ?_
          refine tq_iconst (-1 : Int32) rX11_rich_46 (by decide) ?_
          refine tq_icmp_ne rX11_rich_47 (fun c8 => ?_) (fun c8 => ?_)
          · rw [if_neg c8] at hf
            refine tq_iload rX11_rich_58 rfl ?_
            refine tq_bipush (-2 : Int32) rX11_rich_60 (by decide) ?_
            refine tq_icmp_ne rX11_rich_62 (fun c9 => ?_) (fun c9 => ?_)
            · rw [if_neg c9] at hf
              refine tq_aload_n rX11_rich_75 rfl ?_
              refine ty_getR rX11_rich_76 f_X11_41 rfl h0 (hp_11_5 h0).1 ?_
              refine tq_iload rX11_rich_79 rfl ?_
              obtain ⟨p10, e10, hf⟩ := Option.bind_eq_some_iff.mp hf
              refine ty_callVI p10 ([.int a4]) ([]) rX11_rich_81 l_X11_194 moX5_cellAt mvX5_cellAt (hp_11_5 h0).2.1 rfl rfl (Nat.le_of_ble_eq_true rfl) ⟨rfl, rfl⟩ (CX5_cellAt (hp_11_5 h0).2.1 e10) ?_
              refine ty_iret rX11_rich_84 rfl rfl ?_
              have hf := Option.some.inj hf
              subst hf
              exact ⟨rfl, rfl, rfl⟩
            · rw [if_pos c9] at hf
              refine tq_aload_n rX11_rich_65 rfl ?_
              refine ty_getR rX11_rich_66 f_X11_41 rfl h0 (hp_11_5 h0).1 ?_
              refine ty_getI rX11_rich_69 f_X11_193 rfl (hp_11_5 h0).2.1 ?_
              refine tq_goto rX11_rich_72 ?_
              refine ty_iret rX11_rich_84 rfl rfl ?_
              have hf := Option.some.inj hf
              subst hf
              exact ⟨rfl, rfl, rfl⟩
          · rw [if_pos c8] at hf
            refine tq_aload_n rX11_rich_50 rfl ?_
            refine ty_getR rX11_rich_51 f_X11_41 rfl h0 (hp_11_5 h0).1 ?_
            refine ty_getI rX11_rich_54 f_X11_190 rfl (hp_11_5 h0).2.1 ?_
            refine ty_iret rX11_rich_57 rfl rfl ?_
            have hf := Option.some.inj hf
            subst hf
            exact ⟨rfl, rfl, rfl⟩
        · rw [if_neg c6] at hf
          exact tq_forget _ (tq_le_u (tq_le_u (tq_le_u (tq_le_u (tq_le_u (tq_le_u tq_le_n)))))) (FX11_rich_j31_x   hf ⟨rfl, rfl, rfl⟩)

abbrev mX11_duel : tq_M := (yX11_duel, cX11_duel, 5, (Option.some Jvm.ClassFile.FieldType.int), 0, 0)
theorem moX5_fight : tq_mok mX5_fight 2 := ⟨tq_sg1 _ (List.mem_of_getElem? (i := 9) rfl), tq_sg4 _ (List.mem_of_getElem? (i := 191) rfl), ⟨by decide, by decide, by decide +kernel⟩, by decide⟩
theorem mvX5_fight : 5 < 13 ∧ (tq_cl 5).1 = mX5_fight.1.cls ∧ Cond.instanceMethod mX5_fight.1 ∈ lw_tbl ∧ Cond.selects mX5_fight.1.cls mX5_fight.1 mX5_fight.1 ∈ lw_tbl := ⟨by decide, rfl, tq_sg4 _ (List.mem_of_getElem? (i := 189) rfl), tq_sg4 _ (List.mem_of_getElem? (i := 190) rfl)⟩
theorem f_X11_201 : tq_fok RX11 201 5 5 := ⟨by decide, by decide, Or.inr ⟨_, tq_sg2 _ (List.mem_of_getElem? (i := 53) rfl)⟩⟩
theorem f_X11_204 : tq_fok RX11 204 5 4 := ⟨by decide, by decide, Or.inr ⟨_, tq_sg2 _ (List.mem_of_getElem? (i := 51) rfl)⟩⟩
theorem l_X11_197 : tq_lok RX11 197 mX5_fight.1 := Or.inl (tq_sg4 _ (List.mem_of_getElem? (i := 188) rfl))
theorem rX11_duel_0 : tq_D cX11_duel 0 (.aload_n 0) 1 1 := ⟨by decide +kernel, rfl⟩
theorem rX11_duel_1 : tq_D cX11_duel 1 (.getfield 10) 3 4 := ⟨by decide +kernel, rfl⟩
theorem rX11_duel_4 : tq_D cX11_duel 4 (.iload_n 1) 1 5 := ⟨by decide +kernel, rfl⟩
theorem rX11_duel_5 : tq_D cX11_duel 5 (.invokevirtual 102) 3 8 := ⟨by decide +kernel, rfl⟩
theorem rX11_duel_8 : tq_D cX11_duel 8 (.astore 4) 2 10 := ⟨by decide +kernel, rfl⟩
theorem rX11_duel_10 : tq_D cX11_duel 10 (.aload 4) 2 12 := ⟨by decide +kernel, rfl⟩
theorem rX11_duel_12 : tq_J cX11_duel 12 .ifnull 32 15 := ⟨20, by decide +kernel, by decide, rfl⟩
theorem rX11_duel_15 : tq_D cX11_duel 15 (.iload_n 2) 1 16 := ⟨by decide +kernel, rfl⟩
theorem rX11_duel_16 : tq_J cX11_duel 16 (.ifCond .lt) 32 19 := ⟨16, by decide +kernel, by decide, rfl⟩
theorem rX11_duel_19 : tq_D cX11_duel 19 (.iload_n 2) 1 20 := ⟨by decide +kernel, rfl⟩
theorem rX11_duel_20 : tq_D cX11_duel 20 (.iconst 3) 1 21 := ⟨by decide +kernel, rfl⟩
theorem rX11_duel_21 : tq_J cX11_duel 21 (.if_icmp .gt) 32 24 := ⟨11, by decide +kernel, by decide, rfl⟩
theorem rX11_duel_24 : tq_D cX11_duel 24 (.iload_n 3) 1 25 := ⟨by decide +kernel, rfl⟩
theorem rX11_duel_25 : tq_J cX11_duel 25 (.ifCond .eq) 36 28 := ⟨11, by decide +kernel, by decide, rfl⟩
theorem rX11_duel_28 : tq_D cX11_duel 28 (.iload_n 2) 1 29 := ⟨by decide +kernel, rfl⟩
theorem rX11_duel_29 : tq_J cX11_duel 29 (.ifCond .ne) 36 32 := ⟨7, by decide +kernel, by decide, rfl⟩
theorem rX11_duel_32 : tq_D cX11_duel 32 (.sipush (-1000)) 3 35 := ⟨by decide +kernel, rfl⟩
theorem rX11_duel_35 : decode cX11_duel 35 = .ok (.ireturn, 1) := by decide +kernel
theorem rX11_duel_36 : tq_D cX11_duel 36 (.aload_n 0) 1 37 := ⟨by decide +kernel, rfl⟩
theorem rX11_duel_37 : tq_D cX11_duel 37 (.getfield 41) 3 40 := ⟨by decide +kernel, rfl⟩
theorem rX11_duel_40 : tq_D cX11_duel 40 (.aload 4) 2 42 := ⟨by decide +kernel, rfl⟩
theorem rX11_duel_42 : tq_D cX11_duel 42 (.iload_n 2) 1 43 := ⟨by decide +kernel, rfl⟩
theorem rX11_duel_43 : tq_D cX11_duel 43 (.invokevirtual 197) 3 46 := ⟨by decide +kernel, rfl⟩
theorem rX11_duel_46 : tq_D cX11_duel 46 (.iload_n 3) 1 47 := ⟨by decide +kernel, rfl⟩
theorem rX11_duel_47 : tq_J cX11_duel 47 (.ifCond .eq) 60 50 := ⟨13, by decide +kernel, by decide, rfl⟩
theorem rX11_duel_50 : tq_D cX11_duel 50 (.aload_n 0) 1 51 := ⟨by decide +kernel, rfl⟩
theorem rX11_duel_51 : tq_D cX11_duel 51 (.getfield 41) 3 54 := ⟨by decide +kernel, rfl⟩
theorem rX11_duel_54 : tq_D cX11_duel 54 (.getfield 201) 3 57 := ⟨by decide +kernel, rfl⟩
theorem rX11_duel_57 : tq_J cX11_duel 57 .goto 67 60 := ⟨10, by decide +kernel, by decide, rfl⟩
theorem rX11_duel_60 : tq_D cX11_duel 60 (.aload_n 0) 1 61 := ⟨by decide +kernel, rfl⟩
theorem rX11_duel_61 : tq_D cX11_duel 61 (.getfield 41) 3 64 := ⟨by decide +kernel, rfl⟩
theorem rX11_duel_64 : tq_D cX11_duel 64 (.getfield 204) 3 67 := ⟨by decide +kernel, rfl⟩
theorem rX11_duel_67 : decode cX11_duel 67 = .ok (.ireturn, 1) := by decide +kernel
noncomputable def FX11_duel_j32 (I : tq_PI) (L : tq_PL)  : Option (Int32 × tq_PI) :=
  some ((-1000 : Int32), I)
noncomputable def FX11_duel_j36 (I : tq_PI) (L : tq_PL) (a0 : Nat) (a2 : Int32) (a3 : Int32) (a4 : Nat) : Option (Int32 × tq_PI) :=
  ((FX5_fight I L ((tq_rg a0 5)) a4 a2).bind fun p6 => (if a3 = 0 then some ((p6 (tq_rg a0 5) 4), p6) else some ((p6 (tq_rg a0 5) 5), p6)))
noncomputable def FX11_duel (I : tq_PI) (L : tq_PL) (a0 : Nat) (a1 : Int32) (a2 : Int32) (a3 : Int32) : Option (Int32 × tq_PI) :=
  ((FX0_hillAt I L ((tq_rg a0 0)) a1).bind fun p1 =>  (p1.elim ((FX11_duel_j32 I L )) (fun t2 => (if a2 < 0 then (FX11_duel_j32 I L ) else (if (3 : Int32) < a2 then (FX11_duel_j32 I L ) else (if a3 = 0 then (FX11_duel_j36 I L a0 a2 a3 t2) else (if a2 = 0 then (FX11_duel_j32 I L ) else (FX11_duel_j36 I L a0 a2 a3 t2))))))))
set_option maxRecDepth 100000 in
set_option maxHeartbeats 4000000 in
theorem FX11_duel_j32_x {S : Nat × (Nat → Int32)} {d : Nat} {I : tq_PI} {L : tq_PL}   {q0 : Option Value → tq_PI → tq_PL → Prop} {out : Int32 × tq_PI} (hf : FX11_duel_j32 I L = some out) (hk : q0 (some (.int out.1)) out.2 L) : tq_X S mX11_duel (d + 25) tq_k0 32 ([tq_u, tq_u, tq_u, tq_u, tq_u]) ([]) (tq_st I L) (tq_Q q0) := by
  unfold FX11_duel_j32 at hf
  refine tq_sipush (-1000 : Int32) rX11_duel_32 (by decide) ?_
  refine ty_iret rX11_duel_35 rfl rfl ?_
  have hf := Option.some.inj hf
  subst hf
  exact hk

set_option maxRecDepth 100000 in
set_option maxHeartbeats 4000000 in
theorem FX11_duel_j36_x {S : Nat × (Nat → Int32)} {d : Nat} {I : tq_PI} {L : tq_PL} {a0 : Nat} {a2 : Int32} {a3 : Int32} {a4 : Nat} (h0 : tq_sh0 a0 = 11) (h4 : tq_sh0 a4 = 3) {q0 : Option Value → tq_PI → tq_PL → Prop} {out : Int32 × tq_PI} (hf : FX11_duel_j36 I L a0 a2 a3 a4 = some out) (hk : q0 (some (.int out.1)) out.2 L) : tq_X S mX11_duel (d + 25) tq_k0 36 ([.ref a0, tq_u, .int a2, .int a3, .ref a4]) ([]) (tq_st I L) (tq_Q q0) := by
  unfold FX11_duel_j36 at hf
  refine tq_aload_n rX11_duel_36 rfl ?_
  refine ty_getR rX11_duel_37 f_X11_41 rfl h0 (hp_11_5 h0).1 ?_
  refine tq_aload rX11_duel_40 rfl ?_
  refine tq_iload_n rX11_duel_42 rfl ?_
  obtain ⟨p6, e6, hf⟩ := Option.bind_eq_some_iff.mp hf
  refine ty_callVV ([.ref a4, .int a2]) ([]) rX11_duel_43 l_X11_197 moX5_fight mvX5_fight (hp_11_5 h0).2.1 rfl rfl (Nat.le_of_ble_eq_true rfl) ⟨rfl, rfl⟩ (CX5_fight (hp_11_5 h0).2.1 h4 e6) ?_
  refine tq_iload_n rX11_duel_46 rfl ?_
  refine tq_if_eq rX11_duel_47 (fun c7 => ?_) (fun c7 => ?_)
  · rw [if_pos c7] at hf
    refine tq_aload_n rX11_duel_60 rfl ?_
    refine ty_getR rX11_duel_61 f_X11_41 rfl h0 (hp_11_5 h0).1 ?_
    refine ty_getI rX11_duel_64 f_X11_204 rfl (hp_11_5 h0).2.1 ?_
    refine ty_iret rX11_duel_67 rfl rfl ?_
    have hf := Option.some.inj hf
    subst hf
    exact hk
  · rw [if_neg c7] at hf
    refine tq_aload_n rX11_duel_50 rfl ?_
    refine ty_getR rX11_duel_51 f_X11_41 rfl h0 (hp_11_5 h0).1 ?_
    refine ty_getI rX11_duel_54 f_X11_201 rfl (hp_11_5 h0).2.1 ?_
    refine tq_goto rX11_duel_57 ?_
    refine ty_iret rX11_duel_67 rfl rfl ?_
    have hf := Option.some.inj hf
    subst hf
    exact hk

set_option maxRecDepth 100000 in
set_option maxHeartbeats 4000000 in
theorem CX11_duel {S : Nat × (Nat → Int32)} {d : Nat} {I : tq_PI} {L : tq_PL} {a0 : Nat} {a1 : Int32} {a2 : Int32} {a3 : Int32} (h0 : tq_sh0 a0 = 11) {out : Int32 × tq_PI} (hf : FX11_duel I L a0 a1 a2 a3 = some out) : tq_K S mX11_duel (d + 25) [.ref a0, .int a1, .int a2, .int a3] I L (tq_one2 (some (.int out.1)) out.2 L) := by
  unfold FX11_duel at hf
  refine tq_K_of (by decide) (Nat.le_of_ble_eq_true rfl) (ls := [.ref a0, .int a1, .int a2, .int a3, tq_u]) rfl ?_
  refine tq_aload_n rX11_duel_0 rfl ?_
  refine ty_getR rX11_duel_1 f_X11_10 rfl h0 (hp_11_0 h0).1 ?_
  refine tq_iload_n rX11_duel_4 rfl ?_
  obtain ⟨p1, e1, hf⟩ := Option.bind_eq_some_iff.mp hf
  refine ty_callVA p1 ([.int a1]) ([]) rX11_duel_5 l_X11_102 moX0_hillAt mvX0_hillAt (hp_11_0 h0).2.1 rfl rfl (Nat.le_of_ble_eq_true rfl) ⟨rfl, rfl⟩ (CX0_hillAt (hp_11_0 h0).2.1 e1) ?_
  rcases tq_oelim hf with ⟨t2q, hf⟩ | ⟨t2, t2q, hf⟩
  · rw [t2q]
    refine tq_astoreN ([.ref a0, .int a1, .int a2, .int a3, .null]) rX11_duel_8 (Nat.le_of_ble_eq_true rfl) rfl ?_
    refine tq_aloadN rX11_duel_10 rfl ?_
    refine tq_ifnullN rX11_duel_12 ?_
    exact tq_forget _ (tq_le_u (tq_le_u (tq_le_u (tq_le_u (tq_le_u tq_le_n))))) (FX11_duel_j32_x   hf ⟨rfl, rfl, rfl⟩)
  · have t2h := RX0_hillAt (hp_11_0 h0).2.1 e1 t2q
    rw [t2q]
    refine tq_astore ([.ref a0, .int a1, .int a2, .int a3, .ref t2]) rX11_duel_8 (Nat.le_of_ble_eq_true rfl) rfl ?_
    refine tq_aload rX11_duel_10 rfl ?_
    refine tq_ifnullR rX11_duel_12 ?_
    refine tq_iload_n rX11_duel_15 rfl ?_
    refine tq_if_lt rX11_duel_16 (fun c3 => ?_) (fun c3 => ?_)
    · rw [if_pos c3] at hf
      exact tq_forget _ (tq_le_u (tq_le_u (tq_le_u (tq_le_u (tq_le_u tq_le_n))))) (FX11_duel_j32_x   hf ⟨rfl, rfl, rfl⟩)
    · rw [if_neg c3] at hf
      refine tq_iload_n rX11_duel_19 rfl ?_
      refine tq_iconst (3 : Int32) rX11_duel_20 (by decide) ?_
      refine tq_icmp_gt rX11_duel_21 (fun c4 => ?_) (fun c4 => ?_)
      · rw [if_pos c4] at hf
        exact tq_forget _ (tq_le_u (tq_le_u (tq_le_u (tq_le_u (tq_le_u tq_le_n))))) (FX11_duel_j32_x   hf ⟨rfl, rfl, rfl⟩)
      · rw [if_neg c4] at hf
        refine tq_iload_n rX11_duel_24 rfl ?_
        refine tq_if_eq rX11_duel_25 (fun c5 => ?_) (fun c5 => ?_)
        · rw [if_pos c5] at hf
          exact tq_forget _ (tq_le_s (tq_le_u (tq_le_s (tq_le_s (tq_le_s tq_le_n))))) (FX11_duel_j36_x  h0 t2h hf ⟨rfl, rfl, rfl⟩)
        · rw [if_neg c5] at hf
          refine tq_iload_n rX11_duel_28 rfl ?_
          refine tq_if_ne rX11_duel_29 (fun c8 => ?_) (fun c8 => ?_)
          · rw [if_neg c8] at hf
            exact tq_forget _ (tq_le_s (tq_le_u (tq_le_s (tq_le_s (tq_le_s tq_le_n))))) (FX11_duel_j36_x  h0 t2h hf ⟨rfl, rfl, rfl⟩)
          · rw [if_pos c8] at hf
            exact tq_forget _ (tq_le_u (tq_le_u (tq_le_u (tq_le_u (tq_le_u tq_le_n))))) (FX11_duel_j32_x   hf ⟨rfl, rfl, rfl⟩)

abbrev mX11_border : tq_M := (yX11_border, cX11_border, 5, (Option.some Jvm.ClassFile.FieldType.int), 0, 0)
theorem moX3_fairColumn : tq_mok mX3_fairColumn 0 := ⟨tq_sg1 _ (List.mem_of_getElem? (i := 3) rfl), tq_sg4 _ (List.mem_of_getElem? (i := 206) rfl), ⟨by decide, by decide, by decide +kernel⟩, by decide⟩
theorem mvX3_fairColumn : 3 < 13 ∧ (tq_cl 3).1 = mX3_fairColumn.1.cls ∧ Cond.instanceMethod mX3_fairColumn.1 ∈ lw_tbl ∧ Cond.selects mX3_fairColumn.1.cls mX3_fairColumn.1 mX3_fairColumn.1 ∈ lw_tbl := ⟨by decide, rfl, tq_sg4 _ (List.mem_of_getElem? (i := 204) rfl), tq_sg4 _ (List.mem_of_getElem? (i := 205) rfl)⟩
theorem l_X11_207 : tq_lok RX11 207 mX3_fairColumn.1 := Or.inl (tq_sg4 _ (List.mem_of_getElem? (i := 203) rfl))
theorem l_X11_211 : tq_lok RX11 211 mX3_unfairness.1 := Or.inl (tq_sg4 _ (List.mem_of_getElem? (i := 219) rfl))
theorem rX11_border_0 : tq_D cX11_border 0 (.aload_n 0) 1 1 := ⟨by decide +kernel, rfl⟩
theorem rX11_border_1 : tq_D cX11_border 1 (.getfield 10) 3 4 := ⟨by decide +kernel, rfl⟩
theorem rX11_border_4 : tq_D cX11_border 4 (.iload_n 1) 1 5 := ⟨by decide +kernel, rfl⟩
theorem rX11_border_5 : tq_D cX11_border 5 (.invokevirtual 102) 3 8 := ⟨by decide +kernel, rfl⟩
theorem rX11_border_8 : tq_D cX11_border 8 (.astore_n 3) 1 9 := ⟨by decide +kernel, rfl⟩
theorem rX11_border_9 : tq_D cX11_border 9 (.aload_n 3) 1 10 := ⟨by decide +kernel, rfl⟩
theorem rX11_border_10 : tq_J cX11_border 10 .ifnonnull 15 13 := ⟨5, by decide +kernel, by decide, rfl⟩
theorem rX11_border_13 : tq_D cX11_border 13 (.iconst (-1)) 1 14 := ⟨by decide +kernel, rfl⟩
theorem rX11_border_14 : decode cX11_border 14 = .ok (.ireturn, 1) := by decide +kernel
theorem rX11_border_15 : tq_D cX11_border 15 (.aload_n 3) 1 16 := ⟨by decide +kernel, rfl⟩
theorem rX11_border_16 : tq_D cX11_border 16 (.invokevirtual 207) 3 19 := ⟨by decide +kernel, rfl⟩
theorem rX11_border_19 : tq_D cX11_border 19 (.istore 4) 2 21 := ⟨by decide +kernel, rfl⟩
theorem rX11_border_21 : tq_D cX11_border 21 (.iload_n 2) 1 22 := ⟨by decide +kernel, rfl⟩
theorem rX11_border_22 : tq_J cX11_border 22 (.ifCond .eq) 34 25 := ⟨12, by decide +kernel, by decide, rfl⟩
theorem rX11_border_25 : tq_D cX11_border 25 (.aload_n 3) 1 26 := ⟨by decide +kernel, rfl⟩
theorem rX11_border_26 : tq_D cX11_border 26 (.iload 4) 2 28 := ⟨by decide +kernel, rfl⟩
theorem rX11_border_28 : tq_D cX11_border 28 (.invokevirtual 211) 3 31 := ⟨by decide +kernel, rfl⟩
theorem rX11_border_31 : tq_J cX11_border 31 .goto 36 34 := ⟨5, by decide +kernel, by decide, rfl⟩
theorem rX11_border_34 : tq_D cX11_border 34 (.iload 4) 2 36 := ⟨by decide +kernel, rfl⟩
theorem rX11_border_36 : decode cX11_border 36 = .ok (.ireturn, 1) := by decide +kernel
noncomputable def FX11_border (I : tq_PI) (L : tq_PL) (a0 : Nat) (a1 : Int32) (a2 : Int32) : Option (Int32) :=
  ((FX0_hillAt I L ((tq_rg a0 0)) a1).bind fun p1 =>  (p1.elim (some (-1 : Int32)) (fun t2 => ((FX3_fairColumn I L t2).bind fun p3 => (if a2 = 0 then some p3 else ((FX3_unfairness I L t2 p3).bind fun p5 => some p5))))))
set_option maxRecDepth 100000 in
set_option maxHeartbeats 4000000 in
theorem CX11_border {S : Nat × (Nat → Int32)} {d : Nat} {I : tq_PI} {L : tq_PL} {a0 : Nat} {a1 : Int32} {a2 : Int32} (h0 : tq_sh0 a0 = 11) {out : Int32} (hf : FX11_border I L a0 a1 a2 = some out) : tq_K S mX11_border (d + 5) [.ref a0, .int a1, .int a2] I L (tq_one2 (some (.int out)) I L) := by
  unfold FX11_border at hf
  refine tq_K_of (by decide) (Nat.le_of_ble_eq_true rfl) (ls := [.ref a0, .int a1, .int a2, tq_u, tq_u]) rfl ?_
  refine tq_aload_n rX11_border_0 rfl ?_
  refine ty_getR rX11_border_1 f_X11_10 rfl h0 (hp_11_0 h0).1 ?_
  refine tq_iload_n rX11_border_4 rfl ?_
  obtain ⟨p1, e1, hf⟩ := Option.bind_eq_some_iff.mp hf
  refine ty_callVA p1 ([.int a1]) ([]) rX11_border_5 l_X11_102 moX0_hillAt mvX0_hillAt (hp_11_0 h0).2.1 rfl rfl (Nat.le_of_ble_eq_true rfl) ⟨rfl, rfl⟩ (CX0_hillAt (hp_11_0 h0).2.1 e1) ?_
  rcases tq_oelim hf with ⟨t2q, hf⟩ | ⟨t2, t2q, hf⟩
  · rw [t2q]
    refine tq_astoreN_n ([.ref a0, .int a1, .int a2, .null, tq_u]) rX11_border_8 (Nat.le_of_ble_eq_true rfl) rfl ?_
    refine tq_aloadN_n rX11_border_9 rfl ?_
    refine tq_ifnonnullN rX11_border_10 ?_
    refine tq_iconst (-1 : Int32) rX11_border_13 (by decide) ?_
    refine ty_iret rX11_border_14 rfl rfl ?_
    have hf := Option.some.inj hf
    subst hf
    exact ⟨rfl, rfl, rfl⟩
  · have t2h := RX0_hillAt (hp_11_0 h0).2.1 e1 t2q
    rw [t2q]
    refine tq_astore_n ([.ref a0, .int a1, .int a2, .ref t2, tq_u]) rX11_border_8 (Nat.le_of_ble_eq_true rfl) rfl ?_
    refine tq_aload_n rX11_border_9 rfl ?_
    refine tq_ifnonnullR rX11_border_10 ?_
    refine tq_aload_n rX11_border_15 rfl ?_
    obtain ⟨p3, e3, hf⟩ := Option.bind_eq_some_iff.mp hf
    refine ty_callVI p3 ([]) ([]) rX11_border_16 l_X11_207 moX3_fairColumn mvX3_fairColumn t2h rfl rfl (Nat.le_of_ble_eq_true rfl) ⟨rfl, rfl⟩ (CX3_fairColumn t2h e3) ?_
    refine tq_istore ([.ref a0, .int a1, .int a2, .ref t2, .int p3]) rX11_border_19 (Nat.le_of_ble_eq_true rfl) rfl ?_
    refine tq_iload_n rX11_border_21 rfl ?_
    refine tq_if_eq rX11_border_22 (fun c4 => ?_) (fun c4 => ?_)
    · rw [if_pos c4] at hf
      refine tq_iload rX11_border_34 rfl ?_
      refine ty_iret rX11_border_36 rfl rfl ?_
      have hf := Option.some.inj hf
      subst hf
      exact ⟨rfl, rfl, rfl⟩
    · rw [if_neg c4] at hf
      refine tq_aload_n rX11_border_25 rfl ?_
      refine tq_iload rX11_border_26 rfl ?_
      obtain ⟨p5, e5, hf⟩ := Option.bind_eq_some_iff.mp hf
      refine ty_callVI p5 ([.int p3]) ([]) rX11_border_28 l_X11_211 moX3_unfairness mvX3_unfairness t2h rfl rfl (Nat.le_of_ble_eq_true rfl) ⟨rfl, rfl⟩ (CX3_unfairness t2h e5) ?_
      refine tq_goto rX11_border_31 ?_
      refine ty_iret rX11_border_36 rfl rfl ?_
      have hf := Option.some.inj hf
      subst hf
      exact ⟨rfl, rfl, rfl⟩

abbrev mX11_propped : tq_M := (yX11_propped, cX11_propped, 7, (Option.some Jvm.ClassFile.FieldType.int), 0, 0)
theorem moX6_hold : tq_mok mX6_hold 2 := ⟨tq_sg1 _ (List.mem_of_getElem? (i := 10) rfl), tq_sg4 _ (List.mem_of_getElem? (i := 227) rfl), ⟨by decide, by decide, by decide +kernel⟩, by decide⟩
theorem mvX6_hold : 6 < 13 ∧ (tq_cl 6).1 = mX6_hold.1.cls ∧ Cond.instanceMethod mX6_hold.1 ∈ lw_tbl ∧ Cond.selects mX6_hold.1.cls mX6_hold.1 mX6_hold.1 ∈ lw_tbl := ⟨by decide, rfl, tq_sg4 _ (List.mem_of_getElem? (i := 225) rfl), tq_sg4 _ (List.mem_of_getElem? (i := 226) rfl)⟩
theorem f_X11_218 : tq_fok RX11 218 6 0 := ⟨by decide, by decide, Or.inr ⟨_, tq_sg2 _ (List.mem_of_getElem? (i := 87) rfl)⟩⟩
theorem f_X11_48 : tq_fok RX11 48 11 6 := ⟨by decide, by decide, Or.inl (tq_sg2 _ (List.mem_of_getElem? (i := 127) rfl))⟩
theorem l_X11_214 : tq_lok RX11 214 mX6_hold.1 := Or.inl (tq_sg4 _ (List.mem_of_getElem? (i := 224) rfl))
theorem rX11_propped_0 : tq_D cX11_propped 0 (.aload_n 0) 1 1 := ⟨by decide +kernel, rfl⟩
theorem rX11_propped_1 : tq_D cX11_propped 1 (.getfield 10) 3 4 := ⟨by decide +kernel, rfl⟩
theorem rX11_propped_4 : tq_D cX11_propped 4 (.iload_n 1) 1 5 := ⟨by decide +kernel, rfl⟩
theorem rX11_propped_5 : tq_D cX11_propped 5 (.invokevirtual 102) 3 8 := ⟨by decide +kernel, rfl⟩
theorem rX11_propped_8 : tq_D cX11_propped 8 (.astore 4) 2 10 := ⟨by decide +kernel, rfl⟩
theorem rX11_propped_10 : tq_D cX11_propped 10 (.aload 4) 2 12 := ⟨by decide +kernel, rfl⟩
theorem rX11_propped_12 : tq_J cX11_propped 12 .ifnonnull 17 15 := ⟨5, by decide +kernel, by decide, rfl⟩
theorem rX11_propped_15 : tq_D cX11_propped 15 (.iconst (-1)) 1 16 := ⟨by decide +kernel, rfl⟩
theorem rX11_propped_16 : decode cX11_propped 16 = .ok (.ireturn, 1) := by decide +kernel
theorem rX11_propped_17 : tq_D cX11_propped 17 (.aload 4) 2 19 := ⟨by decide +kernel, rfl⟩
theorem rX11_propped_19 : tq_D cX11_propped 19 (.invokevirtual 114) 3 22 := ⟨by decide +kernel, rfl⟩
theorem rX11_propped_22 : tq_D cX11_propped 22 (.aload 4) 2 24 := ⟨by decide +kernel, rfl⟩
theorem rX11_propped_24 : tq_D cX11_propped 24 (.iload_n 2) 1 25 := ⟨by decide +kernel, rfl⟩
theorem rX11_propped_25 : tq_D cX11_propped 25 (.invokevirtual 182) 3 28 := ⟨by decide +kernel, rfl⟩
theorem rX11_propped_28 : tq_D cX11_propped 28 (.land) 1 29 := ⟨by decide +kernel, rfl⟩
theorem rX11_propped_29 : tq_D cX11_propped 29 (.lstore 5) 2 31 := ⟨by decide +kernel, rfl⟩
theorem rX11_propped_31 : tq_D cX11_propped 31 (.lload 5) 2 33 := ⟨by decide +kernel, rfl⟩
theorem rX11_propped_33 : tq_D cX11_propped 33 (.lconst 0) 1 34 := ⟨by decide +kernel, rfl⟩
theorem rX11_propped_34 : tq_D cX11_propped 34 (.lcmp) 1 35 := ⟨by decide +kernel, rfl⟩
theorem rX11_propped_35 : tq_J cX11_propped 35 (.ifCond .eq) 52 38 := ⟨17, by decide +kernel, by decide, rfl⟩
theorem rX11_propped_38 : tq_D cX11_propped 38 (.aload_n 0) 1 39 := ⟨by decide +kernel, rfl⟩
theorem rX11_propped_39 : tq_D cX11_propped 39 (.getfield 48) 3 42 := ⟨by decide +kernel, rfl⟩
theorem rX11_propped_42 : tq_D cX11_propped 42 (.aload 4) 2 44 := ⟨by decide +kernel, rfl⟩
theorem rX11_propped_44 : tq_D cX11_propped 44 (.lload 5) 2 46 := ⟨by decide +kernel, rfl⟩
theorem rX11_propped_46 : tq_D cX11_propped 46 (.invokevirtual 214) 3 49 := ⟨by decide +kernel, rfl⟩
theorem rX11_propped_49 : tq_J cX11_propped 49 (.ifCond .ne) 54 52 := ⟨5, by decide +kernel, by decide, rfl⟩
theorem rX11_propped_52 : tq_D cX11_propped 52 (.iconst (-1)) 1 53 := ⟨by decide +kernel, rfl⟩
theorem rX11_propped_53 : decode cX11_propped 53 = .ok (.ireturn, 1) := by decide +kernel
theorem rX11_propped_54 : tq_D cX11_propped 54 (.iload_n 3) 1 55 := ⟨by decide +kernel, rfl⟩
theorem rX11_propped_55 : tq_D cX11_propped 55 (.iconst (-1)) 1 56 := ⟨by decide +kernel, rfl⟩
theorem rX11_propped_56 : tq_J cX11_propped 56 (.if_icmp .ne) 72 59 := ⟨16, by decide +kernel, by decide, rfl⟩
theorem rX11_propped_59 : tq_D cX11_propped 59 (.aload_n 0) 1 60 := ⟨by decide +kernel, rfl⟩
theorem rX11_propped_60 : tq_D cX11_propped 60 (.getfield 48) 3 63 := ⟨by decide +kernel, rfl⟩
theorem rX11_propped_63 : tq_D cX11_propped 63 (.getfield 218) 3 66 := ⟨by decide +kernel, rfl⟩
theorem rX11_propped_66 : tq_D cX11_propped 66 (.invokestatic 118) 3 69 := ⟨by decide +kernel, rfl⟩
theorem rX11_propped_69 : tq_J cX11_propped 69 .goto 85 72 := ⟨16, by decide +kernel, by decide, rfl⟩
theorem rX11_propped_72 : tq_D cX11_propped 72 (.aload 4) 2 74 := ⟨by decide +kernel, rfl⟩
theorem rX11_propped_74 : tq_D cX11_propped 74 (.aload_n 0) 1 75 := ⟨by decide +kernel, rfl⟩
theorem rX11_propped_75 : tq_D cX11_propped 75 (.getfield 48) 3 78 := ⟨by decide +kernel, rfl⟩
theorem rX11_propped_78 : tq_D cX11_propped 78 (.getfield 218) 3 81 := ⟨by decide +kernel, rfl⟩
theorem rX11_propped_81 : tq_D cX11_propped 81 (.iload_n 3) 1 82 := ⟨by decide +kernel, rfl⟩
theorem rX11_propped_82 : tq_D cX11_propped 82 (.invokevirtual 172) 3 85 := ⟨by decide +kernel, rfl⟩
theorem rX11_propped_85 : decode cX11_propped 85 = .ok (.ireturn, 1) := by decide +kernel
noncomputable def FX11_propped_j52 (I : tq_PI) (L : tq_PL)  : Option (Int32 × tq_PL) :=
  some ((-1 : Int32), L)
noncomputable def FX11_propped (I : tq_PI) (L : tq_PL) (a0 : Nat) (a1 : Int32) (a2 : Int32) (a3 : Int32) : Option (Int32 × tq_PL) :=
  ((FX0_hillAt I L ((tq_rg a0 0)) a1).bind fun p1 =>  (p1.elim (some ((-1 : Int32), L)) (fun t2 => (tq_let (FX3_stones I L t2) fun p3 => ((FX3_bitOf I L t2 a2).bind fun p4 => (if (lg_cmp (p3 &&& p4) (0 : Int64)) = 0 then (FX11_propped_j52 I L ) else ((FX6_hold I L ((tq_rg a0 6)) t2 ((p3 &&& p4))).bind fun p6 => (if (tq_b p6.1) = 0 then (FX11_propped_j52 I p6.2 ) else (if a3 = (-1 : Int32) then (tq_let (FJ13_bitCount_95d88 I p6.2 ((p6.2 (tq_rg a0 6) 0))) fun p10 => some (p10, p6.2)) else ((FX3_pick I p6.2 t2 ((p6.2 (tq_rg a0 6) 0)) a3).bind fun p9 => some (p9, p6.2)))))))))))
set_option maxRecDepth 100000 in
set_option maxHeartbeats 4000000 in
theorem FX11_propped_j52_x {S : Nat × (Nat → Int32)} {d : Nat} {I : tq_PI} {L : tq_PL}   {q0 : Option Value → tq_PI → tq_PL → Prop} {out : Int32 × tq_PL} (hf : FX11_propped_j52 I L = some out) (hk : q0 (some (.int out.1)) I out.2) : tq_X S mX11_propped (d + 5) tq_k0 52 ([tq_u, tq_u, tq_u, tq_u, tq_u, tq_u, tq_u]) ([]) (tq_st I L) (tq_Q q0) := by
  unfold FX11_propped_j52 at hf
  refine tq_iconst (-1 : Int32) rX11_propped_52 (by decide) ?_
  refine ty_iret rX11_propped_53 rfl rfl ?_
  have hf := Option.some.inj hf
  subst hf
  exact hk

set_option maxRecDepth 100000 in
set_option maxHeartbeats 4000000 in
theorem CX11_propped {S : Nat × (Nat → Int32)} {d : Nat} {I : tq_PI} {L : tq_PL} {a0 : Nat} {a1 : Int32} {a2 : Int32} {a3 : Int32} (h0 : tq_sh0 a0 = 11) {out : Int32 × tq_PL} (hf : FX11_propped I L a0 a1 a2 a3 = some out) : tq_K S mX11_propped (d + 5) [.ref a0, .int a1, .int a2, .int a3] I L (tq_one2 (some (.int out.1)) I out.2) := by
  unfold FX11_propped at hf
  refine tq_K_of (by decide) (Nat.le_of_ble_eq_true rfl) (ls := [.ref a0, .int a1, .int a2, .int a3, tq_u, tq_u, tq_u]) rfl ?_
  refine tq_aload_n rX11_propped_0 rfl ?_
  refine ty_getR rX11_propped_1 f_X11_10 rfl h0 (hp_11_0 h0).1 ?_
  refine tq_iload_n rX11_propped_4 rfl ?_
  obtain ⟨p1, e1, hf⟩ := Option.bind_eq_some_iff.mp hf
  refine ty_callVA p1 ([.int a1]) ([]) rX11_propped_5 l_X11_102 moX0_hillAt mvX0_hillAt (hp_11_0 h0).2.1 rfl rfl (Nat.le_of_ble_eq_true rfl) ⟨rfl, rfl⟩ (CX0_hillAt (hp_11_0 h0).2.1 e1) ?_
  rcases tq_oelim hf with ⟨t2q, hf⟩ | ⟨t2, t2q, hf⟩
  · rw [t2q]
    refine tq_astoreN ([.ref a0, .int a1, .int a2, .int a3, .null, tq_u, tq_u]) rX11_propped_8 (Nat.le_of_ble_eq_true rfl) rfl ?_
    refine tq_aloadN rX11_propped_10 rfl ?_
    refine tq_ifnonnullN rX11_propped_12 ?_
    refine tq_iconst (-1 : Int32) rX11_propped_15 (by decide) ?_
    refine ty_iret rX11_propped_16 rfl rfl ?_
    have hf := Option.some.inj hf
    subst hf
    exact ⟨rfl, rfl, rfl⟩
  · have t2h := RX0_hillAt (hp_11_0 h0).2.1 e1 t2q
    rw [t2q]
    refine tq_astore ([.ref a0, .int a1, .int a2, .int a3, .ref t2, tq_u, tq_u]) rX11_propped_8 (Nat.le_of_ble_eq_true rfl) rfl ?_
    refine tq_aload rX11_propped_10 rfl ?_
    refine tq_ifnonnullR rX11_propped_12 ?_
    refine tq_aload rX11_propped_17 rfl ?_
    obtain ⟨p3, e3, hf⟩ := tq_let_elim hf
    refine ty_callVJ p3 ([]) ([]) rX11_propped_19 l_X11_114 moX3_stones mvX3_stones t2h rfl rfl (Nat.le_of_ble_eq_true rfl) ⟨rfl, rfl⟩ (CX3_stones t2h e3) ?_
    refine tq_aload rX11_propped_22 rfl ?_
    refine tq_iload_n rX11_propped_24 rfl ?_
    obtain ⟨p4, e4, hf⟩ := Option.bind_eq_some_iff.mp hf
    refine ty_callVJ p4 ([.int a2]) ([.long p3]) rX11_propped_25 l_X11_182 moX3_bitOf mvX3_bitOf t2h rfl rfl (Nat.le_of_ble_eq_true rfl) ⟨rfl, rfl⟩ (CX3_bitOf t2h e4) ?_
    refine tq_land rX11_propped_28 ?_
    refine tq_lstore ([.ref a0, .int a1, .int a2, .int a3, .ref t2, .long (p3 &&& p4), tq_u]) rX11_propped_29 (Nat.le_of_ble_eq_true rfl) rfl ?_
    refine tq_lload rX11_propped_31 rfl ?_
    refine tq_lconst (0 : Int64) rX11_propped_33 (by decide) ?_
    refine tq_lcmp rX11_propped_34 ?_
    refine tq_if_eq rX11_propped_35 (fun c5 => ?_) (fun c5 => ?_)
    · rw [if_pos c5] at hf
      exact tq_forget _ (tq_le_u (tq_le_u (tq_le_u (tq_le_u (tq_le_u (tq_le_u (tq_le_u tq_le_n))))))) (FX11_propped_j52_x   hf ⟨rfl, rfl, rfl⟩)
    · rw [if_neg c5] at hf
      refine tq_aload_n rX11_propped_38 rfl ?_
      refine ty_getR rX11_propped_39 f_X11_48 rfl h0 (hp_11_6 h0).1 ?_
      refine tq_aload rX11_propped_42 rfl ?_
      refine tq_lload rX11_propped_44 rfl ?_
      obtain ⟨p6, e6, hf⟩ := Option.bind_eq_some_iff.mp hf
      refine ty_callVI (tq_b p6.1) ([.ref t2, .long (p3 &&& p4)]) ([]) rX11_propped_46 l_X11_214 moX6_hold mvX6_hold (hp_11_6 h0).2.1 rfl rfl (Nat.le_of_ble_eq_true rfl) ⟨rfl, rfl⟩ (CX6_hold (hp_11_6 h0).2.1 t2h e6) ?_
      refine tq_if_ne rX11_propped_49 (fun c7 => ?_) (fun c7 => ?_)
      · rw [if_neg c7] at hf
        refine tq_iload_n rX11_propped_54 rfl ?_
        refine tq_iconst (-1 : Int32) rX11_propped_55 (by decide) ?_
        refine tq_icmp_ne rX11_propped_56 (fun c8 => ?_) (fun c8 => ?_)
        · rw [if_neg c8] at hf
          refine tq_aload rX11_propped_72 rfl ?_
          refine tq_aload_n rX11_propped_74 rfl ?_
          refine ty_getR rX11_propped_75 f_X11_48 rfl h0 (hp_11_6 h0).1 ?_
          refine ty_getL rX11_propped_78 f_X11_218 rfl (hp_11_6 h0).2.1 ?_
          refine tq_iload_n rX11_propped_81 rfl ?_
          obtain ⟨p9, e9, hf⟩ := Option.bind_eq_some_iff.mp hf
          refine ty_callVI p9 ([.long (p6.2 (tq_rg a0 6) 0), .int a3]) ([]) rX11_propped_82 l_X11_172 moX3_pick mvX3_pick t2h rfl rfl (Nat.le_of_ble_eq_true rfl) ⟨rfl, rfl⟩ (CX3_pick t2h e9) ?_
          refine ty_iret rX11_propped_85 rfl rfl ?_
          have hf := Option.some.inj hf
          subst hf
          exact ⟨rfl, rfl, rfl⟩
        · rw [if_pos c8] at hf
          refine tq_aload_n rX11_propped_59 rfl ?_
          refine ty_getR rX11_propped_60 f_X11_48 rfl h0 (hp_11_6 h0).1 ?_
          refine ty_getL rX11_propped_63 f_X11_218 rfl (hp_11_6 h0).2.1 ?_
          obtain ⟨p10, e10, hf⟩ := tq_let_elim hf
          refine ty_callSI p10 ([.long (p6.2 (tq_rg a0 6) 0)]) ([]) rX11_propped_66 l_X11_118 moJ13_bitCount_95d88 msJ13_bitCount_95d88 rfl rfl (Nat.le_of_ble_eq_true rfl) ⟨rfl, rfl⟩ (CJ13_bitCount_95d88  e10) ?_
          refine tq_goto rX11_propped_69 ?_
          refine ty_iret rX11_propped_85 rfl rfl ?_
          have hf := Option.some.inj hf
          subst hf
          exact ⟨rfl, rfl, rfl⟩
      · rw [if_pos c7] at hf
        exact tq_forget _ (tq_le_u (tq_le_u (tq_le_u (tq_le_u (tq_le_u (tq_le_u (tq_le_u tq_le_n))))))) (FX11_propped_j52_x   hf ⟨rfl, rfl, rfl⟩)

abbrev mX11_commonDivisor : tq_M := (yX11_commonDivisor, cX11_commonDivisor, 11, (Option.some Jvm.ClassFile.FieldType.long), 0, 0)
theorem rX11_commonDivisor_0 : tq_D cX11_commonDivisor 0 (.lload_n 0) 1 1 := ⟨by decide +kernel, rfl⟩
theorem rX11_commonDivisor_1 : tq_D cX11_commonDivisor 1 (.lstore 4) 2 3 := ⟨by decide +kernel, rfl⟩
theorem rX11_commonDivisor_3 : tq_D cX11_commonDivisor 3 (.lload_n 2) 1 4 := ⟨by decide +kernel, rfl⟩
theorem rX11_commonDivisor_4 : tq_D cX11_commonDivisor 4 (.lstore 6) 2 6 := ⟨by decide +kernel, rfl⟩
theorem rX11_commonDivisor_6 : tq_D cX11_commonDivisor 6 (.iconst 0) 1 7 := ⟨by decide +kernel, rfl⟩
theorem rX11_commonDivisor_7 : tq_D cX11_commonDivisor 7 (.istore 8) 2 9 := ⟨by decide +kernel, rfl⟩
theorem rX11_commonDivisor_9 : tq_D cX11_commonDivisor 9 (.iload 8) 2 11 := ⟨by decide +kernel, rfl⟩
theorem rX11_commonDivisor_11 : tq_D cX11_commonDivisor 11 (.sipush 128) 3 14 := ⟨by decide +kernel, rfl⟩
theorem rX11_commonDivisor_14 : tq_J cX11_commonDivisor 14 (.if_icmp .ge) 45 17 := ⟨31, by decide +kernel, by decide, rfl⟩
theorem rX11_commonDivisor_17 : tq_D cX11_commonDivisor 17 (.lload 6) 2 19 := ⟨by decide +kernel, rfl⟩
theorem rX11_commonDivisor_19 : tq_D cX11_commonDivisor 19 (.lconst 0) 1 20 := ⟨by decide +kernel, rfl⟩
theorem rX11_commonDivisor_20 : tq_D cX11_commonDivisor 20 (.lcmp) 1 21 := ⟨by decide +kernel, rfl⟩
theorem rX11_commonDivisor_21 : tq_J cX11_commonDivisor 21 (.ifCond .eq) 45 24 := ⟨24, by decide +kernel, by decide, rfl⟩
theorem rX11_commonDivisor_24 : tq_D cX11_commonDivisor 24 (.lload 4) 2 26 := ⟨by decide +kernel, rfl⟩
theorem rX11_commonDivisor_26 : tq_D cX11_commonDivisor 26 (.lload 6) 2 28 := ⟨by decide +kernel, rfl⟩
theorem rX11_commonDivisor_28 : tq_D cX11_commonDivisor 28 (.lrem) 1 29 := ⟨by decide +kernel, rfl⟩
theorem rX11_commonDivisor_29 : tq_D cX11_commonDivisor 29 (.lstore 9) 2 31 := ⟨by decide +kernel, rfl⟩
theorem rX11_commonDivisor_31 : tq_D cX11_commonDivisor 31 (.lload 6) 2 33 := ⟨by decide +kernel, rfl⟩
theorem rX11_commonDivisor_33 : tq_D cX11_commonDivisor 33 (.lstore 4) 2 35 := ⟨by decide +kernel, rfl⟩
theorem rX11_commonDivisor_35 : tq_D cX11_commonDivisor 35 (.lload 9) 2 37 := ⟨by decide +kernel, rfl⟩
theorem rX11_commonDivisor_37 : tq_D cX11_commonDivisor 37 (.lstore 6) 2 39 := ⟨by decide +kernel, rfl⟩
theorem rX11_commonDivisor_39 : tq_D cX11_commonDivisor 39 (.iinc 8 1) 3 42 := ⟨by decide +kernel, rfl⟩
theorem rX11_commonDivisor_42 : tq_J cX11_commonDivisor 42 .goto 9 45 := ⟨(-33), by decide +kernel, by decide, rfl⟩
theorem rX11_commonDivisor_45 : tq_D cX11_commonDivisor 45 (.lload 4) 2 47 := ⟨by decide +kernel, rfl⟩
theorem rX11_commonDivisor_47 : decode cX11_commonDivisor 47 = .ok (.lreturn, 1) := by decide +kernel
noncomputable def FX11_commonDivisor_s9 (I : tq_PI) (L : tq_PL) (a4 : Int64) (a6 : Int64) (a8 : Int32) : Option ((Int64 × Int64 × Int32) ⊕ (Int64)) :=
  (if (128 : Int32) ≤ a8 then some (.inr a4) else (if (lg_cmp a6 (0 : Int64)) = 0 then some (.inr a4) else (if ¬ a6 = 0 then some (.inl (a6, (a4 - a4 / a6 * a6), (a8 + 1))) else none)))
noncomputable def FX11_commonDivisor (I : tq_PI) (L : tq_PL) (a0 : Int64) (a2 : Int64) : Option (Int64) :=
  ((tq_it (fun p : Int64 × Int64 × Int32 => FX11_commonDivisor_s9 I L  p.1 p.2.1 p.2.2) tq_N (a0, a2, (0 : Int32))).bind fun p4 => some p4)
set_option maxRecDepth 100000 in
set_option maxHeartbeats 4000000 in
theorem FX11_commonDivisor_s9_x {S : Nat × (Nat → Int32)} {d : Nat} {I : tq_PI} {L : tq_PL} {a4 : Int64} {a6 : Int64} {a8 : Int32}  {q0 : Option Value → tq_PI → tq_PL → Prop} {out : (Int64 × Int64 × Int32) ⊕ (Int64)} (hf : FX11_commonDivisor_s9 I L a4 a6 a8 = some out) (hk : Sum.elim (fun p : Int64 × Int64 × Int32 => tq_X S mX11_commonDivisor d tq_k0 9 ([tq_u, tq_u, tq_u, tq_u, .long p.1, tq_u, .long p.2.1, tq_u, .int p.2.2, tq_u, tq_u]) [] (tq_st I L) (tq_Q q0)) (fun p : Int64 => tq_X S mX11_commonDivisor d tq_k0 45 ([tq_u, tq_u, tq_u, tq_u, .long p, tq_u, tq_u, tq_u, tq_u, tq_u, tq_u]) [] (tq_st I L) (tq_Q q0)) out) : tq_X S mX11_commonDivisor d tq_k0 9 ([tq_u, tq_u, tq_u, tq_u, .long a4, tq_u, .long a6, tq_u, .int a8, tq_u, tq_u]) [] (tq_st I L) (tq_Q q0) := by
  unfold FX11_commonDivisor_s9 at hf
  refine tq_iload rX11_commonDivisor_9 rfl ?_
  refine tq_sipush (128 : Int32) rX11_commonDivisor_11 (by decide) ?_
  refine tq_icmp_ge rX11_commonDivisor_14 (fun c1 => ?_) (fun c1 => ?_)
  · rw [if_pos c1] at hf
    have hf := Option.some.inj hf
    subst hf
    exact tq_forget _ (tq_le_u (tq_le_u (tq_le_u (tq_le_u (tq_le_s (tq_le_u (tq_le_u (tq_le_u (tq_le_u (tq_le_u (tq_le_u tq_le_n))))))))))) hk
  · rw [if_neg c1] at hf
    refine tq_lload rX11_commonDivisor_17 rfl ?_
    refine tq_lconst (0 : Int64) rX11_commonDivisor_19 (by decide) ?_
    refine tq_lcmp rX11_commonDivisor_20 ?_
    refine tq_if_eq rX11_commonDivisor_21 (fun c2 => ?_) (fun c2 => ?_)
    · rw [if_pos c2] at hf
      have hf := Option.some.inj hf
      subst hf
      exact tq_forget _ (tq_le_u (tq_le_u (tq_le_u (tq_le_u (tq_le_s (tq_le_u (tq_le_u (tq_le_u (tq_le_u (tq_le_u (tq_le_u tq_le_n))))))))))) hk
    · rw [if_neg c2] at hf
      refine tq_lload rX11_commonDivisor_24 rfl ?_
      refine tq_lload rX11_commonDivisor_26 rfl ?_
      obtain ⟨g3, hf⟩ := tq_chk hf
      refine tq_lrem rX11_commonDivisor_28 g3 ?_
      refine tq_lstore ([tq_u, tq_u, tq_u, tq_u, .long a4, tq_u, .long a6, tq_u, .int a8, .long (a4 - a4 / a6 * a6), tq_u]) rX11_commonDivisor_29 (Nat.le_of_ble_eq_true rfl) rfl ?_
      refine tq_lload rX11_commonDivisor_31 rfl ?_
      refine tq_lstore ([tq_u, tq_u, tq_u, tq_u, .long a6, tq_u, .long a6, tq_u, .int a8, .long (a4 - a4 / a6 * a6), tq_u]) rX11_commonDivisor_33 (Nat.le_of_ble_eq_true rfl) rfl ?_
      refine tq_lload rX11_commonDivisor_35 rfl ?_
      refine tq_lstore ([tq_u, tq_u, tq_u, tq_u, .long a6, tq_u, .long (a4 - a4 / a6 * a6), tq_u, .int a8, .long (a4 - a4 / a6 * a6), tq_u]) rX11_commonDivisor_37 (Nat.le_of_ble_eq_true rfl) rfl ?_
      refine tq_iinc (a8 + 1) ([tq_u, tq_u, tq_u, tq_u, .long a6, tq_u, .long (a4 - a4 / a6 * a6), tq_u, .int (a8 + 1), .long (a4 - a4 / a6 * a6), tq_u]) rX11_commonDivisor_39 rfl (tq_inc (by decide)) (Nat.le_of_ble_eq_true rfl) rfl ?_
      refine tq_goto rX11_commonDivisor_42 ?_
      have hf := Option.some.inj hf
      subst hf
      exact tq_forget _ (tq_le_u (tq_le_u (tq_le_u (tq_le_u (tq_le_s (tq_le_u (tq_le_s (tq_le_u (tq_le_s (tq_le_u (tq_le_u tq_le_n))))))))))) hk

set_option maxRecDepth 100000 in
set_option maxHeartbeats 4000000 in
theorem CX11_commonDivisor {S : Nat × (Nat → Int32)} {d : Nat} {I : tq_PI} {L : tq_PL} {a0 : Int64} {a2 : Int64}  {out : Int64} (hf : FX11_commonDivisor I L a0 a2 = some out) : tq_K S mX11_commonDivisor d [.long a0, .long a2] I L (tq_one2 (some (.long out)) I L) := by
  unfold FX11_commonDivisor at hf
  refine tq_K_of (by decide) (Nat.le_of_ble_eq_true rfl) (ls := [.long a0, tq_u, .long a2, tq_u, tq_u, tq_u, tq_u, tq_u, tq_u, tq_u, tq_u]) rfl ?_
  refine tq_lload_n rX11_commonDivisor_0 rfl ?_
  refine tq_lstore ([.long a0, tq_u, .long a2, tq_u, .long a0, tq_u, tq_u, tq_u, tq_u, tq_u, tq_u]) rX11_commonDivisor_1 (Nat.le_of_ble_eq_true rfl) rfl ?_
  refine tq_lload_n rX11_commonDivisor_3 rfl ?_
  refine tq_lstore ([.long a0, tq_u, .long a2, tq_u, .long a0, tq_u, .long a2, tq_u, tq_u, tq_u, tq_u]) rX11_commonDivisor_4 (Nat.le_of_ble_eq_true rfl) rfl ?_
  refine tq_iconst (0 : Int32) rX11_commonDivisor_6 (by decide) ?_
  refine tq_istore ([.long a0, tq_u, .long a2, tq_u, .long a0, tq_u, .long a2, tq_u, .int (0 : Int32), tq_u, tq_u]) rX11_commonDivisor_7 (Nat.le_of_ble_eq_true rfl) rfl ?_
  obtain ⟨p4, e4, hf⟩ := Option.bind_eq_some_iff.mp hf
  refine tq_forget _ (tq_le_u (tq_le_u (tq_le_u (tq_le_u (tq_le_s (tq_le_u (tq_le_s (tq_le_u (tq_le_s (tq_le_u (tq_le_u tq_le_n))))))))))) ?_
  refine tq_it_elim (P := fun p : Int64 × Int64 × Int32 => tq_X S mX11_commonDivisor d tq_k0 9 ([tq_u, tq_u, tq_u, tq_u, .long p.1, tq_u, .long p.2.1, tq_u, .int p.2.2, tq_u, tq_u]) [] (tq_st I L) (tq_Q (tq_one2 (some (.long out)) I L))) (R := fun p : Int64 => tq_X S mX11_commonDivisor d tq_k0 45 ([tq_u, tq_u, tq_u, tq_u, .long p, tq_u, tq_u, tq_u, tq_u, tq_u, tq_u]) [] (tq_st I L) (tq_Q (tq_one2 (some (.long out)) I L))) (fun p o hp hk => FX11_commonDivisor_s9_x   hp hk) _ ((a0, a2, (0 : Int32))) _ e4 ?_
  show tq_X _ _ _ _ _ _ _ _ _
  refine tq_lload rX11_commonDivisor_45 rfl ?_
  refine ty_lret rX11_commonDivisor_47 rfl rfl ?_
  have hf := Option.some.inj hf
  subst hf
  exact ⟨rfl, rfl, rfl⟩

abbrev mX11_quake : tq_M := (yX11_quake, cX11_quake, 11, (Option.some Jvm.ClassFile.FieldType.long), 0, 0)
theorem moX3_quakeLosses : tq_mok mX3_quakeLosses 1 := ⟨tq_sg1 _ (List.mem_of_getElem? (i := 3) rfl), tq_sg5 _ (List.mem_of_getElem? (i := 11) rfl), ⟨by decide, by decide, by decide +kernel⟩, by decide⟩
theorem mvX3_quakeLosses : 3 < 13 ∧ (tq_cl 3).1 = mX3_quakeLosses.1.cls ∧ Cond.instanceMethod mX3_quakeLosses.1 ∈ lw_tbl ∧ Cond.selects mX3_quakeLosses.1.cls mX3_quakeLosses.1 mX3_quakeLosses.1 ∈ lw_tbl := ⟨by decide, rfl, tq_sg5 _ (List.mem_of_getElem? (i := 9) rfl), tq_sg5 _ (List.mem_of_getElem? (i := 10) rfl)⟩
theorem moX11_commonDivisor : tq_mok mX11_commonDivisor 2 := ⟨tq_sg1 _ (List.mem_of_getElem? (i := 1) rfl), tq_sg5 _ (List.mem_of_getElem? (i := 19) rfl), ⟨by decide, by decide, by decide +kernel⟩, by decide⟩
theorem msX11_commonDivisor : Cond.static mX11_commonDivisor.1 ∈ lw_tbl := tq_sg5 _ (List.mem_of_getElem? (i := 18) rfl)
theorem f_X11_229 : tq_fok RX11 229 3 5 := ⟨by decide, by decide, Or.inr ⟨_, tq_sg1 _ (List.mem_of_getElem? (i := 57) rfl)⟩⟩
theorem k_X11_222 : Cond.constantLong RX11 222 (-1) ∈ lw_tbl := tq_sg5 _ (List.mem_of_getElem? (i := 7) rfl)
theorem k_X11_227 : Cond.constantLong RX11 227 (10) ∈ lw_tbl := tq_sg5 _ (List.mem_of_getElem? (i := 15) rfl)
theorem l_X11_224 : tq_lok RX11 224 mX3_quakeLosses.1 := Or.inl (tq_sg5 _ (List.mem_of_getElem? (i := 8) rfl))
theorem l_X11_232 : tq_lok RX11 232 mX11_power.1 := Or.inl (tq_sg5 _ (List.mem_of_getElem? (i := 16) rfl))
theorem l_X11_236 : tq_lok RX11 236 mX11_commonDivisor.1 := Or.inl (tq_sg5 _ (List.mem_of_getElem? (i := 17) rfl))
theorem rX11_quake_0 : tq_D cX11_quake 0 (.aload_n 0) 1 1 := ⟨by decide +kernel, rfl⟩
theorem rX11_quake_1 : tq_D cX11_quake 1 (.getfield 10) 3 4 := ⟨by decide +kernel, rfl⟩
theorem rX11_quake_4 : tq_D cX11_quake 4 (.iload_n 1) 1 5 := ⟨by decide +kernel, rfl⟩
theorem rX11_quake_5 : tq_D cX11_quake 5 (.invokevirtual 102) 3 8 := ⟨by decide +kernel, rfl⟩
theorem rX11_quake_8 : tq_D cX11_quake 8 (.astore 4) 2 10 := ⟨by decide +kernel, rfl⟩
theorem rX11_quake_10 : tq_D cX11_quake 10 (.aload 4) 2 12 := ⟨by decide +kernel, rfl⟩
theorem rX11_quake_12 : tq_J cX11_quake 12 .ifnull 25 15 := ⟨13, by decide +kernel, by decide, rfl⟩
theorem rX11_quake_15 : tq_D cX11_quake 15 (.iload_n 2) 1 16 := ⟨by decide +kernel, rfl⟩
theorem rX11_quake_16 : tq_J cX11_quake 16 (.ifCond .lt) 25 19 := ⟨9, by decide +kernel, by decide, rfl⟩
theorem rX11_quake_19 : tq_D cX11_quake 19 (.iload_n 2) 1 20 := ⟨by decide +kernel, rfl⟩
theorem rX11_quake_20 : tq_D cX11_quake 20 (.bipush 10) 2 22 := ⟨by decide +kernel, rfl⟩
theorem rX11_quake_22 : tq_J cX11_quake 22 (.if_icmp .le) 29 25 := ⟨7, by decide +kernel, by decide, rfl⟩
theorem rX11_quake_25 : tq_D cX11_quake 25 (.ldc2_w 222) 3 28 := ⟨by decide +kernel, rfl⟩
theorem rX11_quake_28 : decode cX11_quake 28 = .ok (.lreturn, 1) := by decide +kernel
theorem rX11_quake_29 : tq_D cX11_quake 29 (.aload 4) 2 31 := ⟨by decide +kernel, rfl⟩
theorem rX11_quake_31 : tq_D cX11_quake 31 (.iload_n 2) 1 32 := ⟨by decide +kernel, rfl⟩
theorem rX11_quake_32 : tq_D cX11_quake 32 (.invokevirtual 224) 3 35 := ⟨by decide +kernel, rfl⟩
theorem rX11_quake_35 : tq_D cX11_quake 35 (.lstore 5) 2 37 := ⟨by decide +kernel, rfl⟩
theorem rX11_quake_37 : tq_D cX11_quake 37 (.ldc2_w 227) 3 40 := ⟨by decide +kernel, rfl⟩
theorem rX11_quake_40 : tq_D cX11_quake 40 (.aload 4) 2 42 := ⟨by decide +kernel, rfl⟩
theorem rX11_quake_42 : tq_D cX11_quake 42 (.invokevirtual 114) 3 45 := ⟨by decide +kernel, rfl⟩
theorem rX11_quake_45 : tq_D cX11_quake 45 (.aload 4) 2 47 := ⟨by decide +kernel, rfl⟩
theorem rX11_quake_47 : tq_D cX11_quake 47 (.getfield 229) 3 50 := ⟨by decide +kernel, rfl⟩
theorem rX11_quake_50 : tq_D cX11_quake 50 (.land) 1 51 := ⟨by decide +kernel, rfl⟩
theorem rX11_quake_51 : tq_D cX11_quake 51 (.invokestatic 118) 3 54 := ⟨by decide +kernel, rfl⟩
theorem rX11_quake_54 : tq_D cX11_quake 54 (.invokestatic 232) 3 57 := ⟨by decide +kernel, rfl⟩
theorem rX11_quake_57 : tq_D cX11_quake 57 (.lstore 7) 2 59 := ⟨by decide +kernel, rfl⟩
theorem rX11_quake_59 : tq_D cX11_quake 59 (.lload 5) 2 61 := ⟨by decide +kernel, rfl⟩
theorem rX11_quake_61 : tq_D cX11_quake 61 (.lload 7) 2 63 := ⟨by decide +kernel, rfl⟩
theorem rX11_quake_63 : tq_D cX11_quake 63 (.invokestatic 236) 3 66 := ⟨by decide +kernel, rfl⟩
theorem rX11_quake_66 : tq_D cX11_quake 66 (.lstore 9) 2 68 := ⟨by decide +kernel, rfl⟩
theorem rX11_quake_68 : tq_D cX11_quake 68 (.lload 9) 2 70 := ⟨by decide +kernel, rfl⟩
theorem rX11_quake_70 : tq_D cX11_quake 70 (.lconst 1) 1 71 := ⟨by decide +kernel, rfl⟩
theorem rX11_quake_71 : tq_D cX11_quake 71 (.lcmp) 1 72 := ⟨by decide +kernel, rfl⟩
theorem rX11_quake_72 : tq_J cX11_quake 72 (.ifCond .ge) 79 75 := ⟨7, by decide +kernel, by decide, rfl⟩
theorem rX11_quake_75 : tq_D cX11_quake 75 (.ldc2_w 222) 3 78 := ⟨by decide +kernel, rfl⟩
theorem rX11_quake_78 : decode cX11_quake 78 = .ok (.lreturn, 1) := by decide +kernel
theorem rX11_quake_79 : tq_D cX11_quake 79 (.iload_n 3) 1 80 := ⟨by decide +kernel, rfl⟩
theorem rX11_quake_80 : tq_J cX11_quake 80 (.ifCond .eq) 91 83 := ⟨11, by decide +kernel, by decide, rfl⟩
theorem rX11_quake_83 : tq_D cX11_quake 83 (.lload 7) 2 85 := ⟨by decide +kernel, rfl⟩
theorem rX11_quake_85 : tq_D cX11_quake 85 (.lload 9) 2 87 := ⟨by decide +kernel, rfl⟩
theorem rX11_quake_87 : tq_D cX11_quake 87 (.ldiv) 1 88 := ⟨by decide +kernel, rfl⟩
theorem rX11_quake_88 : tq_J cX11_quake 88 .goto 96 91 := ⟨8, by decide +kernel, by decide, rfl⟩
theorem rX11_quake_91 : tq_D cX11_quake 91 (.lload 5) 2 93 := ⟨by decide +kernel, rfl⟩
theorem rX11_quake_93 : tq_D cX11_quake 93 (.lload 9) 2 95 := ⟨by decide +kernel, rfl⟩
theorem rX11_quake_95 : tq_D cX11_quake 95 (.ldiv) 1 96 := ⟨by decide +kernel, rfl⟩
theorem rX11_quake_96 : decode cX11_quake 96 = .ok (.lreturn, 1) := by decide +kernel
noncomputable def FX11_quake_j25 (I : tq_PI) (L : tq_PL)  : Option (Int64) :=
  some (-1 : Int64)
noncomputable def FX11_quake (I : tq_PI) (L : tq_PL) (a0 : Nat) (a1 : Int32) (a2 : Int32) (a3 : Int32) : Option (Int64) :=
  ((FX0_hillAt I L ((tq_rg a0 0)) a1).bind fun p1 =>  (p1.elim ((FX11_quake_j25 I L )) (fun t2 => (if a2 < 0 then (FX11_quake_j25 I L ) else (if a2 ≤ (10 : Int32) then ((FX3_quakeLosses I L t2 a2).bind fun p5 => (tq_let (FX3_stones I L t2) fun p6 => (tq_let (FJ13_bitCount_95d88 I L ((p6 &&& (L t2 5)))) fun p7 => ((FX11_power I L ((10 : Int64)) p7).bind fun p8 => ((FX11_commonDivisor I L p5 p8).bind fun p9 => (if 0 ≤ (lg_cmp p9 (1 : Int64)) then (if a3 = 0 then (if ¬ p9 = 0 then some (p5 / p9) else none) else (if ¬ p9 = 0 then some (p8 / p9) else none)) else some (-1 : Int64))))))) else (FX11_quake_j25 I L ))))))
set_option maxRecDepth 100000 in
set_option maxHeartbeats 4000000 in
theorem FX11_quake_j25_x {S : Nat × (Nat → Int32)} {d : Nat} {I : tq_PI} {L : tq_PL}   {q0 : Option Value → tq_PI → tq_PL → Prop} {out : Int64} (hf : FX11_quake_j25 I L = some out) (hk : q0 (some (.long out)) I L) : tq_X S mX11_quake (d + 4) tq_k0 25 ([tq_u, tq_u, tq_u, tq_u, tq_u, tq_u, tq_u, tq_u, tq_u, tq_u, tq_u]) ([]) (tq_st I L) (tq_Q q0) := by
  unfold FX11_quake_j25 at hf
  refine tq_ldc2 rX11_quake_25 (k_X11_222) ?_
  refine ty_lret rX11_quake_28 rfl rfl ?_
  have hf := Option.some.inj hf
  subst hf
  exact hk

set_option maxRecDepth 100000 in
set_option maxHeartbeats 4000000 in
theorem CX11_quake {S : Nat × (Nat → Int32)} {d : Nat} {I : tq_PI} {L : tq_PL} {a0 : Nat} {a1 : Int32} {a2 : Int32} {a3 : Int32} (h0 : tq_sh0 a0 = 11) {out : Int64} (hf : FX11_quake I L a0 a1 a2 a3 = some out) : tq_K S mX11_quake (d + 4) [.ref a0, .int a1, .int a2, .int a3] I L (tq_one2 (some (.long out)) I L) := by
  unfold FX11_quake at hf
  refine tq_K_of (by decide) (Nat.le_of_ble_eq_true rfl) (ls := [.ref a0, .int a1, .int a2, .int a3, tq_u, tq_u, tq_u, tq_u, tq_u, tq_u, tq_u]) rfl ?_
  refine tq_aload_n rX11_quake_0 rfl ?_
  refine ty_getR rX11_quake_1 f_X11_10 rfl h0 (hp_11_0 h0).1 ?_
  refine tq_iload_n rX11_quake_4 rfl ?_
  obtain ⟨p1, e1, hf⟩ := Option.bind_eq_some_iff.mp hf
  refine ty_callVA p1 ([.int a1]) ([]) rX11_quake_5 l_X11_102 moX0_hillAt mvX0_hillAt (hp_11_0 h0).2.1 rfl rfl (Nat.le_of_ble_eq_true rfl) ⟨rfl, rfl⟩ (CX0_hillAt (hp_11_0 h0).2.1 e1) ?_
  rcases tq_oelim hf with ⟨t2q, hf⟩ | ⟨t2, t2q, hf⟩
  · rw [t2q]
    refine tq_astoreN ([.ref a0, .int a1, .int a2, .int a3, .null, tq_u, tq_u, tq_u, tq_u, tq_u, tq_u]) rX11_quake_8 (Nat.le_of_ble_eq_true rfl) rfl ?_
    refine tq_aloadN rX11_quake_10 rfl ?_
    refine tq_ifnullN rX11_quake_12 ?_
    exact tq_forget _ (tq_le_u (tq_le_u (tq_le_u (tq_le_u (tq_le_u (tq_le_u (tq_le_u (tq_le_u (tq_le_u (tq_le_u (tq_le_u tq_le_n))))))))))) (FX11_quake_j25_x   hf ⟨rfl, rfl, rfl⟩)
  · have t2h := RX0_hillAt (hp_11_0 h0).2.1 e1 t2q
    rw [t2q]
    refine tq_astore ([.ref a0, .int a1, .int a2, .int a3, .ref t2, tq_u, tq_u, tq_u, tq_u, tq_u, tq_u]) rX11_quake_8 (Nat.le_of_ble_eq_true rfl) rfl ?_
    refine tq_aload rX11_quake_10 rfl ?_
    refine tq_ifnullR rX11_quake_12 ?_
    refine tq_iload_n rX11_quake_15 rfl ?_
    refine tq_if_lt rX11_quake_16 (fun c3 => ?_) (fun c3 => ?_)
    · rw [if_pos c3] at hf
      exact tq_forget _ (tq_le_u (tq_le_u (tq_le_u (tq_le_u (tq_le_u (tq_le_u (tq_le_u (tq_le_u (tq_le_u (tq_le_u (tq_le_u tq_le_n))))))))))) (FX11_quake_j25_x   hf ⟨rfl, rfl, rfl⟩)
    · rw [if_neg c3] at hf
      refine tq_iload_n rX11_quake_19 rfl ?_
      refine tq_bipush (10 : Int32) rX11_quake_20 (by decide) ?_
      refine tq_icmp_le rX11_quake_22 (fun c4 => ?_) (fun c4 => ?_)
      · rw [if_pos c4] at hf
        refine tq_aload rX11_quake_29 rfl ?_
        refine tq_iload_n rX11_quake_31 rfl ?_
        obtain ⟨p5, e5, hf⟩ := Option.bind_eq_some_iff.mp hf
        refine ty_callVJ p5 ([.int a2]) ([]) rX11_quake_32 l_X11_224 moX3_quakeLosses mvX3_quakeLosses t2h rfl rfl (Nat.le_of_ble_eq_true rfl) ⟨rfl, rfl⟩ (CX3_quakeLosses t2h e5) ?_
        refine tq_lstore ([.ref a0, .int a1, .int a2, .int a3, .ref t2, .long p5, tq_u, tq_u, tq_u, tq_u, tq_u]) rX11_quake_35 (Nat.le_of_ble_eq_true rfl) rfl ?_
        refine tq_ldc2 rX11_quake_37 (k_X11_227) ?_
        refine tq_aload rX11_quake_40 rfl ?_
        obtain ⟨p6, e6, hf⟩ := tq_let_elim hf
        refine ty_callVJ p6 ([]) ([.long (10 : Int64)]) rX11_quake_42 l_X11_114 moX3_stones mvX3_stones t2h rfl rfl (Nat.le_of_ble_eq_true rfl) ⟨rfl, rfl⟩ (CX3_stones t2h e6) ?_
        refine tq_aload rX11_quake_45 rfl ?_
        refine ty_getL rX11_quake_47 f_X11_229 rfl t2h ?_
        refine tq_land rX11_quake_50 ?_
        obtain ⟨p7, e7, hf⟩ := tq_let_elim hf
        refine ty_callSI p7 ([.long (p6 &&& (L t2 5))]) ([.long (10 : Int64)]) rX11_quake_51 l_X11_118 moJ13_bitCount_95d88 msJ13_bitCount_95d88 rfl rfl (Nat.le_of_ble_eq_true rfl) ⟨rfl, rfl⟩ (CJ13_bitCount_95d88  e7) ?_
        obtain ⟨p8, e8, hf⟩ := Option.bind_eq_some_iff.mp hf
        refine ty_callSJ p8 ([.long (10 : Int64), .int p7]) ([]) rX11_quake_54 l_X11_232 moX11_power msX11_power rfl rfl (Nat.le_of_ble_eq_true rfl) ⟨rfl, rfl⟩ (CX11_power  e8) ?_
        refine tq_lstore ([.ref a0, .int a1, .int a2, .int a3, .ref t2, .long p5, tq_u, .long p8, tq_u, tq_u, tq_u]) rX11_quake_57 (Nat.le_of_ble_eq_true rfl) rfl ?_
        refine tq_lload rX11_quake_59 rfl ?_
        refine tq_lload rX11_quake_61 rfl ?_
        obtain ⟨p9, e9, hf⟩ := Option.bind_eq_some_iff.mp hf
        refine ty_callSJ p9 ([.long p5, .long p8]) ([]) rX11_quake_63 l_X11_236 moX11_commonDivisor msX11_commonDivisor rfl rfl (Nat.le_of_ble_eq_true rfl) ⟨rfl, rfl⟩ (CX11_commonDivisor  e9) ?_
        refine tq_lstore ([.ref a0, .int a1, .int a2, .int a3, .ref t2, .long p5, tq_u, .long p8, tq_u, .long p9, tq_u]) rX11_quake_66 (Nat.le_of_ble_eq_true rfl) rfl ?_
        refine tq_lload rX11_quake_68 rfl ?_
        refine tq_lconst (1 : Int64) rX11_quake_70 (by decide) ?_
        refine tq_lcmp rX11_quake_71 ?_
        refine tq_if_ge rX11_quake_72 (fun c10 => ?_) (fun c10 => ?_)
        · rw [if_pos c10] at hf
          refine tq_iload_n rX11_quake_79 rfl ?_
          refine tq_if_eq rX11_quake_80 (fun c11 => ?_) (fun c11 => ?_)
          · rw [if_pos c11] at hf
            refine tq_lload rX11_quake_91 rfl ?_
            refine tq_lload rX11_quake_93 rfl ?_
            obtain ⟨g12, hf⟩ := tq_chk hf
            refine tq_ldiv rX11_quake_95 g12 ?_
            refine ty_lret rX11_quake_96 rfl rfl ?_
            have hf := Option.some.inj hf
            subst hf
            exact ⟨rfl, rfl, rfl⟩
          · rw [if_neg c11] at hf
            refine tq_lload rX11_quake_83 rfl ?_
            refine tq_lload rX11_quake_85 rfl ?_
            obtain ⟨g13, hf⟩ := tq_chk hf
            refine tq_ldiv rX11_quake_87 g13 ?_
            refine tq_goto rX11_quake_88 ?_
            refine ty_lret rX11_quake_96 rfl rfl ?_
            have hf := Option.some.inj hf
            subst hf
            exact ⟨rfl, rfl, rfl⟩
        · rw [if_neg c10] at hf
          refine tq_ldc2 rX11_quake_75 (k_X11_222) ?_
          refine ty_lret rX11_quake_78 rfl rfl ?_
          have hf := Option.some.inj hf
          subst hf
          exact ⟨rfl, rfl, rfl⟩
      · rw [if_neg c4] at hf
        exact tq_forget _ (tq_le_u (tq_le_u (tq_le_u (tq_le_u (tq_le_u (tq_le_u (tq_le_u (tq_le_u (tq_le_u (tq_le_u (tq_le_u tq_le_n))))))))))) (FX11_quake_j25_x   hf ⟨rfl, rfl, rfl⟩)

abbrev mX11_fact : tq_M := (yX11_fact, cX11_fact, 5, (Option.some Jvm.ClassFile.FieldType.int), 0, 0)
theorem moX0_logAt : tq_mok mX0_logAt 1 := ⟨tq_sg1 _ (List.mem_of_getElem? (i := 2) rfl), tq_sg5 _ (List.mem_of_getElem? (i := 27) rfl), ⟨by decide, by decide, by decide +kernel⟩, by decide⟩
theorem mvX0_logAt : 0 < 13 ∧ (tq_cl 0).1 = mX0_logAt.1.cls ∧ Cond.instanceMethod mX0_logAt.1 ∈ lw_tbl ∧ Cond.selects mX0_logAt.1.cls mX0_logAt.1 mX0_logAt.1 ∈ lw_tbl := ⟨by decide, rfl, tq_sg5 _ (List.mem_of_getElem? (i := 25) rfl), tq_sg5 _ (List.mem_of_getElem? (i := 26) rfl)⟩
theorem f_X11_244 : tq_fok RX11 244 4 0 := ⟨by decide, by decide, Or.inr ⟨_, tq_sg1 _ (List.mem_of_getElem? (i := 114) rfl)⟩⟩
theorem l_X11_240 : tq_lok RX11 240 mX0_logAt.1 := Or.inl (tq_sg5 _ (List.mem_of_getElem? (i := 24) rfl))
theorem l_X11_247 : tq_lok RX11 247 mX4_cellAt.1 := Or.inl (tq_sg5 _ (List.mem_of_getElem? (i := 28) rfl))
theorem l_X11_248 : tq_lok RX11 248 mX4_heardAt.1 := Or.inl (tq_sg5 _ (List.mem_of_getElem? (i := 32) rfl))
theorem rX11_fact_0 : tq_D cX11_fact 0 (.aload_n 0) 1 1 := ⟨by decide +kernel, rfl⟩
theorem rX11_fact_1 : tq_D cX11_fact 1 (.getfield 10) 3 4 := ⟨by decide +kernel, rfl⟩
theorem rX11_fact_4 : tq_D cX11_fact 4 (.iload_n 1) 1 5 := ⟨by decide +kernel, rfl⟩
theorem rX11_fact_5 : tq_D cX11_fact 5 (.invokevirtual 240) 3 8 := ⟨by decide +kernel, rfl⟩
theorem rX11_fact_8 : tq_D cX11_fact 8 (.astore 4) 2 10 := ⟨by decide +kernel, rfl⟩
theorem rX11_fact_10 : tq_D cX11_fact 10 (.aload 4) 2 12 := ⟨by decide +kernel, rfl⟩
theorem rX11_fact_12 : tq_J cX11_fact 12 .ifnonnull 18 15 := ⟨6, by decide +kernel, by decide, rfl⟩
theorem rX11_fact_15 : tq_D cX11_fact 15 (.bipush (-2)) 2 17 := ⟨by decide +kernel, rfl⟩
theorem rX11_fact_17 : decode cX11_fact 17 = .ok (.ireturn, 1) := by decide +kernel
theorem rX11_fact_18 : tq_D cX11_fact 18 (.iload_n 2) 1 19 := ⟨by decide +kernel, rfl⟩
theorem rX11_fact_19 : tq_D cX11_fact 19 (.iconst (-1)) 1 20 := ⟨by decide +kernel, rfl⟩
theorem rX11_fact_20 : tq_J cX11_fact 20 (.if_icmp .ne) 38 23 := ⟨18, by decide +kernel, by decide, rfl⟩
theorem rX11_fact_23 : tq_D cX11_fact 23 (.iload_n 3) 1 24 := ⟨by decide +kernel, rfl⟩
theorem rX11_fact_24 : tq_J cX11_fact 24 (.ifCond .ne) 35 27 := ⟨11, by decide +kernel, by decide, rfl⟩
theorem rX11_fact_27 : tq_D cX11_fact 27 (.aload 4) 2 29 := ⟨by decide +kernel, rfl⟩
theorem rX11_fact_29 : tq_D cX11_fact 29 (.getfield 244) 3 32 := ⟨by decide +kernel, rfl⟩
theorem rX11_fact_32 : tq_J cX11_fact 32 .goto 37 35 := ⟨5, by decide +kernel, by decide, rfl⟩
theorem rX11_fact_35 : tq_D cX11_fact 35 (.bipush (-2)) 2 37 := ⟨by decide +kernel, rfl⟩
theorem rX11_fact_37 : decode cX11_fact 37 = .ok (.ireturn, 1) := by decide +kernel
theorem rX11_fact_38 : tq_D cX11_fact 38 (.iload_n 2) 1 39 := ⟨by decide +kernel, rfl⟩
theorem rX11_fact_39 : tq_J cX11_fact 39 (.ifCond .lt) 60 42 := ⟨21, by decide +kernel, by decide, rfl⟩
theorem rX11_fact_42 : tq_D cX11_fact 42 (.iload_n 2) 1 43 := ⟨by decide +kernel, rfl⟩
theorem rX11_fact_43 : tq_D cX11_fact 43 (.aload 4) 2 45 := ⟨by decide +kernel, rfl⟩
theorem rX11_fact_45 : tq_D cX11_fact 45 (.getfield 244) 3 48 := ⟨by decide +kernel, rfl⟩
theorem rX11_fact_48 : tq_J cX11_fact 48 (.if_icmp .ge) 60 51 := ⟨12, by decide +kernel, by decide, rfl⟩
theorem rX11_fact_51 : tq_D cX11_fact 51 (.iload_n 3) 1 52 := ⟨by decide +kernel, rfl⟩
theorem rX11_fact_52 : tq_J cX11_fact 52 (.ifCond .lt) 60 55 := ⟨8, by decide +kernel, by decide, rfl⟩
theorem rX11_fact_55 : tq_D cX11_fact 55 (.iload_n 3) 1 56 := ⟨by decide +kernel, rfl⟩
theorem rX11_fact_56 : tq_D cX11_fact 56 (.iconst 1) 1 57 := ⟨by decide +kernel, rfl⟩
theorem rX11_fact_57 : tq_J cX11_fact 57 (.if_icmp .le) 63 60 := ⟨6, by decide +kernel, by decide, rfl⟩
theorem rX11_fact_60 : tq_D cX11_fact 60 (.bipush (-2)) 2 62 := ⟨by decide +kernel, rfl⟩
theorem rX11_fact_62 : decode cX11_fact 62 = .ok (.ireturn, 1) := by decide +kernel
theorem rX11_fact_63 : tq_D cX11_fact 63 (.iload_n 3) 1 64 := ⟨by decide +kernel, rfl⟩
theorem rX11_fact_64 : tq_J cX11_fact 64 (.ifCond .ne) 76 67 := ⟨12, by decide +kernel, by decide, rfl⟩
theorem rX11_fact_67 : tq_D cX11_fact 67 (.aload 4) 2 69 := ⟨by decide +kernel, rfl⟩
theorem rX11_fact_69 : tq_D cX11_fact 69 (.iload_n 2) 1 70 := ⟨by decide +kernel, rfl⟩
theorem rX11_fact_70 : tq_D cX11_fact 70 (.invokevirtual 247) 3 73 := ⟨by decide +kernel, rfl⟩
theorem rX11_fact_73 : tq_J cX11_fact 73 .goto 82 76 := ⟨9, by decide +kernel, by decide, rfl⟩
theorem rX11_fact_76 : tq_D cX11_fact 76 (.aload 4) 2 78 := ⟨by decide +kernel, rfl⟩
theorem rX11_fact_78 : tq_D cX11_fact 78 (.iload_n 2) 1 79 := ⟨by decide +kernel, rfl⟩
theorem rX11_fact_79 : tq_D cX11_fact 79 (.invokevirtual 248) 3 82 := ⟨by decide +kernel, rfl⟩
theorem rX11_fact_82 : decode cX11_fact 82 = .ok (.ireturn, 1) := by decide +kernel
noncomputable def FX11_fact_j60 (I : tq_PI) (L : tq_PL)  : Option (Int32) :=
  some (-2 : Int32)
noncomputable def FX11_fact (I : tq_PI) (L : tq_PL) (a0 : Nat) (a1 : Int32) (a2 : Int32) (a3 : Int32) : Option (Int32) :=
  ((FX0_logAt I L ((tq_rg a0 0)) a1).bind fun p1 =>  (p1.elim (some (-2 : Int32)) (fun t2 => (if a2 = (-1 : Int32) then (if a3 = 0 then some (I t2 0) else some (-2 : Int32)) else (if a2 < 0 then (FX11_fact_j60 I L ) else (if (I t2 0) ≤ a2 then (FX11_fact_j60 I L ) else (if a3 < 0 then (FX11_fact_j60 I L ) else (if a3 ≤ (1 : Int32) then (if a3 = 0 then ((FX4_cellAt I L t2 a2).bind fun p10 => some p10) else ((FX4_heardAt I L t2 a2).bind fun p9 => some p9)) else (FX11_fact_j60 I L )))))))))
set_option maxRecDepth 100000 in
set_option maxHeartbeats 4000000 in
theorem FX11_fact_j60_x {S : Nat × (Nat → Int32)} {d : Nat} {I : tq_PI} {L : tq_PL}   {q0 : Option Value → tq_PI → tq_PL → Prop} {out : Int32} (hf : FX11_fact_j60 I L = some out) (hk : q0 (some (.int out)) I L) : tq_X S mX11_fact (d + 2) tq_k0 60 ([tq_u, tq_u, tq_u, tq_u, tq_u]) ([]) (tq_st I L) (tq_Q q0) := by
  unfold FX11_fact_j60 at hf
  refine tq_bipush (-2 : Int32) rX11_fact_60 (by decide) ?_
  refine ty_iret rX11_fact_62 rfl rfl ?_
  have hf := Option.some.inj hf
  subst hf
  exact hk

set_option maxRecDepth 100000 in
set_option maxHeartbeats 4000000 in
theorem CX11_fact {S : Nat × (Nat → Int32)} {d : Nat} {I : tq_PI} {L : tq_PL} {a0 : Nat} {a1 : Int32} {a2 : Int32} {a3 : Int32} (h0 : tq_sh0 a0 = 11) {out : Int32} (hf : FX11_fact I L a0 a1 a2 a3 = some out) : tq_K S mX11_fact (d + 2) [.ref a0, .int a1, .int a2, .int a3] I L (tq_one2 (some (.int out)) I L) := by
  unfold FX11_fact at hf
  refine tq_K_of (by decide) (Nat.le_of_ble_eq_true rfl) (ls := [.ref a0, .int a1, .int a2, .int a3, tq_u]) rfl ?_
  refine tq_aload_n rX11_fact_0 rfl ?_
  refine ty_getR rX11_fact_1 f_X11_10 rfl h0 (hp_11_0 h0).1 ?_
  refine tq_iload_n rX11_fact_4 rfl ?_
  obtain ⟨p1, e1, hf⟩ := Option.bind_eq_some_iff.mp hf
  refine ty_callVA p1 ([.int a1]) ([]) rX11_fact_5 l_X11_240 moX0_logAt mvX0_logAt (hp_11_0 h0).2.1 rfl rfl (Nat.le_of_ble_eq_true rfl) ⟨rfl, rfl⟩ (CX0_logAt (hp_11_0 h0).2.1 e1) ?_
  rcases tq_oelim hf with ⟨t2q, hf⟩ | ⟨t2, t2q, hf⟩
  · rw [t2q]
    refine tq_astoreN ([.ref a0, .int a1, .int a2, .int a3, .null]) rX11_fact_8 (Nat.le_of_ble_eq_true rfl) rfl ?_
    refine tq_aloadN rX11_fact_10 rfl ?_
    refine tq_ifnonnullN rX11_fact_12 ?_
    refine tq_bipush (-2 : Int32) rX11_fact_15 (by decide) ?_
    refine ty_iret rX11_fact_17 rfl rfl ?_
    have hf := Option.some.inj hf
    subst hf
    exact ⟨rfl, rfl, rfl⟩
  · have t2h := RX0_logAt (hp_11_0 h0).2.1 e1 t2q
    rw [t2q]
    refine tq_astore ([.ref a0, .int a1, .int a2, .int a3, .ref t2]) rX11_fact_8 (Nat.le_of_ble_eq_true rfl) rfl ?_
    refine tq_aload rX11_fact_10 rfl ?_
    refine tq_ifnonnullR rX11_fact_12 ?_
    refine tq_iload_n rX11_fact_18 rfl ?_
    refine tq_iconst (-1 : Int32) rX11_fact_19 (by decide) ?_
    refine tq_icmp_ne rX11_fact_20 (fun c3 => ?_) (fun c3 => ?_)
    · rw [if_neg c3] at hf
      refine tq_iload_n rX11_fact_38 rfl ?_
      refine tq_if_lt rX11_fact_39 (fun c4 => ?_) (fun c4 => ?_)
      · rw [if_pos c4] at hf
        exact tq_forget _ (tq_le_u (tq_le_u (tq_le_u (tq_le_u (tq_le_u tq_le_n))))) (FX11_fact_j60_x   hf ⟨rfl, rfl, rfl⟩)
      · rw [if_neg c4] at hf
        refine tq_iload_n rX11_fact_42 rfl ?_
        refine tq_aload rX11_fact_43 rfl ?_
        refine ty_getI rX11_fact_45 f_X11_244 rfl t2h ?_
        refine tq_icmp_ge rX11_fact_48 (fun c5 => ?_) (fun c5 => ?_)
        · rw [if_pos c5] at hf
          exact tq_forget _ (tq_le_u (tq_le_u (tq_le_u (tq_le_u (tq_le_u tq_le_n))))) (FX11_fact_j60_x   hf ⟨rfl, rfl, rfl⟩)
        · rw [if_neg c5] at hf
          refine tq_iload_n rX11_fact_51 rfl ?_
          refine tq_if_lt rX11_fact_52 (fun c6 => ?_) (fun c6 => ?_)
          · rw [if_pos c6] at hf
            exact tq_forget _ (tq_le_u (tq_le_u (tq_le_u (tq_le_u (tq_le_u tq_le_n))))) (FX11_fact_j60_x   hf ⟨rfl, rfl, rfl⟩)
          · rw [if_neg c6] at hf
            refine tq_iload_n rX11_fact_55 rfl ?_
            refine tq_iconst (1 : Int32) rX11_fact_56 (by decide) ?_
            refine tq_icmp_le rX11_fact_57 (fun c7 => ?_) (fun c7 => ?_)
            · rw [if_pos c7] at hf
              refine tq_iload_n rX11_fact_63 rfl ?_
              refine tq_if_ne rX11_fact_64 (fun c8 => ?_) (fun c8 => ?_)
              · rw [if_neg c8] at hf
                refine tq_aload rX11_fact_76 rfl ?_
                refine tq_iload_n rX11_fact_78 rfl ?_
                obtain ⟨p9, e9, hf⟩ := Option.bind_eq_some_iff.mp hf
                refine ty_callVI p9 ([.int a2]) ([]) rX11_fact_79 l_X11_248 moX4_heardAt mvX4_heardAt t2h rfl rfl (Nat.le_of_ble_eq_true rfl) ⟨rfl, rfl⟩ (CX4_heardAt t2h e9) ?_
                refine ty_iret rX11_fact_82 rfl rfl ?_
                have hf := Option.some.inj hf
                subst hf
                exact ⟨rfl, rfl, rfl⟩
              · rw [if_pos c8] at hf
                refine tq_aload rX11_fact_67 rfl ?_
                refine tq_iload_n rX11_fact_69 rfl ?_
                obtain ⟨p10, e10, hf⟩ := Option.bind_eq_some_iff.mp hf
                refine ty_callVI p10 ([.int a2]) ([]) rX11_fact_70 l_X11_247 moX4_cellAt mvX4_cellAt t2h rfl rfl (Nat.le_of_ble_eq_true rfl) ⟨rfl, rfl⟩ (CX4_cellAt t2h e10) ?_
                refine tq_goto rX11_fact_73 ?_
                refine ty_iret rX11_fact_82 rfl rfl ?_
                have hf := Option.some.inj hf
                subst hf
                exact ⟨rfl, rfl, rfl⟩
            · rw [if_neg c7] at hf
              exact tq_forget _ (tq_le_u (tq_le_u (tq_le_u (tq_le_u (tq_le_u tq_le_n))))) (FX11_fact_j60_x   hf ⟨rfl, rfl, rfl⟩)
    · rw [if_pos c3] at hf
      refine tq_iload_n rX11_fact_23 rfl ?_
      refine tq_if_ne rX11_fact_24 (fun c11 => ?_) (fun c11 => ?_)
      · rw [if_neg c11] at hf
        refine tq_bipush (-2 : Int32) rX11_fact_35 (by decide) ?_
        refine ty_iret rX11_fact_37 rfl rfl ?_
        have hf := Option.some.inj hf
        subst hf
        exact ⟨rfl, rfl, rfl⟩
      · rw [if_pos c11] at hf
        refine tq_aload rX11_fact_27 rfl ?_
        refine ty_getI rX11_fact_29 f_X11_244 rfl t2h ?_
        refine tq_goto rX11_fact_32 ?_
        refine ty_iret rX11_fact_37 rfl rfl ?_
        have hf := Option.some.inj hf
        subst hf
        exact ⟨rfl, rfl, rfl⟩

abbrev mX11_fits : tq_M := (yX11_fits, cX11_fits, 4, (Option.some Jvm.ClassFile.FieldType.int), 0, 0)
theorem moX2_bestAsked : tq_mok mX2_bestAsked 0 := ⟨tq_sg1 _ (List.mem_of_getElem? (i := 11) rfl), tq_sg5 _ (List.mem_of_getElem? (i := 75) rfl), ⟨by decide, by decide, by decide +kernel⟩, by decide⟩
theorem mvX2_bestAsked : 2 < 13 ∧ (tq_cl 2).1 = mX2_bestAsked.1.cls ∧ Cond.instanceMethod mX2_bestAsked.1 ∈ lw_tbl ∧ Cond.selects mX2_bestAsked.1.cls mX2_bestAsked.1 mX2_bestAsked.1 ∈ lw_tbl := ⟨by decide, rfl, tq_sg5 _ (List.mem_of_getElem? (i := 73) rfl), tq_sg5 _ (List.mem_of_getElem? (i := 74) rfl)⟩
theorem moX2_fitAt : tq_mok mX2_fitAt 1 := ⟨tq_sg1 _ (List.mem_of_getElem? (i := 11) rfl), tq_sg5 _ (List.mem_of_getElem? (i := 89) rfl), ⟨by decide, by decide, by decide +kernel⟩, by decide⟩
theorem mvX2_fitAt : 2 < 13 ∧ (tq_cl 2).1 = mX2_fitAt.1.cls ∧ Cond.instanceMethod mX2_fitAt.1 ∈ lw_tbl ∧ Cond.selects mX2_fitAt.1.cls mX2_fitAt.1 mX2_fitAt.1 ∈ lw_tbl := ⟨by decide, rfl, tq_sg5 _ (List.mem_of_getElem? (i := 87) rfl), tq_sg5 _ (List.mem_of_getElem? (i := 88) rfl)⟩
theorem moX2_gather : tq_mok mX2_gather 1 := ⟨tq_sg1 _ (List.mem_of_getElem? (i := 11) rfl), tq_sg5 _ (List.mem_of_getElem? (i := 43) rfl), ⟨by decide, by decide, by decide +kernel⟩, by decide⟩
theorem mvX2_gather : 2 < 13 ∧ (tq_cl 2).1 = mX2_gather.1.cls ∧ Cond.instanceMethod mX2_gather.1 ∈ lw_tbl ∧ Cond.selects mX2_gather.1.cls mX2_gather.1 mX2_gather.1 ∈ lw_tbl := ⟨by decide, rfl, tq_sg5 _ (List.mem_of_getElem? (i := 41) rfl), tq_sg5 _ (List.mem_of_getElem? (i := 42) rfl)⟩
theorem moX2_sureCell : tq_mok mX2_sureCell 0 := ⟨tq_sg1 _ (List.mem_of_getElem? (i := 11) rfl), tq_sg5 _ (List.mem_of_getElem? (i := 67) rfl), ⟨by decide, by decide, by decide +kernel⟩, by decide⟩
theorem mvX2_sureCell : 2 < 13 ∧ (tq_cl 2).1 = mX2_sureCell.1.cls ∧ Cond.instanceMethod mX2_sureCell.1 ∈ lw_tbl ∧ Cond.selects mX2_sureCell.1.cls mX2_sureCell.1 mX2_sureCell.1 ∈ lw_tbl := ⟨by decide, rfl, tq_sg5 _ (List.mem_of_getElem? (i := 65) rfl), tq_sg5 _ (List.mem_of_getElem? (i := 66) rfl)⟩
theorem moX2_sureStrength : tq_mok mX2_sureStrength 0 := ⟨tq_sg1 _ (List.mem_of_getElem? (i := 11) rfl), tq_sg5 _ (List.mem_of_getElem? (i := 71) rfl), ⟨by decide, by decide, by decide +kernel⟩, by decide⟩
theorem mvX2_sureStrength : 2 < 13 ∧ (tq_cl 2).1 = mX2_sureStrength.1.cls ∧ Cond.instanceMethod mX2_sureStrength.1 ∈ lw_tbl ∧ Cond.selects mX2_sureStrength.1.cls mX2_sureStrength.1 mX2_sureStrength.1 ∈ lw_tbl := ⟨by decide, rfl, tq_sg5 _ (List.mem_of_getElem? (i := 69) rfl), tq_sg5 _ (List.mem_of_getElem? (i := 70) rfl)⟩
theorem f_X11_55 : tq_fok RX11 55 11 7 := ⟨by decide, by decide, Or.inl (tq_sg2 _ (List.mem_of_getElem? (i := 128) rfl))⟩
theorem l_X11_251 : tq_lok RX11 251 mX2_gather.1 := Or.inl (tq_sg5 _ (List.mem_of_getElem? (i := 40) rfl))
theorem l_X11_255 : tq_lok RX11 255 mX2_fitCount.1 := Or.inl (tq_sg5 _ (List.mem_of_getElem? (i := 55) rfl))
theorem l_X11_258 : tq_lok RX11 258 mX2_sureCell.1 := Or.inl (tq_sg5 _ (List.mem_of_getElem? (i := 64) rfl))
theorem l_X11_261 : tq_lok RX11 261 mX2_sureStrength.1 := Or.inl (tq_sg5 _ (List.mem_of_getElem? (i := 68) rfl))
theorem l_X11_264 : tq_lok RX11 264 mX2_bestAsked.1 := Or.inl (tq_sg5 _ (List.mem_of_getElem? (i := 72) rfl))
theorem l_X11_267 : tq_lok RX11 267 mX2_fitAt.1 := Or.inl (tq_sg5 _ (List.mem_of_getElem? (i := 86) rfl))
theorem rX11_fits_0 : tq_D cX11_fits 0 (.aload_n 0) 1 1 := ⟨by decide +kernel, rfl⟩
theorem rX11_fits_1 : tq_D cX11_fits 1 (.getfield 10) 3 4 := ⟨by decide +kernel, rfl⟩
theorem rX11_fits_4 : tq_D cX11_fits 4 (.iload_n 1) 1 5 := ⟨by decide +kernel, rfl⟩
theorem rX11_fits_5 : tq_D cX11_fits 5 (.invokevirtual 240) 3 8 := ⟨by decide +kernel, rfl⟩
theorem rX11_fits_8 : tq_D cX11_fits 8 (.astore_n 3) 1 9 := ⟨by decide +kernel, rfl⟩
theorem rX11_fits_9 : tq_D cX11_fits 9 (.aload_n 3) 1 10 := ⟨by decide +kernel, rfl⟩
theorem rX11_fits_10 : tq_J cX11_fits 10 .ifnonnull 16 13 := ⟨6, by decide +kernel, by decide, rfl⟩
theorem rX11_fits_13 : tq_D cX11_fits 13 (.bipush (-2)) 2 15 := ⟨by decide +kernel, rfl⟩
theorem rX11_fits_15 : decode cX11_fits 15 = .ok (.ireturn, 1) := by decide +kernel
theorem rX11_fits_16 : tq_D cX11_fits 16 (.aload_n 0) 1 17 := ⟨by decide +kernel, rfl⟩
theorem rX11_fits_17 : tq_D cX11_fits 17 (.getfield 55) 3 20 := ⟨by decide +kernel, rfl⟩
theorem rX11_fits_20 : tq_D cX11_fits 20 (.aload_n 3) 1 21 := ⟨by decide +kernel, rfl⟩
theorem rX11_fits_21 : tq_D cX11_fits 21 (.invokevirtual 251) 3 24 := ⟨by decide +kernel, rfl⟩
theorem rX11_fits_24 : tq_D cX11_fits 24 (.iload_n 2) 1 25 := ⟨by decide +kernel, rfl⟩
theorem rX11_fits_25 : decode cX11_fits 25 = .ok (.tableswitch 63 0 3 #[31, 39, 47, 55], 31) := by decide +kernel
theorem rX11_fits_56 : tq_D cX11_fits 56 (.aload_n 0) 1 57 := ⟨by decide +kernel, rfl⟩
theorem rX11_fits_57 : tq_D cX11_fits 57 (.getfield 55) 3 60 := ⟨by decide +kernel, rfl⟩
theorem rX11_fits_60 : tq_D cX11_fits 60 (.invokevirtual 255) 3 63 := ⟨by decide +kernel, rfl⟩
theorem rX11_fits_63 : decode cX11_fits 63 = .ok (.ireturn, 1) := by decide +kernel
theorem rX11_fits_64 : tq_D cX11_fits 64 (.aload_n 0) 1 65 := ⟨by decide +kernel, rfl⟩
theorem rX11_fits_65 : tq_D cX11_fits 65 (.getfield 55) 3 68 := ⟨by decide +kernel, rfl⟩
theorem rX11_fits_68 : tq_D cX11_fits 68 (.invokevirtual 258) 3 71 := ⟨by decide +kernel, rfl⟩
theorem rX11_fits_71 : decode cX11_fits 71 = .ok (.ireturn, 1) := by decide +kernel
theorem rX11_fits_72 : tq_D cX11_fits 72 (.aload_n 0) 1 73 := ⟨by decide +kernel, rfl⟩
theorem rX11_fits_73 : tq_D cX11_fits 73 (.getfield 55) 3 76 := ⟨by decide +kernel, rfl⟩
theorem rX11_fits_76 : tq_D cX11_fits 76 (.invokevirtual 261) 3 79 := ⟨by decide +kernel, rfl⟩
theorem rX11_fits_79 : decode cX11_fits 79 = .ok (.ireturn, 1) := by decide +kernel
theorem rX11_fits_80 : tq_D cX11_fits 80 (.aload_n 0) 1 81 := ⟨by decide +kernel, rfl⟩
theorem rX11_fits_81 : tq_D cX11_fits 81 (.getfield 55) 3 84 := ⟨by decide +kernel, rfl⟩
theorem rX11_fits_84 : tq_D cX11_fits 84 (.invokevirtual 264) 3 87 := ⟨by decide +kernel, rfl⟩
theorem rX11_fits_87 : decode cX11_fits 87 = .ok (.ireturn, 1) := by decide +kernel
theorem rX11_fits_88 : tq_D cX11_fits 88 (.iload_n 2) 1 89 := ⟨by decide +kernel, rfl⟩
theorem rX11_fits_89 : tq_D cX11_fits 89 (.bipush 10) 2 91 := ⟨by decide +kernel, rfl⟩
theorem rX11_fits_91 : tq_J cX11_fits 91 (.if_icmp .ge) 99 94 := ⟨8, by decide +kernel, by decide, rfl⟩
theorem rX11_fits_94 : tq_D cX11_fits 94 (.bipush (-2)) 2 96 := ⟨by decide +kernel, rfl⟩
theorem rX11_fits_96 : tq_J cX11_fits 96 .goto 110 99 := ⟨14, by decide +kernel, by decide, rfl⟩
theorem rX11_fits_99 : tq_D cX11_fits 99 (.aload_n 0) 1 100 := ⟨by decide +kernel, rfl⟩
theorem rX11_fits_100 : tq_D cX11_fits 100 (.getfield 55) 3 103 := ⟨by decide +kernel, rfl⟩
theorem rX11_fits_103 : tq_D cX11_fits 103 (.iload_n 2) 1 104 := ⟨by decide +kernel, rfl⟩
theorem rX11_fits_104 : tq_D cX11_fits 104 (.bipush 10) 2 106 := ⟨by decide +kernel, rfl⟩
theorem rX11_fits_106 : tq_D cX11_fits 106 (.isub) 1 107 := ⟨by decide +kernel, rfl⟩
theorem rX11_fits_107 : tq_D cX11_fits 107 (.invokevirtual 267) 3 110 := ⟨by decide +kernel, rfl⟩
theorem rX11_fits_110 : decode cX11_fits 110 = .ok (.ireturn, 1) := by decide +kernel
noncomputable def FX11_fits (I : tq_PI) (L : tq_PL) (a0 : Nat) (a1 : Int32) (a2 : Int32) : Option (Int32 × tq_PI × tq_PL) :=
  ((FX0_logAt I L ((tq_rg a0 0)) a1).bind fun p1 =>  (p1.elim (some ((-2 : Int32), I, L)) (fun t2 => ((FX2_gather I L ((tq_rg a0 7)) t2).bind fun p3 => (if a2 = 0 then ((FX2_fitCount I p3 ((tq_rg a0 7))).bind fun p5 => some (p5, I, p3)) else (if a2 = 1 then ((FX2_sureCell I p3 ((tq_rg a0 7))).bind fun p7 => some (p7, I, p3)) else (if a2 = 2 then ((FX2_sureStrength I p3 ((tq_rg a0 7))).bind fun p9 => some (p9, I, p3)) else (if a2 = 3 then ((FX2_bestAsked I p3 ((tq_rg a0 7))).bind fun p11 => some (p11.1, p11.2, p3)) else (if (10 : Int32) ≤ a2 then ((FX2_fitAt I p3 ((tq_rg a0 7)) ((a2 - (10 : Int32)))).bind fun p13 => some (p13, I, p3)) else some ((-2 : Int32), I, p3))))))))))
set_option maxRecDepth 100000 in
set_option maxHeartbeats 4000000 in
theorem CX11_fits {S : Nat × (Nat → Int32)} {d : Nat} {I : tq_PI} {L : tq_PL} {a0 : Nat} {a1 : Int32} {a2 : Int32} (h0 : tq_sh0 a0 = 11) {out : Int32 × tq_PI × tq_PL} (hf : FX11_fits I L a0 a1 a2 = some out) : tq_K S mX11_fits (d + 6) [.ref a0, .int a1, .int a2] I L (tq_one2 (some (.int out.1)) out.2.1 out.2.2) := by
  unfold FX11_fits at hf
  refine tq_K_of (by decide) (Nat.le_of_ble_eq_true rfl) (ls := [.ref a0, .int a1, .int a2, tq_u]) rfl ?_
  refine tq_aload_n rX11_fits_0 rfl ?_
  refine ty_getR rX11_fits_1 f_X11_10 rfl h0 (hp_11_0 h0).1 ?_
  refine tq_iload_n rX11_fits_4 rfl ?_
  obtain ⟨p1, e1, hf⟩ := Option.bind_eq_some_iff.mp hf
  refine ty_callVA p1 ([.int a1]) ([]) rX11_fits_5 l_X11_240 moX0_logAt mvX0_logAt (hp_11_0 h0).2.1 rfl rfl (Nat.le_of_ble_eq_true rfl) ⟨rfl, rfl⟩ (CX0_logAt (hp_11_0 h0).2.1 e1) ?_
  rcases tq_oelim hf with ⟨t2q, hf⟩ | ⟨t2, t2q, hf⟩
  · rw [t2q]
    refine tq_astoreN_n ([.ref a0, .int a1, .int a2, .null]) rX11_fits_8 (Nat.le_of_ble_eq_true rfl) rfl ?_
    refine tq_aloadN_n rX11_fits_9 rfl ?_
    refine tq_ifnonnullN rX11_fits_10 ?_
    refine tq_bipush (-2 : Int32) rX11_fits_13 (by decide) ?_
    refine ty_iret rX11_fits_15 rfl rfl ?_
    have hf := Option.some.inj hf
    subst hf
    exact ⟨rfl, rfl, rfl⟩
  · have t2h := RX0_logAt (hp_11_0 h0).2.1 e1 t2q
    rw [t2q]
    refine tq_astore_n ([.ref a0, .int a1, .int a2, .ref t2]) rX11_fits_8 (Nat.le_of_ble_eq_true rfl) rfl ?_
    refine tq_aload_n rX11_fits_9 rfl ?_
    refine tq_ifnonnullR rX11_fits_10 ?_
    refine tq_aload_n rX11_fits_16 rfl ?_
    refine ty_getR rX11_fits_17 f_X11_55 rfl h0 (hp_11_7 h0).1 ?_
    refine tq_aload_n rX11_fits_20 rfl ?_
    obtain ⟨p3, e3, hf⟩ := Option.bind_eq_some_iff.mp hf
    refine ty_callVV ([.ref t2]) ([]) rX11_fits_21 l_X11_251 moX2_gather mvX2_gather (hp_11_7 h0).2.1 rfl rfl (Nat.le_of_ble_eq_true rfl) ⟨rfl, rfl⟩ (CX2_gather (hp_11_7 h0).2.1 t2h e3) ?_
    refine tq_iload_n rX11_fits_24 rfl ?_
    by_cases c4 : a2 = 0
    · rw [if_pos c4] at hf
      refine tq_swIn (tgt := 56) 31 rX11_fits_25 (by rw [c4]; decide) (by rw [c4]; decide) (by rw [c4]; rfl) (by decide) ?_
      refine tq_aload_n rX11_fits_56 rfl ?_
      refine ty_getR rX11_fits_57 f_X11_55 rfl h0 (hp_11_7 h0).1 ?_
      obtain ⟨p5, e5, hf⟩ := Option.bind_eq_some_iff.mp hf
      refine ty_callVI p5 ([]) ([]) rX11_fits_60 l_X11_255 moX2_fitCount mvX2_fitCount (hp_11_7 h0).2.1 rfl rfl (Nat.le_of_ble_eq_true rfl) ⟨rfl, rfl⟩ (CX2_fitCount (hp_11_7 h0).2.1 e5) ?_
      refine ty_iret rX11_fits_63 rfl rfl ?_
      have hf := Option.some.inj hf
      subst hf
      exact ⟨rfl, rfl, rfl⟩
    · rw [if_neg c4] at hf
      by_cases c6 : a2 = 1
      · rw [if_pos c6] at hf
        refine tq_swIn (tgt := 64) 39 rX11_fits_25 (by rw [c6]; decide) (by rw [c6]; decide) (by rw [c6]; rfl) (by decide) ?_
        refine tq_aload_n rX11_fits_64 rfl ?_
        refine ty_getR rX11_fits_65 f_X11_55 rfl h0 (hp_11_7 h0).1 ?_
        obtain ⟨p7, e7, hf⟩ := Option.bind_eq_some_iff.mp hf
        refine ty_callVI p7 ([]) ([]) rX11_fits_68 l_X11_258 moX2_sureCell mvX2_sureCell (hp_11_7 h0).2.1 rfl rfl (Nat.le_of_ble_eq_true rfl) ⟨rfl, rfl⟩ (CX2_sureCell (hp_11_7 h0).2.1 e7) ?_
        refine ty_iret rX11_fits_71 rfl rfl ?_
        have hf := Option.some.inj hf
        subst hf
        exact ⟨rfl, rfl, rfl⟩
      · rw [if_neg c6] at hf
        by_cases c8 : a2 = 2
        · rw [if_pos c8] at hf
          refine tq_swIn (tgt := 72) 47 rX11_fits_25 (by rw [c8]; decide) (by rw [c8]; decide) (by rw [c8]; rfl) (by decide) ?_
          refine tq_aload_n rX11_fits_72 rfl ?_
          refine ty_getR rX11_fits_73 f_X11_55 rfl h0 (hp_11_7 h0).1 ?_
          obtain ⟨p9, e9, hf⟩ := Option.bind_eq_some_iff.mp hf
          refine ty_callVI p9 ([]) ([]) rX11_fits_76 l_X11_261 moX2_sureStrength mvX2_sureStrength (hp_11_7 h0).2.1 rfl rfl (Nat.le_of_ble_eq_true rfl) ⟨rfl, rfl⟩ (CX2_sureStrength (hp_11_7 h0).2.1 e9) ?_
          refine ty_iret rX11_fits_79 rfl rfl ?_
          have hf := Option.some.inj hf
          subst hf
          exact ⟨rfl, rfl, rfl⟩
        · rw [if_neg c8] at hf
          by_cases c10 : a2 = 3
          · rw [if_pos c10] at hf
            refine tq_swIn (tgt := 80) 55 rX11_fits_25 (by rw [c10]; decide) (by rw [c10]; decide) (by rw [c10]; rfl) (by decide) ?_
            refine tq_aload_n rX11_fits_80 rfl ?_
            refine ty_getR rX11_fits_81 f_X11_55 rfl h0 (hp_11_7 h0).1 ?_
            obtain ⟨p11, e11, hf⟩ := Option.bind_eq_some_iff.mp hf
            refine ty_callVI p11.1 ([]) ([]) rX11_fits_84 l_X11_264 moX2_bestAsked mvX2_bestAsked (hp_11_7 h0).2.1 rfl rfl (Nat.le_of_ble_eq_true rfl) ⟨rfl, rfl⟩ (CX2_bestAsked (hp_11_7 h0).2.1 e11) ?_
            refine ty_iret rX11_fits_87 rfl rfl ?_
            have hf := Option.some.inj hf
            subst hf
            exact ⟨rfl, rfl, rfl⟩
          · rw [if_neg c10] at hf
            have c4o := tq_ni (c := 0) c4 (by decide)
            have c6o := tq_ni (c := 1) c6 (by decide)
            have c8o := tq_ni (c := 2) c8 (by decide)
            have c10o := tq_ni (c := 3) c10 (by decide)
            refine tq_swOut (tgt := 88) rX11_fits_25 (by omega) (by decide) ?_
            refine tq_iload_n rX11_fits_88 rfl ?_
            refine tq_bipush (10 : Int32) rX11_fits_89 (by decide) ?_
            refine tq_icmp_ge rX11_fits_91 (fun c12 => ?_) (fun c12 => ?_)
            · rw [if_pos c12] at hf
              refine tq_aload_n rX11_fits_99 rfl ?_
              refine ty_getR rX11_fits_100 f_X11_55 rfl h0 (hp_11_7 h0).1 ?_
              refine tq_iload_n rX11_fits_103 rfl ?_
              refine tq_bipush (10 : Int32) rX11_fits_104 (by decide) ?_
              refine tq_isub rX11_fits_106 ?_
              obtain ⟨p13, e13, hf⟩ := Option.bind_eq_some_iff.mp hf
              refine ty_callVI p13 ([.int (a2 - (10 : Int32))]) ([]) rX11_fits_107 l_X11_267 moX2_fitAt mvX2_fitAt (hp_11_7 h0).2.1 rfl rfl (Nat.le_of_ble_eq_true rfl) ⟨rfl, rfl⟩ (CX2_fitAt (hp_11_7 h0).2.1 e13) ?_
              refine ty_iret rX11_fits_110 rfl rfl ?_
              have hf := Option.some.inj hf
              subst hf
              exact ⟨rfl, rfl, rfl⟩
            · rw [if_neg c12] at hf
              refine tq_bipush (-2 : Int32) rX11_fits_94 (by decide) ?_
              refine tq_goto rX11_fits_96 ?_
              refine ty_iret rX11_fits_110 rfl rfl ?_
              have hf := Option.some.inj hf
              subst hf
              exact ⟨rfl, rfl, rfl⟩

abbrev mX11_talk : tq_M := (yX11_talk, cX11_talk, 4, (Option.some Jvm.ClassFile.FieldType.int), 0, 0)
theorem moX0_talkAt : tq_mok mX0_talkAt 1 := ⟨tq_sg1 _ (List.mem_of_getElem? (i := 2) rfl), tq_sg5 _ (List.mem_of_getElem? (i := 97) rfl), ⟨by decide, by decide, by decide +kernel⟩, by decide⟩
theorem mvX0_talkAt : 0 < 13 ∧ (tq_cl 0).1 = mX0_talkAt.1.cls ∧ Cond.instanceMethod mX0_talkAt.1 ∈ lw_tbl ∧ Cond.selects mX0_talkAt.1.cls mX0_talkAt.1 mX0_talkAt.1 ∈ lw_tbl := ⟨by decide, rfl, tq_sg5 _ (List.mem_of_getElem? (i := 95) rfl), tq_sg5 _ (List.mem_of_getElem? (i := 96) rfl)⟩
theorem moX1_cheapest : tq_mok mX1_cheapest 1 := ⟨tq_sg1 _ (List.mem_of_getElem? (i := 12) rfl), tq_sg5 _ (List.mem_of_getElem? (i := 101) rfl), ⟨by decide, by decide, by decide +kernel⟩, by decide⟩
theorem mvX1_cheapest : 1 < 13 ∧ (tq_cl 1).1 = mX1_cheapest.1.cls ∧ Cond.instanceMethod mX1_cheapest.1 ∈ lw_tbl ∧ Cond.selects mX1_cheapest.1.cls mX1_cheapest.1 mX1_cheapest.1 ∈ lw_tbl := ⟨by decide, rfl, tq_sg5 _ (List.mem_of_getElem? (i := 99) rfl), tq_sg5 _ (List.mem_of_getElem? (i := 100) rfl)⟩
theorem f_X11_274 : tq_fok RX11 274 9 0 := ⟨by decide, by decide, Or.inr ⟨_, tq_sg1 _ (List.mem_of_getElem? (i := 132) rfl)⟩⟩
theorem f_X11_62 : tq_fok RX11 62 11 8 := ⟨by decide, by decide, Or.inl (tq_sg2 _ (List.mem_of_getElem? (i := 129) rfl))⟩
theorem l_X11_270 : tq_lok RX11 270 mX0_talkAt.1 := Or.inl (tq_sg5 _ (List.mem_of_getElem? (i := 94) rfl))
theorem l_X11_277 : tq_lok RX11 277 mX1_cheapest.1 := Or.inl (tq_sg5 _ (List.mem_of_getElem? (i := 98) rfl))
theorem l_X11_281 : tq_lok RX11 281 mX9_oftenAt.1 := Or.inl (tq_sg5 _ (List.mem_of_getElem? (i := 126) rfl))
theorem rX11_talk_0 : tq_D cX11_talk 0 (.aload_n 0) 1 1 := ⟨by decide +kernel, rfl⟩
theorem rX11_talk_1 : tq_D cX11_talk 1 (.getfield 10) 3 4 := ⟨by decide +kernel, rfl⟩
theorem rX11_talk_4 : tq_D cX11_talk 4 (.iload_n 1) 1 5 := ⟨by decide +kernel, rfl⟩
theorem rX11_talk_5 : tq_D cX11_talk 5 (.invokevirtual 270) 3 8 := ⟨by decide +kernel, rfl⟩
theorem rX11_talk_8 : tq_D cX11_talk 8 (.astore_n 3) 1 9 := ⟨by decide +kernel, rfl⟩
theorem rX11_talk_9 : tq_D cX11_talk 9 (.aload_n 3) 1 10 := ⟨by decide +kernel, rfl⟩
theorem rX11_talk_10 : tq_J cX11_talk 10 .ifnonnull 15 13 := ⟨5, by decide +kernel, by decide, rfl⟩
theorem rX11_talk_13 : tq_D cX11_talk 13 (.iconst (-1)) 1 14 := ⟨by decide +kernel, rfl⟩
theorem rX11_talk_14 : decode cX11_talk 14 = .ok (.ireturn, 1) := by decide +kernel
theorem rX11_talk_15 : tq_D cX11_talk 15 (.iload_n 2) 1 16 := ⟨by decide +kernel, rfl⟩
theorem rX11_talk_16 : tq_D cX11_talk 16 (.iconst (-1)) 1 17 := ⟨by decide +kernel, rfl⟩
theorem rX11_talk_17 : tq_J cX11_talk 17 (.if_icmp .ne) 25 20 := ⟨8, by decide +kernel, by decide, rfl⟩
theorem rX11_talk_20 : tq_D cX11_talk 20 (.aload_n 3) 1 21 := ⟨by decide +kernel, rfl⟩
theorem rX11_talk_21 : tq_D cX11_talk 21 (.getfield 274) 3 24 := ⟨by decide +kernel, rfl⟩
theorem rX11_talk_24 : decode cX11_talk 24 = .ok (.ireturn, 1) := by decide +kernel
theorem rX11_talk_25 : tq_D cX11_talk 25 (.iload_n 2) 1 26 := ⟨by decide +kernel, rfl⟩
theorem rX11_talk_26 : tq_D cX11_talk 26 (.bipush (-2)) 2 28 := ⟨by decide +kernel, rfl⟩
theorem rX11_talk_28 : tq_J cX11_talk 28 (.if_icmp .ne) 42 31 := ⟨14, by decide +kernel, by decide, rfl⟩
theorem rX11_talk_31 : tq_D cX11_talk 31 (.aload_n 0) 1 32 := ⟨by decide +kernel, rfl⟩
theorem rX11_talk_32 : tq_D cX11_talk 32 (.getfield 62) 3 35 := ⟨by decide +kernel, rfl⟩
theorem rX11_talk_35 : tq_D cX11_talk 35 (.aload_n 3) 1 36 := ⟨by decide +kernel, rfl⟩
theorem rX11_talk_36 : tq_D cX11_talk 36 (.invokevirtual 277) 3 39 := ⟨by decide +kernel, rfl⟩
theorem rX11_talk_39 : tq_J cX11_talk 39 .goto 47 42 := ⟨8, by decide +kernel, by decide, rfl⟩
theorem rX11_talk_42 : tq_D cX11_talk 42 (.aload_n 3) 1 43 := ⟨by decide +kernel, rfl⟩
theorem rX11_talk_43 : tq_D cX11_talk 43 (.iload_n 2) 1 44 := ⟨by decide +kernel, rfl⟩
theorem rX11_talk_44 : tq_D cX11_talk 44 (.invokevirtual 281) 3 47 := ⟨by decide +kernel, rfl⟩
theorem rX11_talk_47 : decode cX11_talk 47 = .ok (.ireturn, 1) := by decide +kernel
noncomputable def FX11_talk (I : tq_PI) (L : tq_PL) (a0 : Nat) (a1 : Int32) (a2 : Int32) : Option (Int32 × tq_PI) :=
  ((FX0_talkAt I L ((tq_rg a0 0)) a1).bind fun p1 =>  (p1.elim (some ((-1 : Int32), I)) (fun t2 => (if a2 = (-1 : Int32) then some ((I t2 0), I) else (if a2 = (-2 : Int32) then ((FX1_cheapest I L ((tq_rg a0 8)) t2).bind fun p6 => some (p6.1, p6.2)) else ((FX9_oftenAt I L t2 a2).bind fun p5 => some (p5, I)))))))
set_option maxRecDepth 100000 in
set_option maxHeartbeats 4000000 in
theorem CX11_talk {S : Nat × (Nat → Int32)} {d : Nat} {I : tq_PI} {L : tq_PL} {a0 : Nat} {a1 : Int32} {a2 : Int32} (h0 : tq_sh0 a0 = 11) {out : Int32 × tq_PI} (hf : FX11_talk I L a0 a1 a2 = some out) : tq_K S mX11_talk (d + 24) [.ref a0, .int a1, .int a2] I L (tq_one2 (some (.int out.1)) out.2 L) := by
  unfold FX11_talk at hf
  refine tq_K_of (by decide) (Nat.le_of_ble_eq_true rfl) (ls := [.ref a0, .int a1, .int a2, tq_u]) rfl ?_
  refine tq_aload_n rX11_talk_0 rfl ?_
  refine ty_getR rX11_talk_1 f_X11_10 rfl h0 (hp_11_0 h0).1 ?_
  refine tq_iload_n rX11_talk_4 rfl ?_
  obtain ⟨p1, e1, hf⟩ := Option.bind_eq_some_iff.mp hf
  refine ty_callVA p1 ([.int a1]) ([]) rX11_talk_5 l_X11_270 moX0_talkAt mvX0_talkAt (hp_11_0 h0).2.1 rfl rfl (Nat.le_of_ble_eq_true rfl) ⟨rfl, rfl⟩ (CX0_talkAt (hp_11_0 h0).2.1 e1) ?_
  rcases tq_oelim hf with ⟨t2q, hf⟩ | ⟨t2, t2q, hf⟩
  · rw [t2q]
    refine tq_astoreN_n ([.ref a0, .int a1, .int a2, .null]) rX11_talk_8 (Nat.le_of_ble_eq_true rfl) rfl ?_
    refine tq_aloadN_n rX11_talk_9 rfl ?_
    refine tq_ifnonnullN rX11_talk_10 ?_
    refine tq_iconst (-1 : Int32) rX11_talk_13 (by decide) ?_
    refine ty_iret rX11_talk_14 rfl rfl ?_
    have hf := Option.some.inj hf
    subst hf
    exact ⟨rfl, rfl, rfl⟩
  · have t2h := RX0_talkAt (hp_11_0 h0).2.1 e1 t2q
    rw [t2q]
    refine tq_astore_n ([.ref a0, .int a1, .int a2, .ref t2]) rX11_talk_8 (Nat.le_of_ble_eq_true rfl) rfl ?_
    refine tq_aload_n rX11_talk_9 rfl ?_
    refine tq_ifnonnullR rX11_talk_10 ?_
    refine tq_iload_n rX11_talk_15 rfl ?_
    refine tq_iconst (-1 : Int32) rX11_talk_16 (by decide) ?_
    refine tq_icmp_ne rX11_talk_17 (fun c3 => ?_) (fun c3 => ?_)
    · rw [if_neg c3] at hf
      refine tq_iload_n rX11_talk_25 rfl ?_
      refine tq_bipush (-2 : Int32) rX11_talk_26 (by decide) ?_
      refine tq_icmp_ne rX11_talk_28 (fun c4 => ?_) (fun c4 => ?_)
      · rw [if_neg c4] at hf
        refine tq_aload_n rX11_talk_42 rfl ?_
        refine tq_iload_n rX11_talk_43 rfl ?_
        obtain ⟨p5, e5, hf⟩ := Option.bind_eq_some_iff.mp hf
        refine ty_callVI p5 ([.int a2]) ([]) rX11_talk_44 l_X11_281 moX9_oftenAt mvX9_oftenAt t2h rfl rfl (Nat.le_of_ble_eq_true rfl) ⟨rfl, rfl⟩ (CX9_oftenAt t2h e5) ?_
        refine ty_iret rX11_talk_47 rfl rfl ?_
        have hf := Option.some.inj hf
        subst hf
        exact ⟨rfl, rfl, rfl⟩
      · rw [if_pos c4] at hf
        refine tq_aload_n rX11_talk_31 rfl ?_
        refine ty_getR rX11_talk_32 f_X11_62 rfl h0 (hp_11_8 h0).1 ?_
        refine tq_aload_n rX11_talk_35 rfl ?_
        obtain ⟨p6, e6, hf⟩ := Option.bind_eq_some_iff.mp hf
        refine ty_callVI p6.1 ([.ref t2]) ([]) rX11_talk_36 l_X11_277 moX1_cheapest mvX1_cheapest (hp_11_8 h0).2.1 rfl rfl (Nat.le_of_ble_eq_true rfl) ⟨rfl, rfl⟩ (CX1_cheapest (hp_11_8 h0).2.1 t2h e6) ?_
        refine tq_goto rX11_talk_39 ?_
        refine ty_iret rX11_talk_47 rfl rfl ?_
        have hf := Option.some.inj hf
        subst hf
        exact ⟨rfl, rfl, rfl⟩
    · rw [if_pos c3] at hf
      refine tq_aload_n rX11_talk_20 rfl ?_
      refine ty_getI rX11_talk_21 f_X11_274 rfl t2h ?_
      refine ty_iret rX11_talk_24 rfl rfl ?_
      have hf := Option.some.inj hf
      subst hf
      exact ⟨rfl, rfl, rfl⟩

abbrev mX11_drawn : tq_M := (yX11_drawn, cX11_drawn, 6, (Option.some Jvm.ClassFile.FieldType.int), 0, 0)
theorem moX8_draw : tq_mok mX8_draw 3 := ⟨tq_sg1 _ (List.mem_of_getElem? (i := 8) rfl), tq_sg5 _ (List.mem_of_getElem? (i := 134) rfl), ⟨by decide, by decide, by decide +kernel⟩, by decide⟩
theorem mvX8_draw : 8 < 13 ∧ (tq_cl 8).1 = mX8_draw.1.cls ∧ Cond.instanceMethod mX8_draw.1 ∈ lw_tbl ∧ Cond.selects mX8_draw.1.cls mX8_draw.1 mX8_draw.1 ∈ lw_tbl := ⟨by decide, rfl, tq_sg5 _ (List.mem_of_getElem? (i := 132) rfl), tq_sg5 _ (List.mem_of_getElem? (i := 133) rfl)⟩
theorem l_X11_284 : tq_lok RX11 284 mX8_draw.1 := Or.inl (tq_sg5 _ (List.mem_of_getElem? (i := 131) rfl))
theorem rX11_drawn_0 : tq_D cX11_drawn 0 (.aload_n 0) 1 1 := ⟨by decide +kernel, rfl⟩
theorem rX11_drawn_1 : tq_D cX11_drawn 1 (.getfield 10) 3 4 := ⟨by decide +kernel, rfl⟩
theorem rX11_drawn_4 : tq_D cX11_drawn 4 (.iload_n 1) 1 5 := ⟨by decide +kernel, rfl⟩
theorem rX11_drawn_5 : tq_D cX11_drawn 5 (.invokevirtual 102) 3 8 := ⟨by decide +kernel, rfl⟩
theorem rX11_drawn_8 : tq_D cX11_drawn 8 (.astore 5) 2 10 := ⟨by decide +kernel, rfl⟩
theorem rX11_drawn_10 : tq_D cX11_drawn 10 (.aload 5) 2 12 := ⟨by decide +kernel, rfl⟩
theorem rX11_drawn_12 : tq_J cX11_drawn 12 .ifnull 25 15 := ⟨13, by decide +kernel, by decide, rfl⟩
theorem rX11_drawn_15 : tq_D cX11_drawn 15 (.iload_n 3) 1 16 := ⟨by decide +kernel, rfl⟩
theorem rX11_drawn_16 : tq_J cX11_drawn 16 (.ifCond .lt) 25 19 := ⟨9, by decide +kernel, by decide, rfl⟩
theorem rX11_drawn_19 : tq_D cX11_drawn 19 (.iload_n 3) 1 20 := ⟨by decide +kernel, rfl⟩
theorem rX11_drawn_20 : tq_D cX11_drawn 20 (.bipush 60) 2 22 := ⟨by decide +kernel, rfl⟩
theorem rX11_drawn_22 : tq_J cX11_drawn 22 (.if_icmp .le) 28 25 := ⟨6, by decide +kernel, by decide, rfl⟩
theorem rX11_drawn_25 : tq_D cX11_drawn 25 (.bipush (-2)) 2 27 := ⟨by decide +kernel, rfl⟩
theorem rX11_drawn_27 : decode cX11_drawn 27 = .ok (.ireturn, 1) := by decide +kernel
theorem rX11_drawn_28 : tq_D cX11_drawn 28 (.aload_n 0) 1 29 := ⟨by decide +kernel, rfl⟩
theorem rX11_drawn_29 : tq_D cX11_drawn 29 (.getfield 34) 3 32 := ⟨by decide +kernel, rfl⟩
theorem rX11_drawn_32 : tq_D cX11_drawn 32 (.aload 5) 2 34 := ⟨by decide +kernel, rfl⟩
theorem rX11_drawn_34 : tq_D cX11_drawn 34 (.iload_n 2) 1 35 := ⟨by decide +kernel, rfl⟩
theorem rX11_drawn_35 : tq_D cX11_drawn 35 (.iload_n 3) 1 36 := ⟨by decide +kernel, rfl⟩
theorem rX11_drawn_36 : tq_D cX11_drawn 36 (.invokevirtual 284) 3 39 := ⟨by decide +kernel, rfl⟩
theorem rX11_drawn_39 : tq_D cX11_drawn 39 (.aload_n 0) 1 40 := ⟨by decide +kernel, rfl⟩
theorem rX11_drawn_40 : tq_D cX11_drawn 40 (.getfield 34) 3 43 := ⟨by decide +kernel, rfl⟩
theorem rX11_drawn_43 : tq_D cX11_drawn 43 (.iload 4) 2 45 := ⟨by decide +kernel, rfl⟩
theorem rX11_drawn_45 : tq_D cX11_drawn 45 (.invokevirtual 152) 3 48 := ⟨by decide +kernel, rfl⟩
theorem rX11_drawn_48 : decode cX11_drawn 48 = .ok (.ireturn, 1) := by decide +kernel
noncomputable def FX11_drawn_j25 (I : tq_PI) (L : tq_PL)  : Option (Int32 × tq_PI × tq_PL) :=
  some ((-2 : Int32), I, L)
noncomputable def FX11_drawn (I : tq_PI) (L : tq_PL) (a0 : Nat) (a1 : Int32) (a2 : Int32) (a3 : Int32) (a4 : Int32) : Option (Int32 × tq_PI × tq_PL) :=
  ((FX0_hillAt I L ((tq_rg a0 0)) a1).bind fun p1 =>  (p1.elim ((FX11_drawn_j25 I L )) (fun t2 => (if a3 < 0 then (FX11_drawn_j25 I L ) else (if a3 ≤ (60 : Int32) then ((FX8_draw I L ((tq_rg a0 4)) t2 a2 a3).bind fun p5 => ((FX8_answer p5.1 p5.2 ((tq_rg a0 4)) a4).bind fun p6 => some (p6, p5.1, p5.2))) else (FX11_drawn_j25 I L ))))))
set_option maxRecDepth 100000 in
set_option maxHeartbeats 4000000 in
theorem FX11_drawn_j25_x {S : Nat × (Nat → Int32)} {d : Nat} {I : tq_PI} {L : tq_PL}   {q0 : Option Value → tq_PI → tq_PL → Prop} {out : Int32 × tq_PI × tq_PL} (hf : FX11_drawn_j25 I L = some out) (hk : q0 (some (.int out.1)) out.2.1 out.2.2) : tq_X S mX11_drawn (d + 7) tq_k0 25 ([tq_u, tq_u, tq_u, tq_u, tq_u, tq_u]) ([]) (tq_st I L) (tq_Q q0) := by
  unfold FX11_drawn_j25 at hf
  refine tq_bipush (-2 : Int32) rX11_drawn_25 (by decide) ?_
  refine ty_iret rX11_drawn_27 rfl rfl ?_
  have hf := Option.some.inj hf
  subst hf
  exact hk

set_option maxRecDepth 100000 in
set_option maxHeartbeats 4000000 in
theorem CX11_drawn {S : Nat × (Nat → Int32)} {d : Nat} {I : tq_PI} {L : tq_PL} {a0 : Nat} {a1 : Int32} {a2 : Int32} {a3 : Int32} {a4 : Int32} (h0 : tq_sh0 a0 = 11) {out : Int32 × tq_PI × tq_PL} (hf : FX11_drawn I L a0 a1 a2 a3 a4 = some out) : tq_K S mX11_drawn (d + 7) [.ref a0, .int a1, .int a2, .int a3, .int a4] I L (tq_one2 (some (.int out.1)) out.2.1 out.2.2) := by
  unfold FX11_drawn at hf
  refine tq_K_of (by decide) (Nat.le_of_ble_eq_true rfl) (ls := [.ref a0, .int a1, .int a2, .int a3, .int a4, tq_u]) rfl ?_
  refine tq_aload_n rX11_drawn_0 rfl ?_
  refine ty_getR rX11_drawn_1 f_X11_10 rfl h0 (hp_11_0 h0).1 ?_
  refine tq_iload_n rX11_drawn_4 rfl ?_
  obtain ⟨p1, e1, hf⟩ := Option.bind_eq_some_iff.mp hf
  refine ty_callVA p1 ([.int a1]) ([]) rX11_drawn_5 l_X11_102 moX0_hillAt mvX0_hillAt (hp_11_0 h0).2.1 rfl rfl (Nat.le_of_ble_eq_true rfl) ⟨rfl, rfl⟩ (CX0_hillAt (hp_11_0 h0).2.1 e1) ?_
  rcases tq_oelim hf with ⟨t2q, hf⟩ | ⟨t2, t2q, hf⟩
  · rw [t2q]
    refine tq_astoreN ([.ref a0, .int a1, .int a2, .int a3, .int a4, .null]) rX11_drawn_8 (Nat.le_of_ble_eq_true rfl) rfl ?_
    refine tq_aloadN rX11_drawn_10 rfl ?_
    refine tq_ifnullN rX11_drawn_12 ?_
    exact tq_forget _ (tq_le_u (tq_le_u (tq_le_u (tq_le_u (tq_le_u (tq_le_u tq_le_n)))))) (FX11_drawn_j25_x   hf ⟨rfl, rfl, rfl⟩)
  · have t2h := RX0_hillAt (hp_11_0 h0).2.1 e1 t2q
    rw [t2q]
    refine tq_astore ([.ref a0, .int a1, .int a2, .int a3, .int a4, .ref t2]) rX11_drawn_8 (Nat.le_of_ble_eq_true rfl) rfl ?_
    refine tq_aload rX11_drawn_10 rfl ?_
    refine tq_ifnullR rX11_drawn_12 ?_
    refine tq_iload_n rX11_drawn_15 rfl ?_
    refine tq_if_lt rX11_drawn_16 (fun c3 => ?_) (fun c3 => ?_)
    · rw [if_pos c3] at hf
      exact tq_forget _ (tq_le_u (tq_le_u (tq_le_u (tq_le_u (tq_le_u (tq_le_u tq_le_n)))))) (FX11_drawn_j25_x   hf ⟨rfl, rfl, rfl⟩)
    · rw [if_neg c3] at hf
      refine tq_iload_n rX11_drawn_19 rfl ?_
      refine tq_bipush (60 : Int32) rX11_drawn_20 (by decide) ?_
      refine tq_icmp_le rX11_drawn_22 (fun c4 => ?_) (fun c4 => ?_)
      · rw [if_pos c4] at hf
        refine tq_aload_n rX11_drawn_28 rfl ?_
        refine ty_getR rX11_drawn_29 f_X11_34 rfl h0 (hp_11_4 h0).1 ?_
        refine tq_aload rX11_drawn_32 rfl ?_
        refine tq_iload_n rX11_drawn_34 rfl ?_
        refine tq_iload_n rX11_drawn_35 rfl ?_
        obtain ⟨p5, e5, hf⟩ := Option.bind_eq_some_iff.mp hf
        refine ty_callVV ([.ref t2, .int a2, .int a3]) ([]) rX11_drawn_36 l_X11_284 moX8_draw mvX8_draw (hp_11_4 h0).2.1 rfl rfl (Nat.le_of_ble_eq_true rfl) ⟨rfl, rfl⟩ (CX8_draw (hp_11_4 h0).2.1 t2h e5) ?_
        refine tq_aload_n rX11_drawn_39 rfl ?_
        refine ty_getR rX11_drawn_40 f_X11_34 rfl h0 (hp_11_4 h0).1 ?_
        refine tq_iload rX11_drawn_43 rfl ?_
        obtain ⟨p6, e6, hf⟩ := Option.bind_eq_some_iff.mp hf
        refine ty_callVI p6 ([.int a4]) ([]) rX11_drawn_45 l_X11_152 moX8_answer mvX8_answer (hp_11_4 h0).2.1 rfl rfl (Nat.le_of_ble_eq_true rfl) ⟨rfl, rfl⟩ (CX8_answer (hp_11_4 h0).2.1 e6) ?_
        refine ty_iret rX11_drawn_48 rfl rfl ?_
        have hf := Option.some.inj hf
        subst hf
        exact ⟨rfl, rfl, rfl⟩
      · rw [if_neg c4] at hf
        exact tq_forget _ (tq_le_u (tq_le_u (tq_le_u (tq_le_u (tq_le_u (tq_le_u tq_le_n)))))) (FX11_drawn_j25_x   hf ⟨rfl, rfl, rfl⟩)

abbrev mX11_path : tq_M := (yX11_path, cX11_path, 4, (Option.some Jvm.ClassFile.FieldType.int), 0, 0)
theorem moX3_shortestWay : tq_mok mX3_shortestWay 2 := ⟨tq_sg1 _ (List.mem_of_getElem? (i := 3) rfl), tq_sg5 _ (List.mem_of_getElem? (i := 153) rfl), ⟨by decide, by decide, by decide +kernel⟩, by decide⟩
theorem mvX3_shortestWay : 3 < 13 ∧ (tq_cl 3).1 = mX3_shortestWay.1.cls ∧ Cond.instanceMethod mX3_shortestWay.1 ∈ lw_tbl ∧ Cond.selects mX3_shortestWay.1.cls mX3_shortestWay.1 mX3_shortestWay.1 ∈ lw_tbl := ⟨by decide, rfl, tq_sg5 _ (List.mem_of_getElem? (i := 151) rfl), tq_sg5 _ (List.mem_of_getElem? (i := 152) rfl)⟩
theorem f_X11_66 : tq_fok RX11 66 11 9 := ⟨by decide, by decide, Or.inl (tq_sg2 _ (List.mem_of_getElem? (i := 130) rfl))⟩
theorem l_X11_287 : tq_lok RX11 287 mX3_shortestWay.1 := Or.inl (tq_sg5 _ (List.mem_of_getElem? (i := 150) rfl))
theorem rX11_path_0 : tq_D cX11_path 0 (.aload_n 0) 1 1 := ⟨by decide +kernel, rfl⟩
theorem rX11_path_1 : tq_D cX11_path 1 (.getfield 10) 3 4 := ⟨by decide +kernel, rfl⟩
theorem rX11_path_4 : tq_D cX11_path 4 (.iload_n 1) 1 5 := ⟨by decide +kernel, rfl⟩
theorem rX11_path_5 : tq_D cX11_path 5 (.invokevirtual 102) 3 8 := ⟨by decide +kernel, rfl⟩
theorem rX11_path_8 : tq_D cX11_path 8 (.astore_n 2) 1 9 := ⟨by decide +kernel, rfl⟩
theorem rX11_path_9 : tq_D cX11_path 9 (.aload_n 2) 1 10 := ⟨by decide +kernel, rfl⟩
theorem rX11_path_10 : tq_J cX11_path 10 .ifnonnull 15 13 := ⟨5, by decide +kernel, by decide, rfl⟩
theorem rX11_path_13 : tq_D cX11_path 13 (.iconst (-1)) 1 14 := ⟨by decide +kernel, rfl⟩
theorem rX11_path_14 : decode cX11_path 14 = .ok (.ireturn, 1) := by decide +kernel
theorem rX11_path_15 : tq_D cX11_path 15 (.aload_n 2) 1 16 := ⟨by decide +kernel, rfl⟩
theorem rX11_path_16 : tq_D cX11_path 16 (.aload_n 2) 1 17 := ⟨by decide +kernel, rfl⟩
theorem rX11_path_17 : tq_D cX11_path 17 (.invokevirtual 155) 3 20 := ⟨by decide +kernel, rfl⟩
theorem rX11_path_20 : tq_D cX11_path 20 (.invokevirtual 158) 3 23 := ⟨by decide +kernel, rfl⟩
theorem rX11_path_23 : tq_D cX11_path 23 (.istore_n 3) 1 24 := ⟨by decide +kernel, rfl⟩
theorem rX11_path_24 : tq_D cX11_path 24 (.iload_n 3) 1 25 := ⟨by decide +kernel, rfl⟩
theorem rX11_path_25 : tq_D cX11_path 25 (.iconst (-1)) 1 26 := ⟨by decide +kernel, rfl⟩
theorem rX11_path_26 : tq_J cX11_path 26 (.if_icmp .ne) 33 29 := ⟨7, by decide +kernel, by decide, rfl⟩
theorem rX11_path_29 : tq_D cX11_path 29 (.iconst (-1)) 1 30 := ⟨by decide +kernel, rfl⟩
theorem rX11_path_30 : tq_J cX11_path 30 .goto 42 33 := ⟨12, by decide +kernel, by decide, rfl⟩
theorem rX11_path_33 : tq_D cX11_path 33 (.aload_n 2) 1 34 := ⟨by decide +kernel, rfl⟩
theorem rX11_path_34 : tq_D cX11_path 34 (.iload_n 3) 1 35 := ⟨by decide +kernel, rfl⟩
theorem rX11_path_35 : tq_D cX11_path 35 (.aload_n 0) 1 36 := ⟨by decide +kernel, rfl⟩
theorem rX11_path_36 : tq_D cX11_path 36 (.getfield 66) 3 39 := ⟨by decide +kernel, rfl⟩
theorem rX11_path_39 : tq_D cX11_path 39 (.invokevirtual 287) 3 42 := ⟨by decide +kernel, rfl⟩
theorem rX11_path_42 : decode cX11_path 42 = .ok (.ireturn, 1) := by decide +kernel
noncomputable def FX11_path (I : tq_PI) (L : tq_PL) (a0 : Nat) (a1 : Int32) : Option (Int32 × tq_PL) :=
  ((FX0_hillAt I L ((tq_rg a0 0)) a1).bind fun p1 =>  (p1.elim (some ((-1 : Int32), L)) (fun t2 => (tq_let (FX3_solid I L t2) fun p3 => ((FX3_thickness I L t2 p3).bind fun p4 => (if p4 = (-1 : Int32) then some ((-1 : Int32), L) else ((FX3_shortestWay I L t2 p4 ((tq_rg a0 9))).bind fun p6 => some (p6.1, p6.2))))))))
set_option maxRecDepth 100000 in
set_option maxHeartbeats 4000000 in
theorem CX11_path {S : Nat × (Nat → Int32)} {d : Nat} {I : tq_PI} {L : tq_PL} {a0 : Nat} {a1 : Int32} (h0 : tq_sh0 a0 = 11) {out : Int32 × tq_PL} (hf : FX11_path I L a0 a1 = some out) : tq_K S mX11_path (d + 5) [.ref a0, .int a1] I L (tq_one2 (some (.int out.1)) I out.2) := by
  unfold FX11_path at hf
  refine tq_K_of (by decide) (Nat.le_of_ble_eq_true rfl) (ls := [.ref a0, .int a1, tq_u, tq_u]) rfl ?_
  refine tq_aload_n rX11_path_0 rfl ?_
  refine ty_getR rX11_path_1 f_X11_10 rfl h0 (hp_11_0 h0).1 ?_
  refine tq_iload_n rX11_path_4 rfl ?_
  obtain ⟨p1, e1, hf⟩ := Option.bind_eq_some_iff.mp hf
  refine ty_callVA p1 ([.int a1]) ([]) rX11_path_5 l_X11_102 moX0_hillAt mvX0_hillAt (hp_11_0 h0).2.1 rfl rfl (Nat.le_of_ble_eq_true rfl) ⟨rfl, rfl⟩ (CX0_hillAt (hp_11_0 h0).2.1 e1) ?_
  rcases tq_oelim hf with ⟨t2q, hf⟩ | ⟨t2, t2q, hf⟩
  · rw [t2q]
    refine tq_astoreN_n ([.ref a0, .int a1, .null, tq_u]) rX11_path_8 (Nat.le_of_ble_eq_true rfl) rfl ?_
    refine tq_aloadN_n rX11_path_9 rfl ?_
    refine tq_ifnonnullN rX11_path_10 ?_
    refine tq_iconst (-1 : Int32) rX11_path_13 (by decide) ?_
    refine ty_iret rX11_path_14 rfl rfl ?_
    have hf := Option.some.inj hf
    subst hf
    exact ⟨rfl, rfl, rfl⟩
  · have t2h := RX0_hillAt (hp_11_0 h0).2.1 e1 t2q
    rw [t2q]
    refine tq_astore_n ([.ref a0, .int a1, .ref t2, tq_u]) rX11_path_8 (Nat.le_of_ble_eq_true rfl) rfl ?_
    refine tq_aload_n rX11_path_9 rfl ?_
    refine tq_ifnonnullR rX11_path_10 ?_
    refine tq_aload_n rX11_path_15 rfl ?_
    refine tq_aload_n rX11_path_16 rfl ?_
    obtain ⟨p3, e3, hf⟩ := tq_let_elim hf
    refine ty_callVJ p3 ([]) ([.ref t2]) rX11_path_17 l_X11_155 moX3_solid mvX3_solid t2h rfl rfl (Nat.le_of_ble_eq_true rfl) ⟨rfl, rfl⟩ (CX3_solid t2h e3) ?_
    obtain ⟨p4, e4, hf⟩ := Option.bind_eq_some_iff.mp hf
    refine ty_callVI p4 ([.long p3]) ([]) rX11_path_20 l_X11_158 moX3_thickness mvX3_thickness t2h rfl rfl (Nat.le_of_ble_eq_true rfl) ⟨rfl, rfl⟩ (CX3_thickness t2h e4) ?_
    refine tq_istore_n ([.ref a0, .int a1, .ref t2, .int p4]) rX11_path_23 (Nat.le_of_ble_eq_true rfl) rfl ?_
    refine tq_iload_n rX11_path_24 rfl ?_
    refine tq_iconst (-1 : Int32) rX11_path_25 (by decide) ?_
    refine tq_icmp_ne rX11_path_26 (fun c5 => ?_) (fun c5 => ?_)
    · rw [if_neg c5] at hf
      refine tq_aload_n rX11_path_33 rfl ?_
      refine tq_iload_n rX11_path_34 rfl ?_
      refine tq_aload_n rX11_path_35 rfl ?_
      refine ty_getR rX11_path_36 f_X11_66 rfl h0 (hp_11_9 h0).1 ?_
      obtain ⟨p6, e6, hf⟩ := Option.bind_eq_some_iff.mp hf
      refine ty_callVI p6.1 ([.int p4, .ref (tq_rg a0 9)]) ([]) rX11_path_39 l_X11_287 moX3_shortestWay mvX3_shortestWay t2h rfl rfl (Nat.le_of_ble_eq_true rfl) ⟨rfl, rfl⟩ (CX3_shortestWay t2h (hp_11_9 h0).2.1 (hp_11_9 h0).2.2 e6) ?_
      refine ty_iret rX11_path_42 rfl rfl ?_
      have hf := Option.some.inj hf
      subst hf
      exact ⟨rfl, rfl, rfl⟩
    · rw [if_pos c5] at hf
      refine tq_iconst (-1 : Int32) rX11_path_29 (by decide) ?_
      refine tq_goto rX11_path_30 ?_
      refine ty_iret rX11_path_42 rfl rfl ?_
      have hf := Option.some.inj hf
      subst hf
      exact ⟨rfl, rfl, rfl⟩

abbrev mX11_longestRun : tq_M := (yX11_longestRun, cX11_longestRun, 6, (Option.some Jvm.ClassFile.FieldType.int), 0, 0)
theorem rX11_longestRun_0 : tq_D cX11_longestRun 0 (.lload_n 0) 1 1 := ⟨by decide +kernel, rfl⟩
theorem rX11_longestRun_1 : tq_D cX11_longestRun 1 (.lstore_n 2) 1 2 := ⟨by decide +kernel, rfl⟩
theorem rX11_longestRun_2 : tq_D cX11_longestRun 2 (.iconst 0) 1 3 := ⟨by decide +kernel, rfl⟩
theorem rX11_longestRun_3 : tq_D cX11_longestRun 3 (.istore 4) 2 5 := ⟨by decide +kernel, rfl⟩
theorem rX11_longestRun_5 : tq_D cX11_longestRun 5 (.iconst 0) 1 6 := ⟨by decide +kernel, rfl⟩
theorem rX11_longestRun_6 : tq_D cX11_longestRun 6 (.istore 5) 2 8 := ⟨by decide +kernel, rfl⟩
theorem rX11_longestRun_8 : tq_D cX11_longestRun 8 (.iload 5) 2 10 := ⟨by decide +kernel, rfl⟩
theorem rX11_longestRun_10 : tq_D cX11_longestRun 10 (.bipush 8) 2 12 := ⟨by decide +kernel, rfl⟩
theorem rX11_longestRun_12 : tq_J cX11_longestRun 12 (.if_icmp .ge) 37 15 := ⟨25, by decide +kernel, by decide, rfl⟩
theorem rX11_longestRun_15 : tq_D cX11_longestRun 15 (.lload_n 2) 1 16 := ⟨by decide +kernel, rfl⟩
theorem rX11_longestRun_16 : tq_D cX11_longestRun 16 (.lconst 0) 1 17 := ⟨by decide +kernel, rfl⟩
theorem rX11_longestRun_17 : tq_D cX11_longestRun 17 (.lcmp) 1 18 := ⟨by decide +kernel, rfl⟩
theorem rX11_longestRun_18 : tq_J cX11_longestRun 18 (.ifCond .eq) 37 21 := ⟨19, by decide +kernel, by decide, rfl⟩
theorem rX11_longestRun_21 : tq_D cX11_longestRun 21 (.iinc 4 1) 3 24 := ⟨by decide +kernel, rfl⟩
theorem rX11_longestRun_24 : tq_D cX11_longestRun 24 (.lload_n 2) 1 25 := ⟨by decide +kernel, rfl⟩
theorem rX11_longestRun_25 : tq_D cX11_longestRun 25 (.lload_n 2) 1 26 := ⟨by decide +kernel, rfl⟩
theorem rX11_longestRun_26 : tq_D cX11_longestRun 26 (.invokestatic 419) 3 29 := ⟨by decide +kernel, rfl⟩
theorem rX11_longestRun_29 : tq_D cX11_longestRun 29 (.land) 1 30 := ⟨by decide +kernel, rfl⟩
theorem rX11_longestRun_30 : tq_D cX11_longestRun 30 (.lstore_n 2) 1 31 := ⟨by decide +kernel, rfl⟩
theorem rX11_longestRun_31 : tq_D cX11_longestRun 31 (.iinc 5 1) 3 34 := ⟨by decide +kernel, rfl⟩
theorem rX11_longestRun_34 : tq_J cX11_longestRun 34 .goto 8 37 := ⟨(-26), by decide +kernel, by decide, rfl⟩
theorem rX11_longestRun_37 : tq_D cX11_longestRun 37 (.iload 4) 2 39 := ⟨by decide +kernel, rfl⟩
theorem rX11_longestRun_39 : decode cX11_longestRun 39 = .ok (.ireturn, 1) := by decide +kernel
noncomputable def FX11_longestRun_s8 (I : tq_PI) (L : tq_PL) (a2 : Int64) (a4 : Int32) (a5 : Int32) : Option ((Int64 × Int32 × Int32) ⊕ (Int32)) :=
  (if (8 : Int32) ≤ a5 then some (.inr a4) else (if (lg_cmp a2 (0 : Int64)) = 0 then some (.inr a4) else (tq_let (FX11_rightOf I L a2) fun p3 => some (.inl ((a2 &&& p3), (a4 + 1), (a5 + 1))))))
noncomputable def FX11_longestRun (I : tq_PI) (L : tq_PL) (a0 : Int64) : Option (Int32) :=
  ((tq_it (fun p : Int64 × Int32 × Int32 => FX11_longestRun_s8 I L  p.1 p.2.1 p.2.2) tq_N (a0, (0 : Int32), (0 : Int32))).bind fun p4 => some p4)
set_option maxRecDepth 100000 in
set_option maxHeartbeats 4000000 in
theorem FX11_longestRun_s8_x {S : Nat × (Nat → Int32)} {d : Nat} {I : tq_PI} {L : tq_PL} {a2 : Int64} {a4 : Int32} {a5 : Int32}  {q0 : Option Value → tq_PI → tq_PL → Prop} {out : (Int64 × Int32 × Int32) ⊕ (Int32)} (hf : FX11_longestRun_s8 I L a2 a4 a5 = some out) (hk : Sum.elim (fun p : Int64 × Int32 × Int32 => tq_X S mX11_longestRun (d + 1) tq_k0 8 ([tq_u, tq_u, .long p.1, tq_u, .int p.2.1, .int p.2.2]) [] (tq_st I L) (tq_Q q0)) (fun p : Int32 => tq_X S mX11_longestRun (d + 1) tq_k0 37 ([tq_u, tq_u, tq_u, tq_u, .int p, tq_u]) [] (tq_st I L) (tq_Q q0)) out) : tq_X S mX11_longestRun (d + 1) tq_k0 8 ([tq_u, tq_u, .long a2, tq_u, .int a4, .int a5]) [] (tq_st I L) (tq_Q q0) := by
  unfold FX11_longestRun_s8 at hf
  refine tq_iload rX11_longestRun_8 rfl ?_
  refine tq_bipush (8 : Int32) rX11_longestRun_10 (by decide) ?_
  refine tq_icmp_ge rX11_longestRun_12 (fun c1 => ?_) (fun c1 => ?_)
  · rw [if_pos c1] at hf
    have hf := Option.some.inj hf
    subst hf
    exact tq_forget _ (tq_le_u (tq_le_u (tq_le_u (tq_le_u (tq_le_s (tq_le_u tq_le_n)))))) hk
  · rw [if_neg c1] at hf
    refine tq_lload_n rX11_longestRun_15 rfl ?_
    refine tq_lconst (0 : Int64) rX11_longestRun_16 (by decide) ?_
    refine tq_lcmp rX11_longestRun_17 ?_
    refine tq_if_eq rX11_longestRun_18 (fun c2 => ?_) (fun c2 => ?_)
    · rw [if_pos c2] at hf
      have hf := Option.some.inj hf
      subst hf
      exact tq_forget _ (tq_le_u (tq_le_u (tq_le_u (tq_le_u (tq_le_s (tq_le_u tq_le_n)))))) hk
    · rw [if_neg c2] at hf
      refine tq_iinc (a4 + 1) ([tq_u, tq_u, .long a2, tq_u, .int (a4 + 1), .int a5]) rX11_longestRun_21 rfl (tq_inc (by decide)) (Nat.le_of_ble_eq_true rfl) rfl ?_
      refine tq_lload_n rX11_longestRun_24 rfl ?_
      refine tq_lload_n rX11_longestRun_25 rfl ?_
      obtain ⟨p3, e3, hf⟩ := tq_let_elim hf
      refine ty_callSJ p3 ([.long a2]) ([.long a2]) rX11_longestRun_26 l_X11_419 moX11_rightOf msX11_rightOf rfl rfl (Nat.le_of_ble_eq_true rfl) ⟨rfl, rfl⟩ (CX11_rightOf  e3) ?_
      refine tq_land rX11_longestRun_29 ?_
      refine tq_lstore_n ([tq_u, tq_u, .long (a2 &&& p3), tq_u, .int (a4 + 1), .int a5]) rX11_longestRun_30 (Nat.le_of_ble_eq_true rfl) rfl ?_
      refine tq_iinc (a5 + 1) ([tq_u, tq_u, .long (a2 &&& p3), tq_u, .int (a4 + 1), .int (a5 + 1)]) rX11_longestRun_31 rfl (tq_inc (by decide)) (Nat.le_of_ble_eq_true rfl) rfl ?_
      refine tq_goto rX11_longestRun_34 ?_
      have hf := Option.some.inj hf
      subst hf
      exact tq_forget _ (tq_le_u (tq_le_u (tq_le_s (tq_le_u (tq_le_s (tq_le_s tq_le_n)))))) hk

set_option maxRecDepth 100000 in
set_option maxHeartbeats 4000000 in
theorem CX11_longestRun {S : Nat × (Nat → Int32)} {d : Nat} {I : tq_PI} {L : tq_PL} {a0 : Int64}  {out : Int32} (hf : FX11_longestRun I L a0 = some out) : tq_K S mX11_longestRun (d + 1) [.long a0] I L (tq_one2 (some (.int out)) I L) := by
  unfold FX11_longestRun at hf
  refine tq_K_of (by decide) (Nat.le_of_ble_eq_true rfl) (ls := [.long a0, tq_u, tq_u, tq_u, tq_u, tq_u]) rfl ?_
  refine tq_lload_n rX11_longestRun_0 rfl ?_
  refine tq_lstore_n ([.long a0, tq_u, .long a0, tq_u, tq_u, tq_u]) rX11_longestRun_1 (Nat.le_of_ble_eq_true rfl) rfl ?_
  refine tq_iconst (0 : Int32) rX11_longestRun_2 (by decide) ?_
  refine tq_istore ([.long a0, tq_u, .long a0, tq_u, .int (0 : Int32), tq_u]) rX11_longestRun_3 (Nat.le_of_ble_eq_true rfl) rfl ?_
  refine tq_iconst (0 : Int32) rX11_longestRun_5 (by decide) ?_
  refine tq_istore ([.long a0, tq_u, .long a0, tq_u, .int (0 : Int32), .int (0 : Int32)]) rX11_longestRun_6 (Nat.le_of_ble_eq_true rfl) rfl ?_
  obtain ⟨p4, e4, hf⟩ := Option.bind_eq_some_iff.mp hf
  refine tq_forget _ (tq_le_u (tq_le_u (tq_le_s (tq_le_u (tq_le_s (tq_le_s tq_le_n)))))) ?_
  refine tq_it_elim (P := fun p : Int64 × Int32 × Int32 => tq_X S mX11_longestRun (d + 1) tq_k0 8 ([tq_u, tq_u, .long p.1, tq_u, .int p.2.1, .int p.2.2]) [] (tq_st I L) (tq_Q (tq_one2 (some (.int out)) I L))) (R := fun p : Int32 => tq_X S mX11_longestRun (d + 1) tq_k0 37 ([tq_u, tq_u, tq_u, tq_u, .int p, tq_u]) [] (tq_st I L) (tq_Q (tq_one2 (some (.int out)) I L))) (fun p o hp hk => FX11_longestRun_s8_x   hp hk) _ ((a0, (0 : Int32), (0 : Int32))) _ e4 ?_
  show tq_X _ _ _ _ _ _ _ _ _
  refine tq_iload rX11_longestRun_37 rfl ?_
  refine ty_iret rX11_longestRun_39 rfl rfl ?_
  have hf := Option.some.inj hf
  subst hf
  exact ⟨rfl, rfl, rfl⟩

abbrev mX11_caves : tq_M := (yX11_caves, cX11_caves, 4, (Option.some Jvm.ClassFile.FieldType.int), 0, 0)
theorem moX3_caveCount : tq_mok mX3_caveCount 0 := ⟨tq_sg1 _ (List.mem_of_getElem? (i := 3) rfl), tq_sg5 _ (List.mem_of_getElem? (i := 162) rfl), ⟨by decide, by decide, by decide +kernel⟩, by decide⟩
theorem mvX3_caveCount : 3 < 13 ∧ (tq_cl 3).1 = mX3_caveCount.1.cls ∧ Cond.instanceMethod mX3_caveCount.1 ∈ lw_tbl ∧ Cond.selects mX3_caveCount.1.cls mX3_caveCount.1 mX3_caveCount.1 ∈ lw_tbl := ⟨by decide, rfl, tq_sg5 _ (List.mem_of_getElem? (i := 160) rfl), tq_sg5 _ (List.mem_of_getElem? (i := 161) rfl)⟩
theorem moX3_isMirrored : tq_mok mX3_isMirrored 0 := ⟨tq_sg1 _ (List.mem_of_getElem? (i := 3) rfl), tq_sg5 _ (List.mem_of_getElem? (i := 175) rfl), ⟨by decide, by decide, by decide +kernel⟩, by decide⟩
theorem mvX3_isMirrored : 3 < 13 ∧ (tq_cl 3).1 = mX3_isMirrored.1.cls ∧ Cond.instanceMethod mX3_isMirrored.1 ∈ lw_tbl ∧ Cond.selects mX3_isMirrored.1.cls mX3_isMirrored.1 mX3_isMirrored.1 ∈ lw_tbl := ⟨by decide, rfl, tq_sg5 _ (List.mem_of_getElem? (i := 173) rfl), tq_sg5 _ (List.mem_of_getElem? (i := 174) rfl)⟩
theorem moX3_largestCave : tq_mok mX3_largestCave 0 := ⟨tq_sg1 _ (List.mem_of_getElem? (i := 3) rfl), tq_sg5 _ (List.mem_of_getElem? (i := 166) rfl), ⟨by decide, by decide, by decide +kernel⟩, by decide⟩
theorem mvX3_largestCave : 3 < 13 ∧ (tq_cl 3).1 = mX3_largestCave.1.cls ∧ Cond.instanceMethod mX3_largestCave.1 ∈ lw_tbl ∧ Cond.selects mX3_largestCave.1.cls mX3_largestCave.1 mX3_largestCave.1 ∈ lw_tbl := ⟨by decide, rfl, tq_sg5 _ (List.mem_of_getElem? (i := 164) rfl), tq_sg5 _ (List.mem_of_getElem? (i := 165) rfl)⟩
theorem moX11_longestRun : tq_mok mX11_longestRun 1 := ⟨tq_sg1 _ (List.mem_of_getElem? (i := 1) rfl), tq_sg5 _ (List.mem_of_getElem? (i := 171) rfl), ⟨by decide, by decide, by decide +kernel⟩, by decide⟩
theorem msX11_longestRun : Cond.static mX11_longestRun.1 ∈ lw_tbl := tq_sg5 _ (List.mem_of_getElem? (i := 170) rfl)
theorem l_X11_291 : tq_lok RX11 291 mX3_caveCount.1 := Or.inl (tq_sg5 _ (List.mem_of_getElem? (i := 159) rfl))
theorem l_X11_294 : tq_lok RX11 294 mX3_largestCave.1 := Or.inl (tq_sg5 _ (List.mem_of_getElem? (i := 163) rfl))
theorem l_X11_297 : tq_lok RX11 297 mX3_air.1 := Or.inl (tq_sg5 _ (List.mem_of_getElem? (i := 168) rfl))
theorem l_X11_300 : tq_lok RX11 300 mX11_longestRun.1 := Or.inl (tq_sg5 _ (List.mem_of_getElem? (i := 169) rfl))
theorem l_X11_303 : tq_lok RX11 303 mX3_isMirrored.1 := Or.inl (tq_sg5 _ (List.mem_of_getElem? (i := 172) rfl))
theorem rX11_caves_0 : tq_D cX11_caves 0 (.aload_n 0) 1 1 := ⟨by decide +kernel, rfl⟩
theorem rX11_caves_1 : tq_D cX11_caves 1 (.getfield 10) 3 4 := ⟨by decide +kernel, rfl⟩
theorem rX11_caves_4 : tq_D cX11_caves 4 (.iload_n 1) 1 5 := ⟨by decide +kernel, rfl⟩
theorem rX11_caves_5 : tq_D cX11_caves 5 (.invokevirtual 102) 3 8 := ⟨by decide +kernel, rfl⟩
theorem rX11_caves_8 : tq_D cX11_caves 8 (.astore_n 3) 1 9 := ⟨by decide +kernel, rfl⟩
theorem rX11_caves_9 : tq_D cX11_caves 9 (.aload_n 3) 1 10 := ⟨by decide +kernel, rfl⟩
theorem rX11_caves_10 : tq_J cX11_caves 10 .ifnonnull 15 13 := ⟨5, by decide +kernel, by decide, rfl⟩
theorem rX11_caves_13 : tq_D cX11_caves 13 (.iconst (-1)) 1 14 := ⟨by decide +kernel, rfl⟩
theorem rX11_caves_14 : decode cX11_caves 14 = .ok (.ireturn, 1) := by decide +kernel
theorem rX11_caves_15 : tq_D cX11_caves 15 (.iload_n 2) 1 16 := ⟨by decide +kernel, rfl⟩
theorem rX11_caves_16 : decode cX11_caves 16 = .ok (.tableswitch 63 0 3 #[32, 37, 42, 50], 32) := by decide +kernel
theorem rX11_caves_48 : tq_D cX11_caves 48 (.aload_n 3) 1 49 := ⟨by decide +kernel, rfl⟩
theorem rX11_caves_49 : tq_D cX11_caves 49 (.invokevirtual 291) 3 52 := ⟨by decide +kernel, rfl⟩
theorem rX11_caves_52 : decode cX11_caves 52 = .ok (.ireturn, 1) := by decide +kernel
theorem rX11_caves_53 : tq_D cX11_caves 53 (.aload_n 3) 1 54 := ⟨by decide +kernel, rfl⟩
theorem rX11_caves_54 : tq_D cX11_caves 54 (.invokevirtual 294) 3 57 := ⟨by decide +kernel, rfl⟩
theorem rX11_caves_57 : decode cX11_caves 57 = .ok (.ireturn, 1) := by decide +kernel
theorem rX11_caves_58 : tq_D cX11_caves 58 (.aload_n 3) 1 59 := ⟨by decide +kernel, rfl⟩
theorem rX11_caves_59 : tq_D cX11_caves 59 (.invokevirtual 297) 3 62 := ⟨by decide +kernel, rfl⟩
theorem rX11_caves_62 : tq_D cX11_caves 62 (.invokestatic 300) 3 65 := ⟨by decide +kernel, rfl⟩
theorem rX11_caves_65 : decode cX11_caves 65 = .ok (.ireturn, 1) := by decide +kernel
theorem rX11_caves_66 : tq_D cX11_caves 66 (.aload_n 3) 1 67 := ⟨by decide +kernel, rfl⟩
theorem rX11_caves_67 : tq_D cX11_caves 67 (.invokevirtual 303) 3 70 := ⟨by decide +kernel, rfl⟩
theorem rX11_caves_70 : tq_J cX11_caves 70 (.ifCond .eq) 77 73 := ⟨7, by decide +kernel, by decide, rfl⟩
theorem rX11_caves_73 : tq_D cX11_caves 73 (.iconst 1) 1 74 := ⟨by decide +kernel, rfl⟩
theorem rX11_caves_74 : tq_J cX11_caves 74 .goto 78 77 := ⟨4, by decide +kernel, by decide, rfl⟩
theorem rX11_caves_77 : tq_D cX11_caves 77 (.iconst 0) 1 78 := ⟨by decide +kernel, rfl⟩
theorem rX11_caves_78 : decode cX11_caves 78 = .ok (.ireturn, 1) := by decide +kernel
theorem rX11_caves_79 : tq_D cX11_caves 79 (.iconst (-1)) 1 80 := ⟨by decide +kernel, rfl⟩
theorem rX11_caves_80 : decode cX11_caves 80 = .ok (.ireturn, 1) := by decide +kernel
noncomputable def FX11_caves (I : tq_PI) (L : tq_PL) (a0 : Nat) (a1 : Int32) (a2 : Int32) : Option (Int32) :=
  ((FX0_hillAt I L ((tq_rg a0 0)) a1).bind fun p1 =>  (p1.elim (some (-1 : Int32)) (fun t2 => (if a2 = 0 then ((FX3_caveCount I L t2).bind fun p4 => some p4) else (if a2 = 1 then ((FX3_largestCave I L t2).bind fun p6 => some p6) else (if a2 = 2 then (tq_let (FX3_air I L t2) fun p8 => ((FX11_longestRun I L p8).bind fun p9 => some p9)) else (if a2 = 3 then ((FX3_isMirrored I L t2).bind fun p11 => (if (tq_b p11) = 0 then some (0 : Int32) else some (1 : Int32))) else some (-1 : Int32))))))))
set_option maxRecDepth 100000 in
set_option maxHeartbeats 4000000 in
theorem CX11_caves {S : Nat × (Nat → Int32)} {d : Nat} {I : tq_PI} {L : tq_PL} {a0 : Nat} {a1 : Int32} {a2 : Int32} (h0 : tq_sh0 a0 = 11) {out : Int32} (hf : FX11_caves I L a0 a1 a2 = some out) : tq_K S mX11_caves (d + 4) [.ref a0, .int a1, .int a2] I L (tq_one2 (some (.int out)) I L) := by
  unfold FX11_caves at hf
  refine tq_K_of (by decide) (Nat.le_of_ble_eq_true rfl) (ls := [.ref a0, .int a1, .int a2, tq_u]) rfl ?_
  refine tq_aload_n rX11_caves_0 rfl ?_
  refine ty_getR rX11_caves_1 f_X11_10 rfl h0 (hp_11_0 h0).1 ?_
  refine tq_iload_n rX11_caves_4 rfl ?_
  obtain ⟨p1, e1, hf⟩ := Option.bind_eq_some_iff.mp hf
  refine ty_callVA p1 ([.int a1]) ([]) rX11_caves_5 l_X11_102 moX0_hillAt mvX0_hillAt (hp_11_0 h0).2.1 rfl rfl (Nat.le_of_ble_eq_true rfl) ⟨rfl, rfl⟩ (CX0_hillAt (hp_11_0 h0).2.1 e1) ?_
  rcases tq_oelim hf with ⟨t2q, hf⟩ | ⟨t2, t2q, hf⟩
  · rw [t2q]
    refine tq_astoreN_n ([.ref a0, .int a1, .int a2, .null]) rX11_caves_8 (Nat.le_of_ble_eq_true rfl) rfl ?_
    refine tq_aloadN_n rX11_caves_9 rfl ?_
    refine tq_ifnonnullN rX11_caves_10 ?_
    refine tq_iconst (-1 : Int32) rX11_caves_13 (by decide) ?_
    refine ty_iret rX11_caves_14 rfl rfl ?_
    have hf := Option.some.inj hf
    subst hf
    exact ⟨rfl, rfl, rfl⟩
  · have t2h := RX0_hillAt (hp_11_0 h0).2.1 e1 t2q
    rw [t2q]
    refine tq_astore_n ([.ref a0, .int a1, .int a2, .ref t2]) rX11_caves_8 (Nat.le_of_ble_eq_true rfl) rfl ?_
    refine tq_aload_n rX11_caves_9 rfl ?_
    refine tq_ifnonnullR rX11_caves_10 ?_
    refine tq_iload_n rX11_caves_15 rfl ?_
    by_cases c3 : a2 = 0
    · rw [if_pos c3] at hf
      refine tq_swIn (tgt := 48) 32 rX11_caves_16 (by rw [c3]; decide) (by rw [c3]; decide) (by rw [c3]; rfl) (by decide) ?_
      refine tq_aload_n rX11_caves_48 rfl ?_
      obtain ⟨p4, e4, hf⟩ := Option.bind_eq_some_iff.mp hf
      refine ty_callVI p4 ([]) ([]) rX11_caves_49 l_X11_291 moX3_caveCount mvX3_caveCount t2h rfl rfl (Nat.le_of_ble_eq_true rfl) ⟨rfl, rfl⟩ (CX3_caveCount t2h e4) ?_
      refine ty_iret rX11_caves_52 rfl rfl ?_
      have hf := Option.some.inj hf
      subst hf
      exact ⟨rfl, rfl, rfl⟩
    · rw [if_neg c3] at hf
      by_cases c5 : a2 = 1
      · rw [if_pos c5] at hf
        refine tq_swIn (tgt := 53) 37 rX11_caves_16 (by rw [c5]; decide) (by rw [c5]; decide) (by rw [c5]; rfl) (by decide) ?_
        refine tq_aload_n rX11_caves_53 rfl ?_
        obtain ⟨p6, e6, hf⟩ := Option.bind_eq_some_iff.mp hf
        refine ty_callVI p6 ([]) ([]) rX11_caves_54 l_X11_294 moX3_largestCave mvX3_largestCave t2h rfl rfl (Nat.le_of_ble_eq_true rfl) ⟨rfl, rfl⟩ (CX3_largestCave t2h e6) ?_
        refine ty_iret rX11_caves_57 rfl rfl ?_
        have hf := Option.some.inj hf
        subst hf
        exact ⟨rfl, rfl, rfl⟩
      · rw [if_neg c5] at hf
        by_cases c7 : a2 = 2
        · rw [if_pos c7] at hf
          refine tq_swIn (tgt := 58) 42 rX11_caves_16 (by rw [c7]; decide) (by rw [c7]; decide) (by rw [c7]; rfl) (by decide) ?_
          refine tq_aload_n rX11_caves_58 rfl ?_
          obtain ⟨p8, e8, hf⟩ := tq_let_elim hf
          refine ty_callVJ p8 ([]) ([]) rX11_caves_59 l_X11_297 moX3_air mvX3_air t2h rfl rfl (Nat.le_of_ble_eq_true rfl) ⟨rfl, rfl⟩ (CX3_air t2h e8) ?_
          obtain ⟨p9, e9, hf⟩ := Option.bind_eq_some_iff.mp hf
          refine ty_callSI p9 ([.long p8]) ([]) rX11_caves_62 l_X11_300 moX11_longestRun msX11_longestRun rfl rfl (Nat.le_of_ble_eq_true rfl) ⟨rfl, rfl⟩ (CX11_longestRun  e9) ?_
          refine ty_iret rX11_caves_65 rfl rfl ?_
          have hf := Option.some.inj hf
          subst hf
          exact ⟨rfl, rfl, rfl⟩
        · rw [if_neg c7] at hf
          by_cases c10 : a2 = 3
          · rw [if_pos c10] at hf
            refine tq_swIn (tgt := 66) 50 rX11_caves_16 (by rw [c10]; decide) (by rw [c10]; decide) (by rw [c10]; rfl) (by decide) ?_
            refine tq_aload_n rX11_caves_66 rfl ?_
            obtain ⟨p11, e11, hf⟩ := Option.bind_eq_some_iff.mp hf
            refine ty_callVI (tq_b p11) ([]) ([]) rX11_caves_67 l_X11_303 moX3_isMirrored mvX3_isMirrored t2h rfl rfl (Nat.le_of_ble_eq_true rfl) ⟨rfl, rfl⟩ (CX3_isMirrored t2h e11) ?_
            refine tq_if_eq rX11_caves_70 (fun c12 => ?_) (fun c12 => ?_)
            · rw [if_pos c12] at hf
              refine tq_iconst (0 : Int32) rX11_caves_77 (by decide) ?_
              refine ty_iret rX11_caves_78 rfl rfl ?_
              have hf := Option.some.inj hf
              subst hf
              exact ⟨rfl, rfl, rfl⟩
            · rw [if_neg c12] at hf
              refine tq_iconst (1 : Int32) rX11_caves_73 (by decide) ?_
              refine tq_goto rX11_caves_74 ?_
              refine ty_iret rX11_caves_78 rfl rfl ?_
              have hf := Option.some.inj hf
              subst hf
              exact ⟨rfl, rfl, rfl⟩
          · rw [if_neg c10] at hf
            have c3o := tq_ni (c := 0) c3 (by decide)
            have c5o := tq_ni (c := 1) c5 (by decide)
            have c7o := tq_ni (c := 2) c7 (by decide)
            have c10o := tq_ni (c := 3) c10 (by decide)
            refine tq_swOut (tgt := 79) rX11_caves_16 (by omega) (by decide) ?_
            refine tq_iconst (-1 : Int32) rX11_caves_79 (by decide) ?_
            refine ty_iret rX11_caves_80 rfl rfl ?_
            have hf := Option.some.inj hf
            subst hf
            exact ⟨rfl, rfl, rfl⟩

abbrev mX11_pillars : tq_M := (yX11_pillars, cX11_pillars, 4, (Option.some Jvm.ClassFile.FieldType.int), 0, 0)
theorem moX3_bearing : tq_mok mX3_bearing 1 := ⟨tq_sg1 _ (List.mem_of_getElem? (i := 3) rfl), tq_sg5 _ (List.mem_of_getElem? (i := 183) rfl), ⟨by decide, by decide, by decide +kernel⟩, by decide⟩
theorem mvX3_bearing : 3 < 13 ∧ (tq_cl 3).1 = mX3_bearing.1.cls ∧ Cond.instanceMethod mX3_bearing.1 ∈ lw_tbl ∧ Cond.selects mX3_bearing.1.cls mX3_bearing.1 mX3_bearing.1 ∈ lw_tbl := ⟨by decide, rfl, tq_sg5 _ (List.mem_of_getElem? (i := 181) rfl), tq_sg5 _ (List.mem_of_getElem? (i := 182) rfl)⟩
theorem l_X11_307 : tq_lok RX11 307 mX3_bearing.1 := Or.inl (tq_sg5 _ (List.mem_of_getElem? (i := 180) rfl))
theorem rX11_pillars_0 : tq_D cX11_pillars 0 (.aload_n 0) 1 1 := ⟨by decide +kernel, rfl⟩
theorem rX11_pillars_1 : tq_D cX11_pillars 1 (.getfield 10) 3 4 := ⟨by decide +kernel, rfl⟩
theorem rX11_pillars_4 : tq_D cX11_pillars 4 (.iload_n 1) 1 5 := ⟨by decide +kernel, rfl⟩
theorem rX11_pillars_5 : tq_D cX11_pillars 5 (.invokevirtual 102) 3 8 := ⟨by decide +kernel, rfl⟩
theorem rX11_pillars_8 : tq_D cX11_pillars 8 (.astore_n 3) 1 9 := ⟨by decide +kernel, rfl⟩
theorem rX11_pillars_9 : tq_D cX11_pillars 9 (.aload_n 3) 1 10 := ⟨by decide +kernel, rfl⟩
theorem rX11_pillars_10 : tq_J cX11_pillars 10 .ifnull 23 13 := ⟨13, by decide +kernel, by decide, rfl⟩
theorem rX11_pillars_13 : tq_D cX11_pillars 13 (.iload_n 2) 1 14 := ⟨by decide +kernel, rfl⟩
theorem rX11_pillars_14 : tq_J cX11_pillars 14 (.ifCond .lt) 23 17 := ⟨9, by decide +kernel, by decide, rfl⟩
theorem rX11_pillars_17 : tq_D cX11_pillars 17 (.iload_n 2) 1 18 := ⟨by decide +kernel, rfl⟩
theorem rX11_pillars_18 : tq_D cX11_pillars 18 (.bipush 48) 2 20 := ⟨by decide +kernel, rfl⟩
theorem rX11_pillars_20 : tq_J cX11_pillars 20 (.if_icmp .le) 25 23 := ⟨5, by decide +kernel, by decide, rfl⟩
theorem rX11_pillars_23 : tq_D cX11_pillars 23 (.iconst (-1)) 1 24 := ⟨by decide +kernel, rfl⟩
theorem rX11_pillars_24 : decode cX11_pillars 24 = .ok (.ireturn, 1) := by decide +kernel
theorem rX11_pillars_25 : tq_D cX11_pillars 25 (.aload_n 3) 1 26 := ⟨by decide +kernel, rfl⟩
theorem rX11_pillars_26 : tq_D cX11_pillars 26 (.iload_n 2) 1 27 := ⟨by decide +kernel, rfl⟩
theorem rX11_pillars_27 : tq_D cX11_pillars 27 (.invokevirtual 307) 3 30 := ⟨by decide +kernel, rfl⟩
theorem rX11_pillars_30 : decode cX11_pillars 30 = .ok (.ireturn, 1) := by decide +kernel
noncomputable def FX11_pillars_j23 (I : tq_PI) (L : tq_PL)  : Option (Int32) :=
  some (-1 : Int32)
noncomputable def FX11_pillars (I : tq_PI) (L : tq_PL) (a0 : Nat) (a1 : Int32) (a2 : Int32) : Option (Int32) :=
  ((FX0_hillAt I L ((tq_rg a0 0)) a1).bind fun p1 =>  (p1.elim ((FX11_pillars_j23 I L )) (fun t2 => (if a2 < 0 then (FX11_pillars_j23 I L ) else (if a2 ≤ (48 : Int32) then ((FX3_bearing I L t2 a2).bind fun p5 => some p5) else (FX11_pillars_j23 I L ))))))
set_option maxRecDepth 100000 in
set_option maxHeartbeats 4000000 in
theorem FX11_pillars_j23_x {S : Nat × (Nat → Int32)} {d : Nat} {I : tq_PI} {L : tq_PL}   {q0 : Option Value → tq_PI → tq_PL → Prop} {out : Int32} (hf : FX11_pillars_j23 I L = some out) (hk : q0 (some (.int out)) I L) : tq_X S mX11_pillars (d + 5) tq_k0 23 ([tq_u, tq_u, tq_u, tq_u]) ([]) (tq_st I L) (tq_Q q0) := by
  unfold FX11_pillars_j23 at hf
  refine tq_iconst (-1 : Int32) rX11_pillars_23 (by decide) ?_
  refine ty_iret rX11_pillars_24 rfl rfl ?_
  have hf := Option.some.inj hf
  subst hf
  exact hk

set_option maxRecDepth 100000 in
set_option maxHeartbeats 4000000 in
theorem CX11_pillars {S : Nat × (Nat → Int32)} {d : Nat} {I : tq_PI} {L : tq_PL} {a0 : Nat} {a1 : Int32} {a2 : Int32} (h0 : tq_sh0 a0 = 11) {out : Int32} (hf : FX11_pillars I L a0 a1 a2 = some out) : tq_K S mX11_pillars (d + 5) [.ref a0, .int a1, .int a2] I L (tq_one2 (some (.int out)) I L) := by
  unfold FX11_pillars at hf
  refine tq_K_of (by decide) (Nat.le_of_ble_eq_true rfl) (ls := [.ref a0, .int a1, .int a2, tq_u]) rfl ?_
  refine tq_aload_n rX11_pillars_0 rfl ?_
  refine ty_getR rX11_pillars_1 f_X11_10 rfl h0 (hp_11_0 h0).1 ?_
  refine tq_iload_n rX11_pillars_4 rfl ?_
  obtain ⟨p1, e1, hf⟩ := Option.bind_eq_some_iff.mp hf
  refine ty_callVA p1 ([.int a1]) ([]) rX11_pillars_5 l_X11_102 moX0_hillAt mvX0_hillAt (hp_11_0 h0).2.1 rfl rfl (Nat.le_of_ble_eq_true rfl) ⟨rfl, rfl⟩ (CX0_hillAt (hp_11_0 h0).2.1 e1) ?_
  rcases tq_oelim hf with ⟨t2q, hf⟩ | ⟨t2, t2q, hf⟩
  · rw [t2q]
    refine tq_astoreN_n ([.ref a0, .int a1, .int a2, .null]) rX11_pillars_8 (Nat.le_of_ble_eq_true rfl) rfl ?_
    refine tq_aloadN_n rX11_pillars_9 rfl ?_
    refine tq_ifnullN rX11_pillars_10 ?_
    exact tq_forget _ (tq_le_u (tq_le_u (tq_le_u (tq_le_u tq_le_n)))) (FX11_pillars_j23_x   hf ⟨rfl, rfl, rfl⟩)
  · have t2h := RX0_hillAt (hp_11_0 h0).2.1 e1 t2q
    rw [t2q]
    refine tq_astore_n ([.ref a0, .int a1, .int a2, .ref t2]) rX11_pillars_8 (Nat.le_of_ble_eq_true rfl) rfl ?_
    refine tq_aload_n rX11_pillars_9 rfl ?_
    refine tq_ifnullR rX11_pillars_10 ?_
    refine tq_iload_n rX11_pillars_13 rfl ?_
    refine tq_if_lt rX11_pillars_14 (fun c3 => ?_) (fun c3 => ?_)
    · rw [if_pos c3] at hf
      exact tq_forget _ (tq_le_u (tq_le_u (tq_le_u (tq_le_u tq_le_n)))) (FX11_pillars_j23_x   hf ⟨rfl, rfl, rfl⟩)
    · rw [if_neg c3] at hf
      refine tq_iload_n rX11_pillars_17 rfl ?_
      refine tq_bipush (48 : Int32) rX11_pillars_18 (by decide) ?_
      refine tq_icmp_le rX11_pillars_20 (fun c4 => ?_) (fun c4 => ?_)
      · rw [if_pos c4] at hf
        refine tq_aload_n rX11_pillars_25 rfl ?_
        refine tq_iload_n rX11_pillars_26 rfl ?_
        obtain ⟨p5, e5, hf⟩ := Option.bind_eq_some_iff.mp hf
        refine ty_callVI p5 ([.int a2]) ([]) rX11_pillars_27 l_X11_307 moX3_bearing mvX3_bearing t2h rfl rfl (Nat.le_of_ble_eq_true rfl) ⟨rfl, rfl⟩ (CX3_bearing t2h e5) ?_
        refine ty_iret rX11_pillars_30 rfl rfl ?_
        have hf := Option.some.inj hf
        subst hf
        exact ⟨rfl, rfl, rfl⟩
      · rw [if_neg c4] at hf
        exact tq_forget _ (tq_le_u (tq_le_u (tq_le_u (tq_le_u tq_le_n)))) (FX11_pillars_j23_x   hf ⟨rfl, rfl, rfl⟩)

abbrev mX11_nearer : tq_M := (yX11_nearer, cX11_nearer, 4, (Option.some Jvm.ClassFile.FieldType.int), 0, 0)
theorem moX3_sooner : tq_mok mX3_sooner 1 := ⟨tq_sg1 _ (List.mem_of_getElem? (i := 3) rfl), tq_sg5 _ (List.mem_of_getElem? (i := 191) rfl), ⟨by decide, by decide, by decide +kernel⟩, by decide⟩
theorem mvX3_sooner : 3 < 13 ∧ (tq_cl 3).1 = mX3_sooner.1.cls ∧ Cond.instanceMethod mX3_sooner.1 ∈ lw_tbl ∧ Cond.selects mX3_sooner.1.cls mX3_sooner.1 mX3_sooner.1 ∈ lw_tbl := ⟨by decide, rfl, tq_sg5 _ (List.mem_of_getElem? (i := 189) rfl), tq_sg5 _ (List.mem_of_getElem? (i := 190) rfl)⟩
theorem l_X11_310 : tq_lok RX11 310 mX3_sooner.1 := Or.inl (tq_sg5 _ (List.mem_of_getElem? (i := 188) rfl))
theorem rX11_nearer_0 : tq_D cX11_nearer 0 (.aload_n 0) 1 1 := ⟨by decide +kernel, rfl⟩
theorem rX11_nearer_1 : tq_D cX11_nearer 1 (.getfield 10) 3 4 := ⟨by decide +kernel, rfl⟩
theorem rX11_nearer_4 : tq_D cX11_nearer 4 (.iload_n 1) 1 5 := ⟨by decide +kernel, rfl⟩
theorem rX11_nearer_5 : tq_D cX11_nearer 5 (.invokevirtual 102) 3 8 := ⟨by decide +kernel, rfl⟩
theorem rX11_nearer_8 : tq_D cX11_nearer 8 (.astore_n 3) 1 9 := ⟨by decide +kernel, rfl⟩
theorem rX11_nearer_9 : tq_D cX11_nearer 9 (.aload_n 3) 1 10 := ⟨by decide +kernel, rfl⟩
theorem rX11_nearer_10 : tq_J cX11_nearer 10 .ifnull 20 13 := ⟨10, by decide +kernel, by decide, rfl⟩
theorem rX11_nearer_13 : tq_D cX11_nearer 13 (.iload_n 2) 1 14 := ⟨by decide +kernel, rfl⟩
theorem rX11_nearer_14 : tq_D cX11_nearer 14 (.invokestatic 161) 3 17 := ⟨by decide +kernel, rfl⟩
theorem rX11_nearer_17 : tq_J cX11_nearer 17 (.ifCond .ne) 22 20 := ⟨5, by decide +kernel, by decide, rfl⟩
theorem rX11_nearer_20 : tq_D cX11_nearer 20 (.iconst (-1)) 1 21 := ⟨by decide +kernel, rfl⟩
theorem rX11_nearer_21 : decode cX11_nearer 21 = .ok (.ireturn, 1) := by decide +kernel
theorem rX11_nearer_22 : tq_D cX11_nearer 22 (.aload_n 3) 1 23 := ⟨by decide +kernel, rfl⟩
theorem rX11_nearer_23 : tq_D cX11_nearer 23 (.aload_n 3) 1 24 := ⟨by decide +kernel, rfl⟩
theorem rX11_nearer_24 : tq_D cX11_nearer 24 (.iload_n 2) 1 25 := ⟨by decide +kernel, rfl⟩
theorem rX11_nearer_25 : tq_D cX11_nearer 25 (.invokevirtual 310) 3 28 := ⟨by decide +kernel, rfl⟩
theorem rX11_nearer_28 : tq_D cX11_nearer 28 (.invokevirtual 124) 3 31 := ⟨by decide +kernel, rfl⟩
theorem rX11_nearer_31 : decode cX11_nearer 31 = .ok (.ireturn, 1) := by decide +kernel
noncomputable def FX11_nearer_j20 (I : tq_PI) (L : tq_PL)  : Option (Int32) :=
  some (-1 : Int32)
noncomputable def FX11_nearer (I : tq_PI) (L : tq_PL) (a0 : Nat) (a1 : Int32) (a2 : Int32) : Option (Int32) :=
  ((FX0_hillAt I L ((tq_rg a0 0)) a1).bind fun p1 =>  (p1.elim ((FX11_nearer_j20 I L )) (fun t2 => (tq_let (FX11_isSide I L a2) fun p3 => (if (tq_b p3) = 0 then (FX11_nearer_j20 I L ) else ((FX3_sooner I L t2 a2).bind fun p5 => (tq_let (FX3_worthOf I L t2 p5) fun p6 => some p6)))))))
set_option maxRecDepth 100000 in
set_option maxHeartbeats 4000000 in
theorem FX11_nearer_j20_x {S : Nat × (Nat → Int32)} {d : Nat} {I : tq_PI} {L : tq_PL}   {q0 : Option Value → tq_PI → tq_PL → Prop} {out : Int32} (hf : FX11_nearer_j20 I L = some out) (hk : q0 (some (.int out)) I L) : tq_X S mX11_nearer (d + 4) tq_k0 20 ([tq_u, tq_u, tq_u, tq_u]) ([]) (tq_st I L) (tq_Q q0) := by
  unfold FX11_nearer_j20 at hf
  refine tq_iconst (-1 : Int32) rX11_nearer_20 (by decide) ?_
  refine ty_iret rX11_nearer_21 rfl rfl ?_
  have hf := Option.some.inj hf
  subst hf
  exact hk

set_option maxRecDepth 100000 in
set_option maxHeartbeats 4000000 in
theorem CX11_nearer {S : Nat × (Nat → Int32)} {d : Nat} {I : tq_PI} {L : tq_PL} {a0 : Nat} {a1 : Int32} {a2 : Int32} (h0 : tq_sh0 a0 = 11) {out : Int32} (hf : FX11_nearer I L a0 a1 a2 = some out) : tq_K S mX11_nearer (d + 4) [.ref a0, .int a1, .int a2] I L (tq_one2 (some (.int out)) I L) := by
  unfold FX11_nearer at hf
  refine tq_K_of (by decide) (Nat.le_of_ble_eq_true rfl) (ls := [.ref a0, .int a1, .int a2, tq_u]) rfl ?_
  refine tq_aload_n rX11_nearer_0 rfl ?_
  refine ty_getR rX11_nearer_1 f_X11_10 rfl h0 (hp_11_0 h0).1 ?_
  refine tq_iload_n rX11_nearer_4 rfl ?_
  obtain ⟨p1, e1, hf⟩ := Option.bind_eq_some_iff.mp hf
  refine ty_callVA p1 ([.int a1]) ([]) rX11_nearer_5 l_X11_102 moX0_hillAt mvX0_hillAt (hp_11_0 h0).2.1 rfl rfl (Nat.le_of_ble_eq_true rfl) ⟨rfl, rfl⟩ (CX0_hillAt (hp_11_0 h0).2.1 e1) ?_
  rcases tq_oelim hf with ⟨t2q, hf⟩ | ⟨t2, t2q, hf⟩
  · rw [t2q]
    refine tq_astoreN_n ([.ref a0, .int a1, .int a2, .null]) rX11_nearer_8 (Nat.le_of_ble_eq_true rfl) rfl ?_
    refine tq_aloadN_n rX11_nearer_9 rfl ?_
    refine tq_ifnullN rX11_nearer_10 ?_
    exact tq_forget _ (tq_le_u (tq_le_u (tq_le_u (tq_le_u tq_le_n)))) (FX11_nearer_j20_x   hf ⟨rfl, rfl, rfl⟩)
  · have t2h := RX0_hillAt (hp_11_0 h0).2.1 e1 t2q
    rw [t2q]
    refine tq_astore_n ([.ref a0, .int a1, .int a2, .ref t2]) rX11_nearer_8 (Nat.le_of_ble_eq_true rfl) rfl ?_
    refine tq_aload_n rX11_nearer_9 rfl ?_
    refine tq_ifnullR rX11_nearer_10 ?_
    refine tq_iload_n rX11_nearer_13 rfl ?_
    obtain ⟨p3, e3, hf⟩ := tq_let_elim hf
    refine ty_callSI (tq_b p3) ([.int a2]) ([]) rX11_nearer_14 l_X11_161 moX11_isSide msX11_isSide rfl rfl (Nat.le_of_ble_eq_true rfl) ⟨rfl, rfl⟩ (CX11_isSide  e3) ?_
    refine tq_if_ne rX11_nearer_17 (fun c4 => ?_) (fun c4 => ?_)
    · rw [if_neg c4] at hf
      refine tq_aload_n rX11_nearer_22 rfl ?_
      refine tq_aload_n rX11_nearer_23 rfl ?_
      refine tq_iload_n rX11_nearer_24 rfl ?_
      obtain ⟨p5, e5, hf⟩ := Option.bind_eq_some_iff.mp hf
      refine ty_callVJ p5 ([.int a2]) ([.ref t2]) rX11_nearer_25 l_X11_310 moX3_sooner mvX3_sooner t2h rfl rfl (Nat.le_of_ble_eq_true rfl) ⟨rfl, rfl⟩ (CX3_sooner t2h e5) ?_
      obtain ⟨p6, e6, hf⟩ := tq_let_elim hf
      refine ty_callVI p6 ([.long p5]) ([]) rX11_nearer_28 l_X11_124 moX3_worthOf mvX3_worthOf t2h rfl rfl (Nat.le_of_ble_eq_true rfl) ⟨rfl, rfl⟩ (CX3_worthOf t2h e6) ?_
      refine ty_iret rX11_nearer_31 rfl rfl ?_
      have hf := Option.some.inj hf
      subst hf
      exact ⟨rfl, rfl, rfl⟩
    · rw [if_pos c4] at hf
      exact tq_forget _ (tq_le_u (tq_le_u (tq_le_u (tq_le_u tq_le_n)))) (FX11_nearer_j20_x   hf ⟨rfl, rfl, rfl⟩)

abbrev mX11_steady : tq_M := (yX11_steady, cX11_steady, 7, (Option.some Jvm.ClassFile.FieldType.int), 0, 0)
theorem moX3_steadyCuts : tq_mok mX3_steadyCuts 1 := ⟨tq_sg1 _ (List.mem_of_getElem? (i := 3) rfl), tq_sg5 _ (List.mem_of_getElem? (i := 199) rfl), ⟨by decide, by decide, by decide +kernel⟩, by decide⟩
theorem mvX3_steadyCuts : 3 < 13 ∧ (tq_cl 3).1 = mX3_steadyCuts.1.cls ∧ Cond.instanceMethod mX3_steadyCuts.1 ∈ lw_tbl ∧ Cond.selects mX3_steadyCuts.1.cls mX3_steadyCuts.1 mX3_steadyCuts.1 ∈ lw_tbl := ⟨by decide, rfl, tq_sg5 _ (List.mem_of_getElem? (i := 197) rfl), tq_sg5 _ (List.mem_of_getElem? (i := 198) rfl)⟩
theorem l_X11_313 : tq_lok RX11 313 mX3_steadyCuts.1 := Or.inl (tq_sg5 _ (List.mem_of_getElem? (i := 196) rfl))
theorem rX11_steady_0 : tq_D cX11_steady 0 (.aload_n 0) 1 1 := ⟨by decide +kernel, rfl⟩
theorem rX11_steady_1 : tq_D cX11_steady 1 (.getfield 10) 3 4 := ⟨by decide +kernel, rfl⟩
theorem rX11_steady_4 : tq_D cX11_steady 4 (.iload_n 1) 1 5 := ⟨by decide +kernel, rfl⟩
theorem rX11_steady_5 : tq_D cX11_steady 5 (.invokevirtual 102) 3 8 := ⟨by decide +kernel, rfl⟩
theorem rX11_steady_8 : tq_D cX11_steady 8 (.astore 4) 2 10 := ⟨by decide +kernel, rfl⟩
theorem rX11_steady_10 : tq_D cX11_steady 10 (.aload 4) 2 12 := ⟨by decide +kernel, rfl⟩
theorem rX11_steady_12 : tq_J cX11_steady 12 .ifnull 22 15 := ⟨10, by decide +kernel, by decide, rfl⟩
theorem rX11_steady_15 : tq_D cX11_steady 15 (.iload_n 2) 1 16 := ⟨by decide +kernel, rfl⟩
theorem rX11_steady_16 : tq_D cX11_steady 16 (.invokestatic 161) 3 19 := ⟨by decide +kernel, rfl⟩
theorem rX11_steady_19 : tq_J cX11_steady 19 (.ifCond .ne) 24 22 := ⟨5, by decide +kernel, by decide, rfl⟩
theorem rX11_steady_22 : tq_D cX11_steady 22 (.iconst (-1)) 1 23 := ⟨by decide +kernel, rfl⟩
theorem rX11_steady_23 : decode cX11_steady 23 = .ok (.ireturn, 1) := by decide +kernel
theorem rX11_steady_24 : tq_D cX11_steady 24 (.aload 4) 2 26 := ⟨by decide +kernel, rfl⟩
theorem rX11_steady_26 : tq_D cX11_steady 26 (.iload_n 2) 1 27 := ⟨by decide +kernel, rfl⟩
theorem rX11_steady_27 : tq_D cX11_steady 27 (.invokevirtual 313) 3 30 := ⟨by decide +kernel, rfl⟩
theorem rX11_steady_30 : tq_D cX11_steady 30 (.lstore 5) 2 32 := ⟨by decide +kernel, rfl⟩
theorem rX11_steady_32 : tq_D cX11_steady 32 (.iload_n 3) 1 33 := ⟨by decide +kernel, rfl⟩
theorem rX11_steady_33 : tq_J cX11_steady 33 (.ifCond .eq) 46 36 := ⟨13, by decide +kernel, by decide, rfl⟩
theorem rX11_steady_36 : tq_D cX11_steady 36 (.aload 4) 2 38 := ⟨by decide +kernel, rfl⟩
theorem rX11_steady_38 : tq_D cX11_steady 38 (.lload 5) 2 40 := ⟨by decide +kernel, rfl⟩
theorem rX11_steady_40 : tq_D cX11_steady 40 (.invokevirtual 124) 3 43 := ⟨by decide +kernel, rfl⟩
theorem rX11_steady_43 : tq_J cX11_steady 43 .goto 51 46 := ⟨8, by decide +kernel, by decide, rfl⟩
theorem rX11_steady_46 : tq_D cX11_steady 46 (.lload 5) 2 48 := ⟨by decide +kernel, rfl⟩
theorem rX11_steady_48 : tq_D cX11_steady 48 (.invokestatic 118) 3 51 := ⟨by decide +kernel, rfl⟩
theorem rX11_steady_51 : decode cX11_steady 51 = .ok (.ireturn, 1) := by decide +kernel
noncomputable def FX11_steady_j22 (I : tq_PI) (L : tq_PL)  : Option (Int32) :=
  some (-1 : Int32)
noncomputable def FX11_steady (I : tq_PI) (L : tq_PL) (a0 : Nat) (a1 : Int32) (a2 : Int32) (a3 : Int32) : Option (Int32) :=
  ((FX0_hillAt I L ((tq_rg a0 0)) a1).bind fun p1 =>  (p1.elim ((FX11_steady_j22 I L )) (fun t2 => (tq_let (FX11_isSide I L a2) fun p3 => (if (tq_b p3) = 0 then (FX11_steady_j22 I L ) else ((FX3_steadyCuts I L t2 a2).bind fun p5 => (if a3 = 0 then (tq_let (FJ13_bitCount_95d88 I L p5) fun p7 => some p7) else (tq_let (FX3_worthOf I L t2 p5) fun p8 => some p8))))))))
set_option maxRecDepth 100000 in
set_option maxHeartbeats 4000000 in
theorem FX11_steady_j22_x {S : Nat × (Nat → Int32)} {d : Nat} {I : tq_PI} {L : tq_PL}   {q0 : Option Value → tq_PI → tq_PL → Prop} {out : Int32} (hf : FX11_steady_j22 I L = some out) (hk : q0 (some (.int out)) I L) : tq_X S mX11_steady (d + 5) tq_k0 22 ([tq_u, tq_u, tq_u, tq_u, tq_u, tq_u, tq_u]) ([]) (tq_st I L) (tq_Q q0) := by
  unfold FX11_steady_j22 at hf
  refine tq_iconst (-1 : Int32) rX11_steady_22 (by decide) ?_
  refine ty_iret rX11_steady_23 rfl rfl ?_
  have hf := Option.some.inj hf
  subst hf
  exact hk

set_option maxRecDepth 100000 in
set_option maxHeartbeats 4000000 in
theorem CX11_steady {S : Nat × (Nat → Int32)} {d : Nat} {I : tq_PI} {L : tq_PL} {a0 : Nat} {a1 : Int32} {a2 : Int32} {a3 : Int32} (h0 : tq_sh0 a0 = 11) {out : Int32} (hf : FX11_steady I L a0 a1 a2 a3 = some out) : tq_K S mX11_steady (d + 5) [.ref a0, .int a1, .int a2, .int a3] I L (tq_one2 (some (.int out)) I L) := by
  unfold FX11_steady at hf
  refine tq_K_of (by decide) (Nat.le_of_ble_eq_true rfl) (ls := [.ref a0, .int a1, .int a2, .int a3, tq_u, tq_u, tq_u]) rfl ?_
  refine tq_aload_n rX11_steady_0 rfl ?_
  refine ty_getR rX11_steady_1 f_X11_10 rfl h0 (hp_11_0 h0).1 ?_
  refine tq_iload_n rX11_steady_4 rfl ?_
  obtain ⟨p1, e1, hf⟩ := Option.bind_eq_some_iff.mp hf
  refine ty_callVA p1 ([.int a1]) ([]) rX11_steady_5 l_X11_102 moX0_hillAt mvX0_hillAt (hp_11_0 h0).2.1 rfl rfl (Nat.le_of_ble_eq_true rfl) ⟨rfl, rfl⟩ (CX0_hillAt (hp_11_0 h0).2.1 e1) ?_
  rcases tq_oelim hf with ⟨t2q, hf⟩ | ⟨t2, t2q, hf⟩
  · rw [t2q]
    refine tq_astoreN ([.ref a0, .int a1, .int a2, .int a3, .null, tq_u, tq_u]) rX11_steady_8 (Nat.le_of_ble_eq_true rfl) rfl ?_
    refine tq_aloadN rX11_steady_10 rfl ?_
    refine tq_ifnullN rX11_steady_12 ?_
    exact tq_forget _ (tq_le_u (tq_le_u (tq_le_u (tq_le_u (tq_le_u (tq_le_u (tq_le_u tq_le_n))))))) (FX11_steady_j22_x   hf ⟨rfl, rfl, rfl⟩)
  · have t2h := RX0_hillAt (hp_11_0 h0).2.1 e1 t2q
    rw [t2q]
    refine tq_astore ([.ref a0, .int a1, .int a2, .int a3, .ref t2, tq_u, tq_u]) rX11_steady_8 (Nat.le_of_ble_eq_true rfl) rfl ?_
    refine tq_aload rX11_steady_10 rfl ?_
    refine tq_ifnullR rX11_steady_12 ?_
    refine tq_iload_n rX11_steady_15 rfl ?_
    obtain ⟨p3, e3, hf⟩ := tq_let_elim hf
    refine ty_callSI (tq_b p3) ([.int a2]) ([]) rX11_steady_16 l_X11_161 moX11_isSide msX11_isSide rfl rfl (Nat.le_of_ble_eq_true rfl) ⟨rfl, rfl⟩ (CX11_isSide  e3) ?_
    refine tq_if_ne rX11_steady_19 (fun c4 => ?_) (fun c4 => ?_)
    · rw [if_neg c4] at hf
      refine tq_aload rX11_steady_24 rfl ?_
      refine tq_iload_n rX11_steady_26 rfl ?_
      obtain ⟨p5, e5, hf⟩ := Option.bind_eq_some_iff.mp hf
      refine ty_callVJ p5 ([.int a2]) ([]) rX11_steady_27 l_X11_313 moX3_steadyCuts mvX3_steadyCuts t2h rfl rfl (Nat.le_of_ble_eq_true rfl) ⟨rfl, rfl⟩ (CX3_steadyCuts t2h e5) ?_
      refine tq_lstore ([.ref a0, .int a1, .int a2, .int a3, .ref t2, .long p5, tq_u]) rX11_steady_30 (Nat.le_of_ble_eq_true rfl) rfl ?_
      refine tq_iload_n rX11_steady_32 rfl ?_
      refine tq_if_eq rX11_steady_33 (fun c6 => ?_) (fun c6 => ?_)
      · rw [if_pos c6] at hf
        refine tq_lload rX11_steady_46 rfl ?_
        obtain ⟨p7, e7, hf⟩ := tq_let_elim hf
        refine ty_callSI p7 ([.long p5]) ([]) rX11_steady_48 l_X11_118 moJ13_bitCount_95d88 msJ13_bitCount_95d88 rfl rfl (Nat.le_of_ble_eq_true rfl) ⟨rfl, rfl⟩ (CJ13_bitCount_95d88  e7) ?_
        refine ty_iret rX11_steady_51 rfl rfl ?_
        have hf := Option.some.inj hf
        subst hf
        exact ⟨rfl, rfl, rfl⟩
      · rw [if_neg c6] at hf
        refine tq_aload rX11_steady_36 rfl ?_
        refine tq_lload rX11_steady_38 rfl ?_
        obtain ⟨p8, e8, hf⟩ := tq_let_elim hf
        refine ty_callVI p8 ([.long p5]) ([]) rX11_steady_40 l_X11_124 moX3_worthOf mvX3_worthOf t2h rfl rfl (Nat.le_of_ble_eq_true rfl) ⟨rfl, rfl⟩ (CX3_worthOf t2h e8) ?_
        refine tq_goto rX11_steady_43 ?_
        refine ty_iret rX11_steady_51 rfl rfl ?_
        have hf := Option.some.inj hf
        subst hf
        exact ⟨rfl, rfl, rfl⟩
    · rw [if_pos c4] at hf
      exact tq_forget _ (tq_le_u (tq_le_u (tq_le_u (tq_le_u (tq_le_u (tq_le_u (tq_le_u tq_le_n))))))) (FX11_steady_j22_x   hf ⟨rfl, rfl, rfl⟩)

abbrev mX11_race : tq_M := (yX11_race, cX11_race, 5, (Option.some Jvm.ClassFile.FieldType.int), 0, 0)
theorem moX5_run : tq_mok mX5_run 2 := ⟨tq_sg1 _ (List.mem_of_getElem? (i := 9) rfl), tq_sg5 _ (List.mem_of_getElem? (i := 208) rfl), ⟨by decide, by decide, by decide +kernel⟩, by decide⟩
theorem mvX5_run : 5 < 13 ∧ (tq_cl 5).1 = mX5_run.1.cls ∧ Cond.instanceMethod mX5_run.1 ∈ lw_tbl ∧ Cond.selects mX5_run.1.cls mX5_run.1 mX5_run.1 ∈ lw_tbl := ⟨by decide, rfl, tq_sg5 _ (List.mem_of_getElem? (i := 206) rfl), tq_sg5 _ (List.mem_of_getElem? (i := 207) rfl)⟩
theorem f_X11_319 : tq_fok RX11 319 5 8 := ⟨by decide, by decide, Or.inr ⟨_, tq_sg2 _ (List.mem_of_getElem? (i := 59) rfl)⟩⟩
theorem f_X11_322 : tq_fok RX11 322 5 6 := ⟨by decide, by decide, Or.inr ⟨_, tq_sg2 _ (List.mem_of_getElem? (i := 55) rfl)⟩⟩
theorem f_X11_325 : tq_fok RX11 325 5 7 := ⟨by decide, by decide, Or.inr ⟨_, tq_sg2 _ (List.mem_of_getElem? (i := 57) rfl)⟩⟩
theorem l_X11_316 : tq_lok RX11 316 mX5_run.1 := Or.inl (tq_sg5 _ (List.mem_of_getElem? (i := 205) rfl))
theorem rX11_race_0 : tq_D cX11_race 0 (.aload_n 0) 1 1 := ⟨by decide +kernel, rfl⟩
theorem rX11_race_1 : tq_D cX11_race 1 (.getfield 10) 3 4 := ⟨by decide +kernel, rfl⟩
theorem rX11_race_4 : tq_D cX11_race 4 (.iload_n 1) 1 5 := ⟨by decide +kernel, rfl⟩
theorem rX11_race_5 : tq_D cX11_race 5 (.invokevirtual 102) 3 8 := ⟨by decide +kernel, rfl⟩
theorem rX11_race_8 : tq_D cX11_race 8 (.astore 4) 2 10 := ⟨by decide +kernel, rfl⟩
theorem rX11_race_10 : tq_D cX11_race 10 (.aload 4) 2 12 := ⟨by decide +kernel, rfl⟩
theorem rX11_race_12 : tq_J cX11_race 12 .ifnull 34 15 := ⟨22, by decide +kernel, by decide, rfl⟩
theorem rX11_race_15 : tq_D cX11_race 15 (.iload_n 2) 1 16 := ⟨by decide +kernel, rfl⟩
theorem rX11_race_16 : tq_J cX11_race 16 (.ifCond .lt) 34 19 := ⟨18, by decide +kernel, by decide, rfl⟩
theorem rX11_race_19 : tq_D cX11_race 19 (.iload_n 2) 1 20 := ⟨by decide +kernel, rfl⟩
theorem rX11_race_20 : tq_D cX11_race 20 (.bipush 40) 2 22 := ⟨by decide +kernel, rfl⟩
theorem rX11_race_22 : tq_J cX11_race 22 (.if_icmp .gt) 34 25 := ⟨12, by decide +kernel, by decide, rfl⟩
theorem rX11_race_25 : tq_D cX11_race 25 (.iload_n 3) 1 26 := ⟨by decide +kernel, rfl⟩
theorem rX11_race_26 : tq_J cX11_race 26 (.ifCond .lt) 34 29 := ⟨8, by decide +kernel, by decide, rfl⟩
theorem rX11_race_29 : tq_D cX11_race 29 (.iload_n 3) 1 30 := ⟨by decide +kernel, rfl⟩
theorem rX11_race_30 : tq_D cX11_race 30 (.iconst 2) 1 31 := ⟨by decide +kernel, rfl⟩
theorem rX11_race_31 : tq_J cX11_race 31 (.if_icmp .le) 37 34 := ⟨6, by decide +kernel, by decide, rfl⟩
theorem rX11_race_34 : tq_D cX11_race 34 (.bipush (-2)) 2 36 := ⟨by decide +kernel, rfl⟩
theorem rX11_race_36 : decode cX11_race 36 = .ok (.ireturn, 1) := by decide +kernel
theorem rX11_race_37 : tq_D cX11_race 37 (.aload_n 0) 1 38 := ⟨by decide +kernel, rfl⟩
theorem rX11_race_38 : tq_D cX11_race 38 (.getfield 41) 3 41 := ⟨by decide +kernel, rfl⟩
theorem rX11_race_41 : tq_D cX11_race 41 (.aload 4) 2 43 := ⟨by decide +kernel, rfl⟩
theorem rX11_race_43 : tq_D cX11_race 43 (.iload_n 2) 1 44 := ⟨by decide +kernel, rfl⟩
theorem rX11_race_44 : tq_D cX11_race 44 (.invokevirtual 316) 3 47 := ⟨by decide +kernel, rfl⟩
theorem rX11_race_47 : tq_D cX11_race 47 (.iload_n 3) 1 48 := ⟨by decide +kernel, rfl⟩
theorem rX11_race_48 : tq_D cX11_race 48 (.iconst 2) 1 49 := ⟨by decide +kernel, rfl⟩
theorem rX11_race_49 : tq_J cX11_race 49 (.if_icmp .ne) 65 52 := ⟨16, by decide +kernel, by decide, rfl⟩
theorem rX11_race_52 : tq_D cX11_race 52 (.aload 4) 2 54 := ⟨by decide +kernel, rfl⟩
theorem rX11_race_54 : tq_D cX11_race 54 (.aload_n 0) 1 55 := ⟨by decide +kernel, rfl⟩
theorem rX11_race_55 : tq_D cX11_race 55 (.getfield 41) 3 58 := ⟨by decide +kernel, rfl⟩
theorem rX11_race_58 : tq_D cX11_race 58 (.getfield 319) 3 61 := ⟨by decide +kernel, rfl⟩
theorem rX11_race_61 : tq_D cX11_race 61 (.invokevirtual 158) 3 64 := ⟨by decide +kernel, rfl⟩
theorem rX11_race_64 : decode cX11_race 64 = .ok (.ireturn, 1) := by decide +kernel
theorem rX11_race_65 : tq_D cX11_race 65 (.iload_n 3) 1 66 := ⟨by decide +kernel, rfl⟩
theorem rX11_race_66 : tq_J cX11_race 66 (.ifCond .ne) 79 69 := ⟨13, by decide +kernel, by decide, rfl⟩
theorem rX11_race_69 : tq_D cX11_race 69 (.aload_n 0) 1 70 := ⟨by decide +kernel, rfl⟩
theorem rX11_race_70 : tq_D cX11_race 70 (.getfield 41) 3 73 := ⟨by decide +kernel, rfl⟩
theorem rX11_race_73 : tq_D cX11_race 73 (.getfield 322) 3 76 := ⟨by decide +kernel, rfl⟩
theorem rX11_race_76 : tq_J cX11_race 76 .goto 86 79 := ⟨10, by decide +kernel, by decide, rfl⟩
theorem rX11_race_79 : tq_D cX11_race 79 (.aload_n 0) 1 80 := ⟨by decide +kernel, rfl⟩
theorem rX11_race_80 : tq_D cX11_race 80 (.getfield 41) 3 83 := ⟨by decide +kernel, rfl⟩
theorem rX11_race_83 : tq_D cX11_race 83 (.getfield 325) 3 86 := ⟨by decide +kernel, rfl⟩
theorem rX11_race_86 : decode cX11_race 86 = .ok (.ireturn, 1) := by decide +kernel
noncomputable def FX11_race_j34 (I : tq_PI) (L : tq_PL)  : Option (Int32 × tq_PI × tq_PL) :=
  some ((-2 : Int32), I, L)
noncomputable def FX11_race (I : tq_PI) (L : tq_PL) (a0 : Nat) (a1 : Int32) (a2 : Int32) (a3 : Int32) : Option (Int32 × tq_PI × tq_PL) :=
  ((FX0_hillAt I L ((tq_rg a0 0)) a1).bind fun p1 =>  (p1.elim ((FX11_race_j34 I L )) (fun t2 => (if a2 < 0 then (FX11_race_j34 I L ) else (if (40 : Int32) < a2 then (FX11_race_j34 I L ) else (if a3 < 0 then (FX11_race_j34 I L ) else (if a3 ≤ (2 : Int32) then ((FX5_run I L ((tq_rg a0 5)) t2 a2).bind fun p7 => (if a3 = (2 : Int32) then ((FX3_thickness p7.1 p7.2 t2 ((p7.2 (tq_rg a0 5) 8))).bind fun p10 => some (p10, p7.1, p7.2)) else (if a3 = 0 then some ((p7.1 (tq_rg a0 5) 6), p7.1, p7.2) else some ((p7.1 (tq_rg a0 5) 7), p7.1, p7.2)))) else (FX11_race_j34 I L ))))))))
set_option maxRecDepth 100000 in
set_option maxHeartbeats 4000000 in
theorem FX11_race_j34_x {S : Nat × (Nat → Int32)} {d : Nat} {I : tq_PI} {L : tq_PL}   {q0 : Option Value → tq_PI → tq_PL → Prop} {out : Int32 × tq_PI × tq_PL} (hf : FX11_race_j34 I L = some out) (hk : q0 (some (.int out.1)) out.2.1 out.2.2) : tq_X S mX11_race (d + 5) tq_k0 34 ([tq_u, tq_u, tq_u, tq_u, tq_u]) ([]) (tq_st I L) (tq_Q q0) := by
  unfold FX11_race_j34 at hf
  refine tq_bipush (-2 : Int32) rX11_race_34 (by decide) ?_
  refine ty_iret rX11_race_36 rfl rfl ?_
  have hf := Option.some.inj hf
  subst hf
  exact hk

set_option maxRecDepth 100000 in
set_option maxHeartbeats 4000000 in
theorem CX11_race {S : Nat × (Nat → Int32)} {d : Nat} {I : tq_PI} {L : tq_PL} {a0 : Nat} {a1 : Int32} {a2 : Int32} {a3 : Int32} (h0 : tq_sh0 a0 = 11) {out : Int32 × tq_PI × tq_PL} (hf : FX11_race I L a0 a1 a2 a3 = some out) : tq_K S mX11_race (d + 5) [.ref a0, .int a1, .int a2, .int a3] I L (tq_one2 (some (.int out.1)) out.2.1 out.2.2) := by
  unfold FX11_race at hf
  refine tq_K_of (by decide) (Nat.le_of_ble_eq_true rfl) (ls := [.ref a0, .int a1, .int a2, .int a3, tq_u]) rfl ?_
  refine tq_aload_n rX11_race_0 rfl ?_
  refine ty_getR rX11_race_1 f_X11_10 rfl h0 (hp_11_0 h0).1 ?_
  refine tq_iload_n rX11_race_4 rfl ?_
  obtain ⟨p1, e1, hf⟩ := Option.bind_eq_some_iff.mp hf
  refine ty_callVA p1 ([.int a1]) ([]) rX11_race_5 l_X11_102 moX0_hillAt mvX0_hillAt (hp_11_0 h0).2.1 rfl rfl (Nat.le_of_ble_eq_true rfl) ⟨rfl, rfl⟩ (CX0_hillAt (hp_11_0 h0).2.1 e1) ?_
  rcases tq_oelim hf with ⟨t2q, hf⟩ | ⟨t2, t2q, hf⟩
  · rw [t2q]
    refine tq_astoreN ([.ref a0, .int a1, .int a2, .int a3, .null]) rX11_race_8 (Nat.le_of_ble_eq_true rfl) rfl ?_
    refine tq_aloadN rX11_race_10 rfl ?_
    refine tq_ifnullN rX11_race_12 ?_
    exact tq_forget _ (tq_le_u (tq_le_u (tq_le_u (tq_le_u (tq_le_u tq_le_n))))) (FX11_race_j34_x   hf ⟨rfl, rfl, rfl⟩)
  · have t2h := RX0_hillAt (hp_11_0 h0).2.1 e1 t2q
    rw [t2q]
    refine tq_astore ([.ref a0, .int a1, .int a2, .int a3, .ref t2]) rX11_race_8 (Nat.le_of_ble_eq_true rfl) rfl ?_
    refine tq_aload rX11_race_10 rfl ?_
    refine tq_ifnullR rX11_race_12 ?_
    refine tq_iload_n rX11_race_15 rfl ?_
    refine tq_if_lt rX11_race_16 (fun c3 => ?_) (fun c3 => ?_)
    · rw [if_pos c3] at hf
      exact tq_forget _ (tq_le_u (tq_le_u (tq_le_u (tq_le_u (tq_le_u tq_le_n))))) (FX11_race_j34_x   hf ⟨rfl, rfl, rfl⟩)
    · rw [if_neg c3] at hf
      refine tq_iload_n rX11_race_19 rfl ?_
      refine tq_bipush (40 : Int32) rX11_race_20 (by decide) ?_
      refine tq_icmp_gt rX11_race_22 (fun c4 => ?_) (fun c4 => ?_)
      · rw [if_pos c4] at hf
        exact tq_forget _ (tq_le_u (tq_le_u (tq_le_u (tq_le_u (tq_le_u tq_le_n))))) (FX11_race_j34_x   hf ⟨rfl, rfl, rfl⟩)
      · rw [if_neg c4] at hf
        refine tq_iload_n rX11_race_25 rfl ?_
        refine tq_if_lt rX11_race_26 (fun c5 => ?_) (fun c5 => ?_)
        · rw [if_pos c5] at hf
          exact tq_forget _ (tq_le_u (tq_le_u (tq_le_u (tq_le_u (tq_le_u tq_le_n))))) (FX11_race_j34_x   hf ⟨rfl, rfl, rfl⟩)
        · rw [if_neg c5] at hf
          refine tq_iload_n rX11_race_29 rfl ?_
          refine tq_iconst (2 : Int32) rX11_race_30 (by decide) ?_
          refine tq_icmp_le rX11_race_31 (fun c6 => ?_) (fun c6 => ?_)
          · rw [if_pos c6] at hf
            refine tq_aload_n rX11_race_37 rfl ?_
            refine ty_getR rX11_race_38 f_X11_41 rfl h0 (hp_11_5 h0).1 ?_
            refine tq_aload rX11_race_41 rfl ?_
            refine tq_iload_n rX11_race_43 rfl ?_
            obtain ⟨p7, e7, hf⟩ := Option.bind_eq_some_iff.mp hf
            refine ty_callVV ([.ref t2, .int a2]) ([]) rX11_race_44 l_X11_316 moX5_run mvX5_run (hp_11_5 h0).2.1 rfl rfl (Nat.le_of_ble_eq_true rfl) ⟨rfl, rfl⟩ (CX5_run (hp_11_5 h0).2.1 t2h e7) ?_
            refine tq_iload_n rX11_race_47 rfl ?_
            refine tq_iconst (2 : Int32) rX11_race_48 (by decide) ?_
            refine tq_icmp_ne rX11_race_49 (fun c8 => ?_) (fun c8 => ?_)
            · rw [if_neg c8] at hf
              refine tq_iload_n rX11_race_65 rfl ?_
              refine tq_if_ne rX11_race_66 (fun c9 => ?_) (fun c9 => ?_)
              · rw [if_neg c9] at hf
                refine tq_aload_n rX11_race_79 rfl ?_
                refine ty_getR rX11_race_80 f_X11_41 rfl h0 (hp_11_5 h0).1 ?_
                refine ty_getI rX11_race_83 f_X11_325 rfl (hp_11_5 h0).2.1 ?_
                refine ty_iret rX11_race_86 rfl rfl ?_
                have hf := Option.some.inj hf
                subst hf
                exact ⟨rfl, rfl, rfl⟩
              · rw [if_pos c9] at hf
                refine tq_aload_n rX11_race_69 rfl ?_
                refine ty_getR rX11_race_70 f_X11_41 rfl h0 (hp_11_5 h0).1 ?_
                refine ty_getI rX11_race_73 f_X11_322 rfl (hp_11_5 h0).2.1 ?_
                refine tq_goto rX11_race_76 ?_
                refine ty_iret rX11_race_86 rfl rfl ?_
                have hf := Option.some.inj hf
                subst hf
                exact ⟨rfl, rfl, rfl⟩
            · rw [if_pos c8] at hf
              refine tq_aload rX11_race_52 rfl ?_
              refine tq_aload_n rX11_race_54 rfl ?_
              refine ty_getR rX11_race_55 f_X11_41 rfl h0 (hp_11_5 h0).1 ?_
              refine ty_getL rX11_race_58 f_X11_319 rfl (hp_11_5 h0).2.1 ?_
              obtain ⟨p10, e10, hf⟩ := Option.bind_eq_some_iff.mp hf
              refine ty_callVI p10 ([.long (p7.2 (tq_rg a0 5) 8)]) ([]) rX11_race_61 l_X11_158 moX3_thickness mvX3_thickness t2h rfl rfl (Nat.le_of_ble_eq_true rfl) ⟨rfl, rfl⟩ (CX3_thickness t2h e10) ?_
              refine ty_iret rX11_race_64 rfl rfl ?_
              have hf := Option.some.inj hf
              subst hf
              exact ⟨rfl, rfl, rfl⟩
          · rw [if_neg c6] at hf
            exact tq_forget _ (tq_le_u (tq_le_u (tq_le_u (tq_le_u (tq_le_u tq_le_n))))) (FX11_race_j34_x   hf ⟨rfl, rfl, rfl⟩)

abbrev mX11_after : tq_M := (yX11_after, cX11_after, 6, (Option.some Jvm.ClassFile.FieldType.int), 0, 0)
theorem moX8_review : tq_mok mX8_review 2 := ⟨tq_sg1 _ (List.mem_of_getElem? (i := 8) rfl), tq_sg5 _ (List.mem_of_getElem? (i := 216) rfl), ⟨by decide, by decide, by decide +kernel⟩, by decide⟩
theorem mvX8_review : 8 < 13 ∧ (tq_cl 8).1 = mX8_review.1.cls ∧ Cond.instanceMethod mX8_review.1 ∈ lw_tbl ∧ Cond.selects mX8_review.1.cls mX8_review.1 mX8_review.1 ∈ lw_tbl := ⟨by decide, rfl, tq_sg5 _ (List.mem_of_getElem? (i := 214) rfl), tq_sg5 _ (List.mem_of_getElem? (i := 215) rfl)⟩
theorem f_X11_332 : tq_fok RX11 332 8 7 := ⟨by decide, by decide, Or.inr ⟨_, tq_sg2 _ (List.mem_of_getElem? (i := 9) rfl)⟩⟩
theorem f_X11_335 : tq_fok RX11 335 8 8 := ⟨by decide, by decide, Or.inr ⟨_, tq_sg2 _ (List.mem_of_getElem? (i := 11) rfl)⟩⟩
theorem f_X11_338 : tq_fok RX11 338 8 9 := ⟨by decide, by decide, Or.inr ⟨_, tq_sg2 _ (List.mem_of_getElem? (i := 13) rfl)⟩⟩
theorem l_X11_328 : tq_lok RX11 328 mX8_review.1 := Or.inl (tq_sg5 _ (List.mem_of_getElem? (i := 213) rfl))
theorem rX11_after_0 : tq_D cX11_after 0 (.aload_n 0) 1 1 := ⟨by decide +kernel, rfl⟩
theorem rX11_after_1 : tq_D cX11_after 1 (.getfield 10) 3 4 := ⟨by decide +kernel, rfl⟩
theorem rX11_after_4 : tq_D cX11_after 4 (.iload_n 1) 1 5 := ⟨by decide +kernel, rfl⟩
theorem rX11_after_5 : tq_D cX11_after 5 (.invokevirtual 102) 3 8 := ⟨by decide +kernel, rfl⟩
theorem rX11_after_8 : tq_D cX11_after 8 (.astore 4) 2 10 := ⟨by decide +kernel, rfl⟩
theorem rX11_after_10 : tq_D cX11_after 10 (.aload_n 0) 1 11 := ⟨by decide +kernel, rfl⟩
theorem rX11_after_11 : tq_D cX11_after 11 (.getfield 10) 3 14 := ⟨by decide +kernel, rfl⟩
theorem rX11_after_14 : tq_D cX11_after 14 (.iload_n 2) 1 15 := ⟨by decide +kernel, rfl⟩
theorem rX11_after_15 : tq_D cX11_after 15 (.invokevirtual 130) 3 18 := ⟨by decide +kernel, rfl⟩
theorem rX11_after_18 : tq_D cX11_after 18 (.astore 5) 2 20 := ⟨by decide +kernel, rfl⟩
theorem rX11_after_20 : tq_D cX11_after 20 (.aload 4) 2 22 := ⟨by decide +kernel, rfl⟩
theorem rX11_after_22 : tq_J cX11_after 22 .ifnull 39 25 := ⟨17, by decide +kernel, by decide, rfl⟩
theorem rX11_after_25 : tq_D cX11_after 25 (.aload 5) 2 27 := ⟨by decide +kernel, rfl⟩
theorem rX11_after_27 : tq_J cX11_after 27 .ifnull 39 30 := ⟨12, by decide +kernel, by decide, rfl⟩
theorem rX11_after_30 : tq_D cX11_after 30 (.iload_n 3) 1 31 := ⟨by decide +kernel, rfl⟩
theorem rX11_after_31 : tq_J cX11_after 31 (.ifCond .lt) 39 34 := ⟨8, by decide +kernel, by decide, rfl⟩
theorem rX11_after_34 : tq_D cX11_after 34 (.iload_n 3) 1 35 := ⟨by decide +kernel, rfl⟩
theorem rX11_after_35 : tq_D cX11_after 35 (.iconst 2) 1 36 := ⟨by decide +kernel, rfl⟩
theorem rX11_after_36 : tq_J cX11_after 36 (.if_icmp .le) 42 39 := ⟨6, by decide +kernel, by decide, rfl⟩
theorem rX11_after_39 : tq_D cX11_after 39 (.bipush (-2)) 2 41 := ⟨by decide +kernel, rfl⟩
theorem rX11_after_41 : decode cX11_after 41 = .ok (.ireturn, 1) := by decide +kernel
theorem rX11_after_42 : tq_D cX11_after 42 (.aload_n 0) 1 43 := ⟨by decide +kernel, rfl⟩
theorem rX11_after_43 : tq_D cX11_after 43 (.getfield 34) 3 46 := ⟨by decide +kernel, rfl⟩
theorem rX11_after_46 : tq_D cX11_after 46 (.aload 4) 2 48 := ⟨by decide +kernel, rfl⟩
theorem rX11_after_48 : tq_D cX11_after 48 (.aload 5) 2 50 := ⟨by decide +kernel, rfl⟩
theorem rX11_after_50 : tq_D cX11_after 50 (.invokevirtual 328) 3 53 := ⟨by decide +kernel, rfl⟩
theorem rX11_after_53 : tq_D cX11_after 53 (.iload_n 3) 1 54 := ⟨by decide +kernel, rfl⟩
theorem rX11_after_54 : tq_J cX11_after 54 (.ifCond .ne) 65 57 := ⟨11, by decide +kernel, by decide, rfl⟩
theorem rX11_after_57 : tq_D cX11_after 57 (.aload_n 0) 1 58 := ⟨by decide +kernel, rfl⟩
theorem rX11_after_58 : tq_D cX11_after 58 (.getfield 34) 3 61 := ⟨by decide +kernel, rfl⟩
theorem rX11_after_61 : tq_D cX11_after 61 (.getfield 332) 3 64 := ⟨by decide +kernel, rfl⟩
theorem rX11_after_64 : decode cX11_after 64 = .ok (.ireturn, 1) := by decide +kernel
theorem rX11_after_65 : tq_D cX11_after 65 (.iload_n 3) 1 66 := ⟨by decide +kernel, rfl⟩
theorem rX11_after_66 : tq_D cX11_after 66 (.iconst 1) 1 67 := ⟨by decide +kernel, rfl⟩
theorem rX11_after_67 : tq_J cX11_after 67 (.if_icmp .ne) 80 70 := ⟨13, by decide +kernel, by decide, rfl⟩
theorem rX11_after_70 : tq_D cX11_after 70 (.aload_n 0) 1 71 := ⟨by decide +kernel, rfl⟩
theorem rX11_after_71 : tq_D cX11_after 71 (.getfield 34) 3 74 := ⟨by decide +kernel, rfl⟩
theorem rX11_after_74 : tq_D cX11_after 74 (.getfield 335) 3 77 := ⟨by decide +kernel, rfl⟩
theorem rX11_after_77 : tq_J cX11_after 77 .goto 87 80 := ⟨10, by decide +kernel, by decide, rfl⟩
theorem rX11_after_80 : tq_D cX11_after 80 (.aload_n 0) 1 81 := ⟨by decide +kernel, rfl⟩
theorem rX11_after_81 : tq_D cX11_after 81 (.getfield 34) 3 84 := ⟨by decide +kernel, rfl⟩
theorem rX11_after_84 : tq_D cX11_after 84 (.getfield 338) 3 87 := ⟨by decide +kernel, rfl⟩
theorem rX11_after_87 : decode cX11_after 87 = .ok (.ireturn, 1) := by decide +kernel
noncomputable def FX11_after_j39 (I : tq_PI) (L : tq_PL)  : Option (Int32 × tq_PI × tq_PL) :=
  some ((-2 : Int32), I, L)
noncomputable def FX11_after (I : tq_PI) (L : tq_PL) (a0 : Nat) (a1 : Int32) (a2 : Int32) (a3 : Int32) : Option (Int32 × tq_PI × tq_PL) :=
  ((FX0_hillAt I L ((tq_rg a0 0)) a1).bind fun p1 =>  (p1.elim (((FX0_yearAt I L ((tq_rg a0 0)) a2).bind fun p3 =>  (p3.elim ((FX11_after_j39 I L )) (fun t4 => (FX11_after_j39 I L ))))) (fun t2 => ((FX0_yearAt I L ((tq_rg a0 0)) a2).bind fun p5 =>  (p5.elim ((FX11_after_j39 I L )) (fun t6 => (if a3 < 0 then (FX11_after_j39 I L ) else (if a3 ≤ (2 : Int32) then ((FX8_review I L ((tq_rg a0 4)) t2 t6).bind fun p9 => (if a3 = 0 then some ((p9.1 (tq_rg a0 4) 7), p9.1, p9.2) else (if a3 = (1 : Int32) then some ((p9.1 (tq_rg a0 4) 8), p9.1, p9.2) else some ((p9.1 (tq_rg a0 4) 9), p9.1, p9.2)))) else (FX11_after_j39 I L )))))))))
set_option maxRecDepth 100000 in
set_option maxHeartbeats 4000000 in
theorem FX11_after_j39_x {S : Nat × (Nat → Int32)} {d : Nat} {I : tq_PI} {L : tq_PL}   {q0 : Option Value → tq_PI → tq_PL → Prop} {out : Int32 × tq_PI × tq_PL} (hf : FX11_after_j39 I L = some out) (hk : q0 (some (.int out.1)) out.2.1 out.2.2) : tq_X S mX11_after (d + 7) tq_k0 39 ([tq_u, tq_u, tq_u, tq_u, tq_u, tq_u]) ([]) (tq_st I L) (tq_Q q0) := by
  unfold FX11_after_j39 at hf
  refine tq_bipush (-2 : Int32) rX11_after_39 (by decide) ?_
  refine ty_iret rX11_after_41 rfl rfl ?_
  have hf := Option.some.inj hf
  subst hf
  exact hk

set_option maxRecDepth 100000 in
set_option maxHeartbeats 4000000 in
theorem CX11_after {S : Nat × (Nat → Int32)} {d : Nat} {I : tq_PI} {L : tq_PL} {a0 : Nat} {a1 : Int32} {a2 : Int32} {a3 : Int32} (h0 : tq_sh0 a0 = 11) {out : Int32 × tq_PI × tq_PL} (hf : FX11_after I L a0 a1 a2 a3 = some out) : tq_K S mX11_after (d + 7) [.ref a0, .int a1, .int a2, .int a3] I L (tq_one2 (some (.int out.1)) out.2.1 out.2.2) := by
  unfold FX11_after at hf
  refine tq_K_of (by decide) (Nat.le_of_ble_eq_true rfl) (ls := [.ref a0, .int a1, .int a2, .int a3, tq_u, tq_u]) rfl ?_
  refine tq_aload_n rX11_after_0 rfl ?_
  refine ty_getR rX11_after_1 f_X11_10 rfl h0 (hp_11_0 h0).1 ?_
  refine tq_iload_n rX11_after_4 rfl ?_
  obtain ⟨p1, e1, hf⟩ := Option.bind_eq_some_iff.mp hf
  refine ty_callVA p1 ([.int a1]) ([]) rX11_after_5 l_X11_102 moX0_hillAt mvX0_hillAt (hp_11_0 h0).2.1 rfl rfl (Nat.le_of_ble_eq_true rfl) ⟨rfl, rfl⟩ (CX0_hillAt (hp_11_0 h0).2.1 e1) ?_
  rcases tq_oelim hf with ⟨t2q, hf⟩ | ⟨t2, t2q, hf⟩
  · rw [t2q]
    refine tq_astoreN ([.ref a0, .int a1, .int a2, .int a3, .null, tq_u]) rX11_after_8 (Nat.le_of_ble_eq_true rfl) rfl ?_
    refine tq_aload_n rX11_after_10 rfl ?_
    refine ty_getR rX11_after_11 f_X11_10 rfl h0 (hp_11_0 h0).1 ?_
    refine tq_iload_n rX11_after_14 rfl ?_
    obtain ⟨p3, e3, hf⟩ := Option.bind_eq_some_iff.mp hf
    refine ty_callVA p3 ([.int a2]) ([]) rX11_after_15 l_X11_130 moX0_yearAt mvX0_yearAt (hp_11_0 h0).2.1 rfl rfl (Nat.le_of_ble_eq_true rfl) ⟨rfl, rfl⟩ (CX0_yearAt (hp_11_0 h0).2.1 e3) ?_
    rcases tq_oelim hf with ⟨t4q, hf⟩ | ⟨t4, t4q, hf⟩
    · rw [t4q]
      refine tq_astoreN ([.ref a0, .int a1, .int a2, .int a3, .null, .null]) rX11_after_18 (Nat.le_of_ble_eq_true rfl) rfl ?_
      refine tq_aloadN rX11_after_20 rfl ?_
      refine tq_ifnullN rX11_after_22 ?_
      exact tq_forget _ (tq_le_u (tq_le_u (tq_le_u (tq_le_u (tq_le_u (tq_le_u tq_le_n)))))) (FX11_after_j39_x   hf ⟨rfl, rfl, rfl⟩)
    · have t4h := RX0_yearAt (hp_11_0 h0).2.1 e3 t4q
      rw [t4q]
      refine tq_astore ([.ref a0, .int a1, .int a2, .int a3, .null, .ref t4]) rX11_after_18 (Nat.le_of_ble_eq_true rfl) rfl ?_
      refine tq_aloadN rX11_after_20 rfl ?_
      refine tq_ifnullN rX11_after_22 ?_
      exact tq_forget _ (tq_le_u (tq_le_u (tq_le_u (tq_le_u (tq_le_u (tq_le_u tq_le_n)))))) (FX11_after_j39_x   hf ⟨rfl, rfl, rfl⟩)
  · have t2h := RX0_hillAt (hp_11_0 h0).2.1 e1 t2q
    rw [t2q]
    refine tq_astore ([.ref a0, .int a1, .int a2, .int a3, .ref t2, tq_u]) rX11_after_8 (Nat.le_of_ble_eq_true rfl) rfl ?_
    refine tq_aload_n rX11_after_10 rfl ?_
    refine ty_getR rX11_after_11 f_X11_10 rfl h0 (hp_11_0 h0).1 ?_
    refine tq_iload_n rX11_after_14 rfl ?_
    obtain ⟨p5, e5, hf⟩ := Option.bind_eq_some_iff.mp hf
    refine ty_callVA p5 ([.int a2]) ([]) rX11_after_15 l_X11_130 moX0_yearAt mvX0_yearAt (hp_11_0 h0).2.1 rfl rfl (Nat.le_of_ble_eq_true rfl) ⟨rfl, rfl⟩ (CX0_yearAt (hp_11_0 h0).2.1 e5) ?_
    rcases tq_oelim hf with ⟨t6q, hf⟩ | ⟨t6, t6q, hf⟩
    · rw [t6q]
      refine tq_astoreN ([.ref a0, .int a1, .int a2, .int a3, .ref t2, .null]) rX11_after_18 (Nat.le_of_ble_eq_true rfl) rfl ?_
      refine tq_aload rX11_after_20 rfl ?_
      refine tq_ifnullR rX11_after_22 ?_
      refine tq_aloadN rX11_after_25 rfl ?_
      refine tq_ifnullN rX11_after_27 ?_
      exact tq_forget _ (tq_le_u (tq_le_u (tq_le_u (tq_le_u (tq_le_u (tq_le_u tq_le_n)))))) (FX11_after_j39_x   hf ⟨rfl, rfl, rfl⟩)
    · have t6h := RX0_yearAt (hp_11_0 h0).2.1 e5 t6q
      rw [t6q]
      refine tq_astore ([.ref a0, .int a1, .int a2, .int a3, .ref t2, .ref t6]) rX11_after_18 (Nat.le_of_ble_eq_true rfl) rfl ?_
      refine tq_aload rX11_after_20 rfl ?_
      refine tq_ifnullR rX11_after_22 ?_
      refine tq_aload rX11_after_25 rfl ?_
      refine tq_ifnullR rX11_after_27 ?_
      refine tq_iload_n rX11_after_30 rfl ?_
      refine tq_if_lt rX11_after_31 (fun c7 => ?_) (fun c7 => ?_)
      · rw [if_pos c7] at hf
        exact tq_forget _ (tq_le_u (tq_le_u (tq_le_u (tq_le_u (tq_le_u (tq_le_u tq_le_n)))))) (FX11_after_j39_x   hf ⟨rfl, rfl, rfl⟩)
      · rw [if_neg c7] at hf
        refine tq_iload_n rX11_after_34 rfl ?_
        refine tq_iconst (2 : Int32) rX11_after_35 (by decide) ?_
        refine tq_icmp_le rX11_after_36 (fun c8 => ?_) (fun c8 => ?_)
        · rw [if_pos c8] at hf
          refine tq_aload_n rX11_after_42 rfl ?_
          refine ty_getR rX11_after_43 f_X11_34 rfl h0 (hp_11_4 h0).1 ?_
          refine tq_aload rX11_after_46 rfl ?_
          refine tq_aload rX11_after_48 rfl ?_
          obtain ⟨p9, e9, hf⟩ := Option.bind_eq_some_iff.mp hf
          refine ty_callVV ([.ref t2, .ref t6]) ([]) rX11_after_50 l_X11_328 moX8_review mvX8_review (hp_11_4 h0).2.1 rfl rfl (Nat.le_of_ble_eq_true rfl) ⟨rfl, rfl⟩ (CX8_review (hp_11_4 h0).2.1 t2h t6h e9) ?_
          refine tq_iload_n rX11_after_53 rfl ?_
          refine tq_if_ne rX11_after_54 (fun c10 => ?_) (fun c10 => ?_)
          · rw [if_neg c10] at hf
            refine tq_iload_n rX11_after_65 rfl ?_
            refine tq_iconst (1 : Int32) rX11_after_66 (by decide) ?_
            refine tq_icmp_ne rX11_after_67 (fun c11 => ?_) (fun c11 => ?_)
            · rw [if_neg c11] at hf
              refine tq_aload_n rX11_after_80 rfl ?_
              refine ty_getR rX11_after_81 f_X11_34 rfl h0 (hp_11_4 h0).1 ?_
              refine ty_getI rX11_after_84 f_X11_338 rfl (hp_11_4 h0).2.1 ?_
              refine ty_iret rX11_after_87 rfl rfl ?_
              have hf := Option.some.inj hf
              subst hf
              exact ⟨rfl, rfl, rfl⟩
            · rw [if_pos c11] at hf
              refine tq_aload_n rX11_after_70 rfl ?_
              refine ty_getR rX11_after_71 f_X11_34 rfl h0 (hp_11_4 h0).1 ?_
              refine ty_getI rX11_after_74 f_X11_335 rfl (hp_11_4 h0).2.1 ?_
              refine tq_goto rX11_after_77 ?_
              refine ty_iret rX11_after_87 rfl rfl ?_
              have hf := Option.some.inj hf
              subst hf
              exact ⟨rfl, rfl, rfl⟩
          · rw [if_pos c10] at hf
            refine tq_aload_n rX11_after_57 rfl ?_
            refine ty_getR rX11_after_58 f_X11_34 rfl h0 (hp_11_4 h0).1 ?_
            refine ty_getI rX11_after_61 f_X11_332 rfl (hp_11_4 h0).2.1 ?_
            refine ty_iret rX11_after_64 rfl rfl ?_
            have hf := Option.some.inj hf
            subst hf
            exact ⟨rfl, rfl, rfl⟩
        · rw [if_neg c8] at hf
          exact tq_forget _ (tq_le_u (tq_le_u (tq_le_u (tq_le_u (tq_le_u (tq_le_u tq_le_n)))))) (FX11_after_j39_x   hf ⟨rfl, rfl, rfl⟩)

abbrev mX11_range : tq_M := (yX11_range, cX11_range, 5, (Option.some Jvm.ClassFile.FieldType.int), 0, 0)
theorem moX2_faintestAt : tq_mok mX2_faintestAt 1 := ⟨tq_sg1 _ (List.mem_of_getElem? (i := 11) rfl), tq_sg5 _ (List.mem_of_getElem? (i := 232) rfl), ⟨by decide, by decide, by decide +kernel⟩, by decide⟩
theorem mvX2_faintestAt : 2 < 13 ∧ (tq_cl 2).1 = mX2_faintestAt.1.cls ∧ Cond.instanceMethod mX2_faintestAt.1 ∈ lw_tbl ∧ Cond.selects mX2_faintestAt.1.cls mX2_faintestAt.1 mX2_faintestAt.1 ∈ lw_tbl := ⟨by decide, rfl, tq_sg5 _ (List.mem_of_getElem? (i := 230) rfl), tq_sg5 _ (List.mem_of_getElem? (i := 231) rfl)⟩
theorem moX2_loudestAt : tq_mok mX2_loudestAt 1 := ⟨tq_sg1 _ (List.mem_of_getElem? (i := 11) rfl), tq_sg5 _ (List.mem_of_getElem? (i := 228) rfl), ⟨by decide, by decide, by decide +kernel⟩, by decide⟩
theorem mvX2_loudestAt : 2 < 13 ∧ (tq_cl 2).1 = mX2_loudestAt.1.cls ∧ Cond.instanceMethod mX2_loudestAt.1 ∈ lw_tbl ∧ Cond.selects mX2_loudestAt.1.cls mX2_loudestAt.1 mX2_loudestAt.1 ∈ lw_tbl := ⟨by decide, rfl, tq_sg5 _ (List.mem_of_getElem? (i := 226) rfl), tq_sg5 _ (List.mem_of_getElem? (i := 227) rfl)⟩
theorem l_X11_341 : tq_lok RX11 341 mX2_loudestAt.1 := Or.inl (tq_sg5 _ (List.mem_of_getElem? (i := 225) rfl))
theorem l_X11_344 : tq_lok RX11 344 mX2_faintestAt.1 := Or.inl (tq_sg5 _ (List.mem_of_getElem? (i := 229) rfl))
theorem rX11_range_0 : tq_D cX11_range 0 (.aload_n 0) 1 1 := ⟨by decide +kernel, rfl⟩
theorem rX11_range_1 : tq_D cX11_range 1 (.getfield 10) 3 4 := ⟨by decide +kernel, rfl⟩
theorem rX11_range_4 : tq_D cX11_range 4 (.iload_n 1) 1 5 := ⟨by decide +kernel, rfl⟩
theorem rX11_range_5 : tq_D cX11_range 5 (.invokevirtual 240) 3 8 := ⟨by decide +kernel, rfl⟩
theorem rX11_range_8 : tq_D cX11_range 8 (.astore 4) 2 10 := ⟨by decide +kernel, rfl⟩
theorem rX11_range_10 : tq_D cX11_range 10 (.aload 4) 2 12 := ⟨by decide +kernel, rfl⟩
theorem rX11_range_12 : tq_J cX11_range 12 .ifnull 25 15 := ⟨13, by decide +kernel, by decide, rfl⟩
theorem rX11_range_15 : tq_D cX11_range 15 (.iload_n 2) 1 16 := ⟨by decide +kernel, rfl⟩
theorem rX11_range_16 : tq_J cX11_range 16 (.ifCond .lt) 25 19 := ⟨9, by decide +kernel, by decide, rfl⟩
theorem rX11_range_19 : tq_D cX11_range 19 (.iload_n 2) 1 20 := ⟨by decide +kernel, rfl⟩
theorem rX11_range_20 : tq_D cX11_range 20 (.bipush 48) 2 22 := ⟨by decide +kernel, rfl⟩
theorem rX11_range_22 : tq_J cX11_range 22 (.if_icmp .lt) 27 25 := ⟨5, by decide +kernel, by decide, rfl⟩
theorem rX11_range_25 : tq_D cX11_range 25 (.iconst (-1)) 1 26 := ⟨by decide +kernel, rfl⟩
theorem rX11_range_26 : decode cX11_range 26 = .ok (.ireturn, 1) := by decide +kernel
theorem rX11_range_27 : tq_D cX11_range 27 (.aload_n 0) 1 28 := ⟨by decide +kernel, rfl⟩
theorem rX11_range_28 : tq_D cX11_range 28 (.getfield 55) 3 31 := ⟨by decide +kernel, rfl⟩
theorem rX11_range_31 : tq_D cX11_range 31 (.aload 4) 2 33 := ⟨by decide +kernel, rfl⟩
theorem rX11_range_33 : tq_D cX11_range 33 (.invokevirtual 251) 3 36 := ⟨by decide +kernel, rfl⟩
theorem rX11_range_36 : tq_D cX11_range 36 (.iload_n 3) 1 37 := ⟨by decide +kernel, rfl⟩
theorem rX11_range_37 : tq_J cX11_range 37 (.ifCond .eq) 51 40 := ⟨14, by decide +kernel, by decide, rfl⟩
theorem rX11_range_40 : tq_D cX11_range 40 (.aload_n 0) 1 41 := ⟨by decide +kernel, rfl⟩
theorem rX11_range_41 : tq_D cX11_range 41 (.getfield 55) 3 44 := ⟨by decide +kernel, rfl⟩
theorem rX11_range_44 : tq_D cX11_range 44 (.iload_n 2) 1 45 := ⟨by decide +kernel, rfl⟩
theorem rX11_range_45 : tq_D cX11_range 45 (.invokevirtual 341) 3 48 := ⟨by decide +kernel, rfl⟩
theorem rX11_range_48 : tq_J cX11_range 48 .goto 59 51 := ⟨11, by decide +kernel, by decide, rfl⟩
theorem rX11_range_51 : tq_D cX11_range 51 (.aload_n 0) 1 52 := ⟨by decide +kernel, rfl⟩
theorem rX11_range_52 : tq_D cX11_range 52 (.getfield 55) 3 55 := ⟨by decide +kernel, rfl⟩
theorem rX11_range_55 : tq_D cX11_range 55 (.iload_n 2) 1 56 := ⟨by decide +kernel, rfl⟩
theorem rX11_range_56 : tq_D cX11_range 56 (.invokevirtual 344) 3 59 := ⟨by decide +kernel, rfl⟩
theorem rX11_range_59 : decode cX11_range 59 = .ok (.ireturn, 1) := by decide +kernel
noncomputable def FX11_range_j25 (I : tq_PI) (L : tq_PL)  : Option (Int32 × tq_PI × tq_PL) :=
  some ((-1 : Int32), I, L)
noncomputable def FX11_range (I : tq_PI) (L : tq_PL) (a0 : Nat) (a1 : Int32) (a2 : Int32) (a3 : Int32) : Option (Int32 × tq_PI × tq_PL) :=
  ((FX0_logAt I L ((tq_rg a0 0)) a1).bind fun p1 =>  (p1.elim ((FX11_range_j25 I L )) (fun t2 => (if a2 < 0 then (FX11_range_j25 I L ) else (if a2 < (48 : Int32) then ((FX2_gather I L ((tq_rg a0 7)) t2).bind fun p5 => (if a3 = 0 then ((FX2_faintestAt I p5 ((tq_rg a0 7)) a2).bind fun p7 => some (p7.1, p7.2, p5)) else ((FX2_loudestAt I p5 ((tq_rg a0 7)) a2).bind fun p8 => some (p8.1, p8.2, p5)))) else (FX11_range_j25 I L ))))))
set_option maxRecDepth 100000 in
set_option maxHeartbeats 4000000 in
theorem FX11_range_j25_x {S : Nat × (Nat → Int32)} {d : Nat} {I : tq_PI} {L : tq_PL}   {q0 : Option Value → tq_PI → tq_PL → Prop} {out : Int32 × tq_PI × tq_PL} (hf : FX11_range_j25 I L = some out) (hk : q0 (some (.int out.1)) out.2.1 out.2.2) : tq_X S mX11_range (d + 5) tq_k0 25 ([tq_u, tq_u, tq_u, tq_u, tq_u]) ([]) (tq_st I L) (tq_Q q0) := by
  unfold FX11_range_j25 at hf
  refine tq_iconst (-1 : Int32) rX11_range_25 (by decide) ?_
  refine ty_iret rX11_range_26 rfl rfl ?_
  have hf := Option.some.inj hf
  subst hf
  exact hk

set_option maxRecDepth 100000 in
set_option maxHeartbeats 4000000 in
theorem CX11_range {S : Nat × (Nat → Int32)} {d : Nat} {I : tq_PI} {L : tq_PL} {a0 : Nat} {a1 : Int32} {a2 : Int32} {a3 : Int32} (h0 : tq_sh0 a0 = 11) {out : Int32 × tq_PI × tq_PL} (hf : FX11_range I L a0 a1 a2 a3 = some out) : tq_K S mX11_range (d + 5) [.ref a0, .int a1, .int a2, .int a3] I L (tq_one2 (some (.int out.1)) out.2.1 out.2.2) := by
  unfold FX11_range at hf
  refine tq_K_of (by decide) (Nat.le_of_ble_eq_true rfl) (ls := [.ref a0, .int a1, .int a2, .int a3, tq_u]) rfl ?_
  refine tq_aload_n rX11_range_0 rfl ?_
  refine ty_getR rX11_range_1 f_X11_10 rfl h0 (hp_11_0 h0).1 ?_
  refine tq_iload_n rX11_range_4 rfl ?_
  obtain ⟨p1, e1, hf⟩ := Option.bind_eq_some_iff.mp hf
  refine ty_callVA p1 ([.int a1]) ([]) rX11_range_5 l_X11_240 moX0_logAt mvX0_logAt (hp_11_0 h0).2.1 rfl rfl (Nat.le_of_ble_eq_true rfl) ⟨rfl, rfl⟩ (CX0_logAt (hp_11_0 h0).2.1 e1) ?_
  rcases tq_oelim hf with ⟨t2q, hf⟩ | ⟨t2, t2q, hf⟩
  · rw [t2q]
    refine tq_astoreN ([.ref a0, .int a1, .int a2, .int a3, .null]) rX11_range_8 (Nat.le_of_ble_eq_true rfl) rfl ?_
    refine tq_aloadN rX11_range_10 rfl ?_
    refine tq_ifnullN rX11_range_12 ?_
    exact tq_forget _ (tq_le_u (tq_le_u (tq_le_u (tq_le_u (tq_le_u tq_le_n))))) (FX11_range_j25_x   hf ⟨rfl, rfl, rfl⟩)
  · have t2h := RX0_logAt (hp_11_0 h0).2.1 e1 t2q
    rw [t2q]
    refine tq_astore ([.ref a0, .int a1, .int a2, .int a3, .ref t2]) rX11_range_8 (Nat.le_of_ble_eq_true rfl) rfl ?_
    refine tq_aload rX11_range_10 rfl ?_
    refine tq_ifnullR rX11_range_12 ?_
    refine tq_iload_n rX11_range_15 rfl ?_
    refine tq_if_lt rX11_range_16 (fun c3 => ?_) (fun c3 => ?_)
    · rw [if_pos c3] at hf
      exact tq_forget _ (tq_le_u (tq_le_u (tq_le_u (tq_le_u (tq_le_u tq_le_n))))) (FX11_range_j25_x   hf ⟨rfl, rfl, rfl⟩)
    · rw [if_neg c3] at hf
      refine tq_iload_n rX11_range_19 rfl ?_
      refine tq_bipush (48 : Int32) rX11_range_20 (by decide) ?_
      refine tq_icmp_lt rX11_range_22 (fun c4 => ?_) (fun c4 => ?_)
      · rw [if_pos c4] at hf
        refine tq_aload_n rX11_range_27 rfl ?_
        refine ty_getR rX11_range_28 f_X11_55 rfl h0 (hp_11_7 h0).1 ?_
        refine tq_aload rX11_range_31 rfl ?_
        obtain ⟨p5, e5, hf⟩ := Option.bind_eq_some_iff.mp hf
        refine ty_callVV ([.ref t2]) ([]) rX11_range_33 l_X11_251 moX2_gather mvX2_gather (hp_11_7 h0).2.1 rfl rfl (Nat.le_of_ble_eq_true rfl) ⟨rfl, rfl⟩ (CX2_gather (hp_11_7 h0).2.1 t2h e5) ?_
        refine tq_iload_n rX11_range_36 rfl ?_
        refine tq_if_eq rX11_range_37 (fun c6 => ?_) (fun c6 => ?_)
        · rw [if_pos c6] at hf
          refine tq_aload_n rX11_range_51 rfl ?_
          refine ty_getR rX11_range_52 f_X11_55 rfl h0 (hp_11_7 h0).1 ?_
          refine tq_iload_n rX11_range_55 rfl ?_
          obtain ⟨p7, e7, hf⟩ := Option.bind_eq_some_iff.mp hf
          refine ty_callVI p7.1 ([.int a2]) ([]) rX11_range_56 l_X11_344 moX2_faintestAt mvX2_faintestAt (hp_11_7 h0).2.1 rfl rfl (Nat.le_of_ble_eq_true rfl) ⟨rfl, rfl⟩ (CX2_faintestAt (hp_11_7 h0).2.1 e7) ?_
          refine ty_iret rX11_range_59 rfl rfl ?_
          have hf := Option.some.inj hf
          subst hf
          exact ⟨rfl, rfl, rfl⟩
        · rw [if_neg c6] at hf
          refine tq_aload_n rX11_range_40 rfl ?_
          refine ty_getR rX11_range_41 f_X11_55 rfl h0 (hp_11_7 h0).1 ?_
          refine tq_iload_n rX11_range_44 rfl ?_
          obtain ⟨p8, e8, hf⟩ := Option.bind_eq_some_iff.mp hf
          refine ty_callVI p8.1 ([.int a2]) ([]) rX11_range_45 l_X11_341 moX2_loudestAt mvX2_loudestAt (hp_11_7 h0).2.1 rfl rfl (Nat.le_of_ble_eq_true rfl) ⟨rfl, rfl⟩ (CX2_loudestAt (hp_11_7 h0).2.1 e8) ?_
          refine tq_goto rX11_range_48 ?_
          refine ty_iret rX11_range_59 rfl rfl ?_
          have hf := Option.some.inj hf
          subst hf
          exact ⟨rfl, rfl, rfl⟩
      · rw [if_neg c4] at hf
        exact tq_forget _ (tq_le_u (tq_le_u (tq_le_u (tq_le_u (tq_le_u tq_le_n))))) (FX11_range_j25_x   hf ⟨rfl, rfl, rfl⟩)

abbrev mX11_plain : tq_M := (yX11_plain, cX11_plain, 4, (Option.some Jvm.ClassFile.FieldType.int), 0, 0)
theorem moX9_plainBlows : tq_mok mX9_plainBlows 0 := ⟨tq_sg1 _ (List.mem_of_getElem? (i := 6) rfl), tq_sg6 _ (List.mem_of_getElem? (i := 0) rfl), ⟨by decide, by decide, by decide +kernel⟩, by decide⟩
theorem mvX9_plainBlows : 9 < 13 ∧ (tq_cl 9).1 = mX9_plainBlows.1.cls ∧ Cond.instanceMethod mX9_plainBlows.1 ∈ lw_tbl ∧ Cond.selects mX9_plainBlows.1.cls mX9_plainBlows.1 mX9_plainBlows.1 ∈ lw_tbl := ⟨by decide, rfl, tq_sg5 _ (List.mem_of_getElem? (i := 238) rfl), tq_sg5 _ (List.mem_of_getElem? (i := 239) rfl)⟩
theorem l_X11_347 : tq_lok RX11 347 mX9_plainBlows.1 := Or.inl (tq_sg5 _ (List.mem_of_getElem? (i := 237) rfl))
theorem l_X11_350 : tq_lok RX11 350 mX9_rankOf.1 := Or.inl (tq_sg6 _ (List.mem_of_getElem? (i := 2) rfl))
theorem rX11_plain_0 : tq_D cX11_plain 0 (.aload_n 0) 1 1 := ⟨by decide +kernel, rfl⟩
theorem rX11_plain_1 : tq_D cX11_plain 1 (.getfield 10) 3 4 := ⟨by decide +kernel, rfl⟩
theorem rX11_plain_4 : tq_D cX11_plain 4 (.iload_n 1) 1 5 := ⟨by decide +kernel, rfl⟩
theorem rX11_plain_5 : tq_D cX11_plain 5 (.invokevirtual 270) 3 8 := ⟨by decide +kernel, rfl⟩
theorem rX11_plain_8 : tq_D cX11_plain 8 (.astore_n 3) 1 9 := ⟨by decide +kernel, rfl⟩
theorem rX11_plain_9 : tq_D cX11_plain 9 (.aload_n 3) 1 10 := ⟨by decide +kernel, rfl⟩
theorem rX11_plain_10 : tq_J cX11_plain 10 .ifnonnull 15 13 := ⟨5, by decide +kernel, by decide, rfl⟩
theorem rX11_plain_13 : tq_D cX11_plain 13 (.iconst (-1)) 1 14 := ⟨by decide +kernel, rfl⟩
theorem rX11_plain_14 : decode cX11_plain 14 = .ok (.ireturn, 1) := by decide +kernel
theorem rX11_plain_15 : tq_D cX11_plain 15 (.iload_n 2) 1 16 := ⟨by decide +kernel, rfl⟩
theorem rX11_plain_16 : tq_D cX11_plain 16 (.iconst (-1)) 1 17 := ⟨by decide +kernel, rfl⟩
theorem rX11_plain_17 : tq_J cX11_plain 17 (.if_icmp .ne) 27 20 := ⟨10, by decide +kernel, by decide, rfl⟩
theorem rX11_plain_20 : tq_D cX11_plain 20 (.aload_n 3) 1 21 := ⟨by decide +kernel, rfl⟩
theorem rX11_plain_21 : tq_D cX11_plain 21 (.invokevirtual 347) 3 24 := ⟨by decide +kernel, rfl⟩
theorem rX11_plain_24 : tq_J cX11_plain 24 .goto 32 27 := ⟨8, by decide +kernel, by decide, rfl⟩
theorem rX11_plain_27 : tq_D cX11_plain 27 (.aload_n 3) 1 28 := ⟨by decide +kernel, rfl⟩
theorem rX11_plain_28 : tq_D cX11_plain 28 (.iload_n 2) 1 29 := ⟨by decide +kernel, rfl⟩
theorem rX11_plain_29 : tq_D cX11_plain 29 (.invokevirtual 350) 3 32 := ⟨by decide +kernel, rfl⟩
theorem rX11_plain_32 : decode cX11_plain 32 = .ok (.ireturn, 1) := by decide +kernel
noncomputable def FX11_plain (I : tq_PI) (L : tq_PL) (a0 : Nat) (a1 : Int32) (a2 : Int32) : Option (Int32) :=
  ((FX0_talkAt I L ((tq_rg a0 0)) a1).bind fun p1 =>  (p1.elim (some (-1 : Int32)) (fun t2 => (if a2 = (-1 : Int32) then ((FX9_plainBlows I L t2).bind fun p5 => some p5) else ((FX9_rankOf I L t2 a2).bind fun p4 => some p4)))))
set_option maxRecDepth 100000 in
set_option maxHeartbeats 4000000 in
theorem CX11_plain {S : Nat × (Nat → Int32)} {d : Nat} {I : tq_PI} {L : tq_PL} {a0 : Nat} {a1 : Int32} {a2 : Int32} (h0 : tq_sh0 a0 = 11) {out : Int32} (hf : FX11_plain I L a0 a1 a2 = some out) : tq_K S mX11_plain (d + 3) [.ref a0, .int a1, .int a2] I L (tq_one2 (some (.int out)) I L) := by
  unfold FX11_plain at hf
  refine tq_K_of (by decide) (Nat.le_of_ble_eq_true rfl) (ls := [.ref a0, .int a1, .int a2, tq_u]) rfl ?_
  refine tq_aload_n rX11_plain_0 rfl ?_
  refine ty_getR rX11_plain_1 f_X11_10 rfl h0 (hp_11_0 h0).1 ?_
  refine tq_iload_n rX11_plain_4 rfl ?_
  obtain ⟨p1, e1, hf⟩ := Option.bind_eq_some_iff.mp hf
  refine ty_callVA p1 ([.int a1]) ([]) rX11_plain_5 l_X11_270 moX0_talkAt mvX0_talkAt (hp_11_0 h0).2.1 rfl rfl (Nat.le_of_ble_eq_true rfl) ⟨rfl, rfl⟩ (CX0_talkAt (hp_11_0 h0).2.1 e1) ?_
  rcases tq_oelim hf with ⟨t2q, hf⟩ | ⟨t2, t2q, hf⟩
  · rw [t2q]
    refine tq_astoreN_n ([.ref a0, .int a1, .int a2, .null]) rX11_plain_8 (Nat.le_of_ble_eq_true rfl) rfl ?_
    refine tq_aloadN_n rX11_plain_9 rfl ?_
    refine tq_ifnonnullN rX11_plain_10 ?_
    refine tq_iconst (-1 : Int32) rX11_plain_13 (by decide) ?_
    refine ty_iret rX11_plain_14 rfl rfl ?_
    have hf := Option.some.inj hf
    subst hf
    exact ⟨rfl, rfl, rfl⟩
  · have t2h := RX0_talkAt (hp_11_0 h0).2.1 e1 t2q
    rw [t2q]
    refine tq_astore_n ([.ref a0, .int a1, .int a2, .ref t2]) rX11_plain_8 (Nat.le_of_ble_eq_true rfl) rfl ?_
    refine tq_aload_n rX11_plain_9 rfl ?_
    refine tq_ifnonnullR rX11_plain_10 ?_
    refine tq_iload_n rX11_plain_15 rfl ?_
    refine tq_iconst (-1 : Int32) rX11_plain_16 (by decide) ?_
    refine tq_icmp_ne rX11_plain_17 (fun c3 => ?_) (fun c3 => ?_)
    · rw [if_neg c3] at hf
      refine tq_aload_n rX11_plain_27 rfl ?_
      refine tq_iload_n rX11_plain_28 rfl ?_
      obtain ⟨p4, e4, hf⟩ := Option.bind_eq_some_iff.mp hf
      refine ty_callVI p4 ([.int a2]) ([]) rX11_plain_29 l_X11_350 moX9_rankOf mvX9_rankOf t2h rfl rfl (Nat.le_of_ble_eq_true rfl) ⟨rfl, rfl⟩ (CX9_rankOf t2h e4) ?_
      refine ty_iret rX11_plain_32 rfl rfl ?_
      have hf := Option.some.inj hf
      subst hf
      exact ⟨rfl, rfl, rfl⟩
    · rw [if_pos c3] at hf
      refine tq_aload_n rX11_plain_20 rfl ?_
      obtain ⟨p5, e5, hf⟩ := Option.bind_eq_some_iff.mp hf
      refine ty_callVI p5 ([]) ([]) rX11_plain_21 l_X11_347 moX9_plainBlows mvX9_plainBlows t2h rfl rfl (Nat.le_of_ble_eq_true rfl) ⟨rfl, rfl⟩ (CX9_plainBlows t2h e5) ?_
      refine tq_goto rX11_plain_24 ?_
      refine ty_iret rX11_plain_32 rfl rfl ?_
      have hf := Option.some.inj hf
      subst hf
      exact ⟨rfl, rfl, rfl⟩

