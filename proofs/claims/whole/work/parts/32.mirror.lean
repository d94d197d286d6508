/-! THE MIRROR, part 12: by program (wip/whole/gen_mirror.py). -/
abbrev mX12_talk : tq_M := (yX12_talk, cX12_talk, 3, (Option.some Jvm.ClassFile.FieldType.int), 0, 0)
theorem moX12_codeOf : tq_mok mX12_codeOf 0 := ⟨tq_sg1 _ (List.mem_of_getElem? (i := 13) rfl), tq_sg8 _ (List.mem_of_getElem? (i := 161) rfl), ⟨by decide, by decide, by decide +kernel⟩, by decide⟩
theorem mvX12_codeOf : 12 < 13 ∧ (tq_cl 12).1 = mX12_codeOf.1.cls ∧ Cond.instanceMethod mX12_codeOf.1 ∈ lw_tbl ∧ Cond.selects mX12_codeOf.1.cls mX12_codeOf.1 mX12_codeOf.1 ∈ lw_tbl := ⟨by decide, rfl, tq_sg8 _ (List.mem_of_getElem? (i := 160) rfl), List.mem_append_left _ (List.mem_map.mpr ⟨_, List.mem_of_getElem? (i := 108) rfl, rfl⟩)⟩
theorem l_X12_403 : tq_lok RX12 403 mX12_codeOf.1 := Or.inl (tq_sg8 _ (List.mem_of_getElem? (i := 158) rfl))
theorem rX12_talk_0 : tq_D cX12_talk 0 (.aload_n 0) 1 1 := ⟨by decide +kernel, rfl⟩
theorem rX12_talk_1 : tq_D cX12_talk 1 (.iconst 3) 1 2 := ⟨by decide +kernel, rfl⟩
theorem rX12_talk_2 : tq_D cX12_talk 2 (.iload_n 1) 1 3 := ⟨by decide +kernel, rfl⟩
theorem rX12_talk_3 : tq_D cX12_talk 3 (.invokevirtual 157) 3 6 := ⟨by decide +kernel, rfl⟩
theorem rX12_talk_6 : tq_J cX12_talk 6 (.ifCond .ne) 11 9 := ⟨5, by decide +kernel, by decide, rfl⟩
theorem rX12_talk_9 : tq_D cX12_talk 9 (.iconst (-1)) 1 10 := ⟨by decide +kernel, rfl⟩
theorem rX12_talk_10 : decode cX12_talk 10 = .ok (.ireturn, 1) := by decide +kernel
theorem rX12_talk_11 : tq_D cX12_talk 11 (.aload_n 0) 1 12 := ⟨by decide +kernel, rfl⟩
theorem rX12_talk_12 : tq_D cX12_talk 12 (.iconst 3) 1 13 := ⟨by decide +kernel, rfl⟩
theorem rX12_talk_13 : tq_D cX12_talk 13 (.iload_n 1) 1 14 := ⟨by decide +kernel, rfl⟩
theorem rX12_talk_14 : tq_D cX12_talk 14 (.invokestatic 184) 3 17 := ⟨by decide +kernel, rfl⟩
theorem rX12_talk_17 : tq_D cX12_talk 17 (.putfield 399) 3 20 := ⟨by decide +kernel, rfl⟩
theorem rX12_talk_20 : tq_D cX12_talk 20 (.iload_n 2) 1 21 := ⟨by decide +kernel, rfl⟩
theorem rX12_talk_21 : tq_D cX12_talk 21 (.iconst (-1)) 1 22 := ⟨by decide +kernel, rfl⟩
theorem rX12_talk_22 : tq_J cX12_talk 22 (.if_icmp .ne) 35 25 := ⟨13, by decide +kernel, by decide, rfl⟩
theorem rX12_talk_25 : tq_D cX12_talk 25 (.aload_n 0) 1 26 := ⟨by decide +kernel, rfl⟩
theorem rX12_talk_26 : tq_D cX12_talk 26 (.getfield 7) 3 29 := ⟨by decide +kernel, rfl⟩
theorem rX12_talk_29 : tq_D cX12_talk 29 (.aload_n 0) 1 30 := ⟨by decide +kernel, rfl⟩
theorem rX12_talk_30 : tq_D cX12_talk 30 (.getfield 399) 3 33 := ⟨by decide +kernel, rfl⟩
theorem rX12_talk_33 : tq_D cX12_talk 33 (.iaload) 1 34 := ⟨by decide +kernel, rfl⟩
theorem rX12_talk_34 : decode cX12_talk 34 = .ok (.ireturn, 1) := by decide +kernel
theorem rX12_talk_35 : tq_D cX12_talk 35 (.iload_n 2) 1 36 := ⟨by decide +kernel, rfl⟩
theorem rX12_talk_36 : tq_D cX12_talk 36 (.bipush (-2)) 2 38 := ⟨by decide +kernel, rfl⟩
theorem rX12_talk_38 : tq_J cX12_talk 38 (.if_icmp .ne) 48 41 := ⟨10, by decide +kernel, by decide, rfl⟩
theorem rX12_talk_41 : tq_D cX12_talk 41 (.aload_n 0) 1 42 := ⟨by decide +kernel, rfl⟩
theorem rX12_talk_42 : tq_D cX12_talk 42 (.invokevirtual 403) 3 45 := ⟨by decide +kernel, rfl⟩
theorem rX12_talk_45 : tq_J cX12_talk 45 .goto 84 48 := ⟨39, by decide +kernel, by decide, rfl⟩
theorem rX12_talk_48 : tq_D cX12_talk 48 (.iload_n 2) 1 49 := ⟨by decide +kernel, rfl⟩
theorem rX12_talk_49 : tq_D cX12_talk 49 (.iconst 0) 1 50 := ⟨by decide +kernel, rfl⟩
theorem rX12_talk_50 : tq_D cX12_talk 50 (.aload_n 0) 1 51 := ⟨by decide +kernel, rfl⟩
theorem rX12_talk_51 : tq_D cX12_talk 51 (.getfield 7) 3 54 := ⟨by decide +kernel, rfl⟩
theorem rX12_talk_54 : tq_D cX12_talk 54 (.aload_n 0) 1 55 := ⟨by decide +kernel, rfl⟩
theorem rX12_talk_55 : tq_D cX12_talk 55 (.getfield 399) 3 58 := ⟨by decide +kernel, rfl⟩
theorem rX12_talk_58 : tq_D cX12_talk 58 (.iaload) 1 59 := ⟨by decide +kernel, rfl⟩
theorem rX12_talk_59 : tq_D cX12_talk 59 (.iconst 1) 1 60 := ⟨by decide +kernel, rfl⟩
theorem rX12_talk_60 : tq_D cX12_talk 60 (.isub) 1 61 := ⟨by decide +kernel, rfl⟩
theorem rX12_talk_61 : tq_D cX12_talk 61 (.invokestatic 118) 3 64 := ⟨by decide +kernel, rfl⟩
theorem rX12_talk_64 : tq_J cX12_talk 64 (.ifCond .eq) 83 67 := ⟨19, by decide +kernel, by decide, rfl⟩
theorem rX12_talk_67 : tq_D cX12_talk 67 (.aload_n 0) 1 68 := ⟨by decide +kernel, rfl⟩
theorem rX12_talk_68 : tq_D cX12_talk 68 (.getfield 7) 3 71 := ⟨by decide +kernel, rfl⟩
theorem rX12_talk_71 : tq_D cX12_talk 71 (.aload_n 0) 1 72 := ⟨by decide +kernel, rfl⟩
theorem rX12_talk_72 : tq_D cX12_talk 72 (.getfield 399) 3 75 := ⟨by decide +kernel, rfl⟩
theorem rX12_talk_75 : tq_D cX12_talk 75 (.iconst 1) 1 76 := ⟨by decide +kernel, rfl⟩
theorem rX12_talk_76 : tq_D cX12_talk 76 (.iadd) 1 77 := ⟨by decide +kernel, rfl⟩
theorem rX12_talk_77 : tq_D cX12_talk 77 (.iload_n 2) 1 78 := ⟨by decide +kernel, rfl⟩
theorem rX12_talk_78 : tq_D cX12_talk 78 (.iadd) 1 79 := ⟨by decide +kernel, rfl⟩
theorem rX12_talk_79 : tq_D cX12_talk 79 (.iaload) 1 80 := ⟨by decide +kernel, rfl⟩
theorem rX12_talk_80 : tq_J cX12_talk 80 .goto 84 83 := ⟨4, by decide +kernel, by decide, rfl⟩
theorem rX12_talk_83 : tq_D cX12_talk 83 (.iconst (-1)) 1 84 := ⟨by decide +kernel, rfl⟩
theorem rX12_talk_84 : decode cX12_talk 84 = .ok (.ireturn, 1) := by decide +kernel
noncomputable def FX12_talk (I : tq_PI) (L : tq_PL) (a0 : Nat) (a1 : Int32) (a2 : Int32) : Option (Int32 × tq_PI) :=
  ((FX12_isOf I L a0 ((3 : Int32)) a1).bind fun p1 => (if (tq_b p1) = 0 then some ((-1 : Int32), I) else (tq_let (FX12_placeOf I L ((3 : Int32)) a1) fun p3 => (if a2 = (-1 : Int32) then (if 0 ≤ (((tq_up2 I a0 35 p3)) a0 35) ∧ (((tq_up2 I a0 35 p3)) a0 35) < 4016 then some ((((tq_up2 I a0 35 p3)) (tq_rg a0 0) ((((tq_up2 I a0 35 p3)) a0 35)).toNatClampNeg), (tq_up2 I a0 35 p3)) else none) else (if a2 = (-2 : Int32) then ((FX12_codeOf ((tq_up2 I a0 35 p3)) L a0).bind fun p10 => some (p10.1, p10.2)) else (if 0 ≤ (((tq_up2 I a0 35 p3)) a0 35) ∧ (((tq_up2 I a0 35 p3)) a0 35) < 4016 then (tq_let (FX12_isIn ((tq_up2 I a0 35 p3)) L a2 ((0 : Int32)) (((((tq_up2 I a0 35 p3)) (tq_rg a0 0) ((((tq_up2 I a0 35 p3)) a0 35)).toNatClampNeg) - (1 : Int32)))) fun p7 => (if (tq_b p7) = 0 then some ((-1 : Int32), (tq_up2 I a0 35 p3)) else (if 0 ≤ (((((tq_up2 I a0 35 p3)) a0 35) + (1 : Int32)) + a2) ∧ (((((tq_up2 I a0 35 p3)) a0 35) + (1 : Int32)) + a2) < 4016 then some ((((tq_up2 I a0 35 p3)) (tq_rg a0 0) ((((((tq_up2 I a0 35 p3)) a0 35) + (1 : Int32)) + a2)).toNatClampNeg), (tq_up2 I a0 35 p3)) else none))) else none))))))
set_option maxRecDepth 100000 in
set_option maxHeartbeats 4000000 in
theorem CX12_talk {S : Nat × (Nat → Int32)} {d : Nat} {I : tq_PI} {L : tq_PL} {a0 : Nat} {a1 : Int32} {a2 : Int32} (h0 : tq_sh0 a0 = 12) {out : Int32 × tq_PI} (hf : FX12_talk I L a0 a1 a2 = some out) : tq_K S mX12_talk (d + 2) [.ref a0, .int a1, .int a2] I L (tq_one2 (some (.int out.1)) out.2 L) := by
  unfold FX12_talk at hf
  refine tq_K_of (by decide) (Nat.le_of_ble_eq_true rfl) (ls := [.ref a0, .int a1, .int a2]) rfl ?_
  refine tq_aload_n rX12_talk_0 rfl ?_
  refine tq_iconst (3 : Int32) rX12_talk_1 (by decide) ?_
  refine tq_iload_n rX12_talk_2 rfl ?_
  obtain ⟨p1, e1, hf⟩ := Option.bind_eq_some_iff.mp hf
  refine ty_callVI (tq_b p1) ([.int (3 : Int32), .int a1]) ([]) rX12_talk_3 l_X12_157 moX12_isOf mvX12_isOf h0 rfl rfl (Nat.le_of_ble_eq_true rfl) ⟨rfl, rfl⟩ (CX12_isOf h0 e1) ?_
  refine tq_if_ne rX12_talk_6 (fun c2 => ?_) (fun c2 => ?_)
  · rw [if_neg c2] at hf
    refine tq_aload_n rX12_talk_11 rfl ?_
    refine tq_iconst (3 : Int32) rX12_talk_12 (by decide) ?_
    refine tq_iload_n rX12_talk_13 rfl ?_
    obtain ⟨p3, e3, hf⟩ := tq_let_elim hf
    refine ty_callSI p3 ([.int (3 : Int32), .int a1]) ([.ref a0]) rX12_talk_14 l_X12_184 moX12_placeOf msX12_placeOf rfl rfl (Nat.le_of_ble_eq_true rfl) ⟨rfl, rfl⟩ (CX12_placeOf  e3) ?_
    refine ty_putI rX12_talk_17 f_X12_399 rfl h0 rfl ?_
    refine tq_iload_n rX12_talk_20 rfl ?_
    refine tq_iconst (-1 : Int32) rX12_talk_21 (by decide) ?_
    refine tq_icmp_ne rX12_talk_22 (fun c4 => ?_) (fun c4 => ?_)
    · rw [if_neg c4] at hf
      refine tq_iload_n rX12_talk_35 rfl ?_
      refine tq_bipush (-2 : Int32) rX12_talk_36 (by decide) ?_
      refine tq_icmp_ne rX12_talk_38 (fun c5 => ?_) (fun c5 => ?_)
      · rw [if_neg c5] at hf
        refine tq_iload_n rX12_talk_48 rfl ?_
        refine tq_iconst (0 : Int32) rX12_talk_49 (by decide) ?_
        refine tq_aload_n rX12_talk_50 rfl ?_
        refine ty_getR rX12_talk_51 f_X12_7 rfl h0 (hp_12_0 h0).1 ?_
        refine tq_aload_n rX12_talk_54 rfl ?_
        refine ty_getI rX12_talk_55 f_X12_399 rfl h0 ?_
        obtain ⟨g6, hf⟩ := tq_chk hf
        refine ty_iald (v := 4016) rX12_talk_58 (hp_12_0 h0).2.1 (hp_12_0 h0).2.2 rfl (by decide) g6 ?_
        refine tq_iconst (1 : Int32) rX12_talk_59 (by decide) ?_
        refine tq_isub rX12_talk_60 ?_
        obtain ⟨p7, e7, hf⟩ := tq_let_elim hf
        refine ty_callSI (tq_b p7) ([.int a2, .int (0 : Int32), .int ((((tq_up2 I a0 35 p3)) (tq_rg a0 0) ((((tq_up2 I a0 35 p3)) a0 35)).toNatClampNeg) - (1 : Int32))]) ([]) rX12_talk_61 l_X12_118 moX12_isIn msX12_isIn rfl rfl (Nat.le_of_ble_eq_true rfl) ⟨rfl, rfl⟩ (CX12_isIn  e7) ?_
        refine tq_if_eq rX12_talk_64 (fun c8 => ?_) (fun c8 => ?_)
        · rw [if_pos c8] at hf
          refine tq_iconst (-1 : Int32) rX12_talk_83 (by decide) ?_
          refine ty_iret rX12_talk_84 rfl rfl ?_
          have hf := Option.some.inj hf
          subst hf
          exact ⟨rfl, rfl, rfl⟩
        · rw [if_neg c8] at hf
          refine tq_aload_n rX12_talk_67 rfl ?_
          refine ty_getR rX12_talk_68 f_X12_7 rfl h0 (hp_12_0 h0).1 ?_
          refine tq_aload_n rX12_talk_71 rfl ?_
          refine ty_getI rX12_talk_72 f_X12_399 rfl h0 ?_
          refine tq_iconst (1 : Int32) rX12_talk_75 (by decide) ?_
          refine tq_iadd rX12_talk_76 ?_
          refine tq_iload_n rX12_talk_77 rfl ?_
          refine tq_iadd rX12_talk_78 ?_
          obtain ⟨g9, hf⟩ := tq_chk hf
          refine ty_iald (v := 4016) rX12_talk_79 (hp_12_0 h0).2.1 (hp_12_0 h0).2.2 rfl (by decide) g9 ?_
          refine tq_goto rX12_talk_80 ?_
          refine ty_iret rX12_talk_84 rfl rfl ?_
          have hf := Option.some.inj hf
          subst hf
          exact ⟨rfl, rfl, rfl⟩
      · rw [if_pos c5] at hf
        refine tq_aload_n rX12_talk_41 rfl ?_
        obtain ⟨p10, e10, hf⟩ := Option.bind_eq_some_iff.mp hf
        refine ty_callVI p10.1 ([]) ([]) rX12_talk_42 l_X12_403 moX12_codeOf mvX12_codeOf h0 rfl rfl (Nat.le_of_ble_eq_true rfl) ⟨rfl, rfl⟩ (CX12_codeOf h0 e10) ?_
        refine tq_goto rX12_talk_45 ?_
        refine ty_iret rX12_talk_84 rfl rfl ?_
        have hf := Option.some.inj hf
        subst hf
        exact ⟨rfl, rfl, rfl⟩
    · rw [if_pos c4] at hf
      refine tq_aload_n rX12_talk_25 rfl ?_
      refine ty_getR rX12_talk_26 f_X12_7 rfl h0 (hp_12_0 h0).1 ?_
      refine tq_aload_n rX12_talk_29 rfl ?_
      refine ty_getI rX12_talk_30 f_X12_399 rfl h0 ?_
      obtain ⟨g11, hf⟩ := tq_chk hf
      refine ty_iald (v := 4016) rX12_talk_33 (hp_12_0 h0).2.1 (hp_12_0 h0).2.2 rfl (by decide) g11 ?_
      refine ty_iret rX12_talk_34 rfl rfl ?_
      have hf := Option.some.inj hf
      subst hf
      exact ⟨rfl, rfl, rfl⟩
  · rw [if_pos c2] at hf
    refine tq_iconst (-1 : Int32) rX12_talk_9 (by decide) ?_
    refine ty_iret rX12_talk_10 rfl rfl ?_
    have hf := Option.some.inj hf
    subst hf
    exact ⟨rfl, rfl, rfl⟩

abbrev mX12_ofWord : tq_M := (yX12_ofWord, cX12_ofWord, 2, (Option.some Jvm.ClassFile.FieldType.int), 0, 0)
theorem rX12_ofWord_0 : tq_D cX12_ofWord 0 (.aload_n 0) 1 1 := ⟨by decide +kernel, rfl⟩
theorem rX12_ofWord_1 : tq_D cX12_ofWord 1 (.getfield 7) 3 4 := ⟨by decide +kernel, rfl⟩
theorem rX12_ofWord_4 : tq_D cX12_ofWord 4 (.aload_n 0) 1 5 := ⟨by decide +kernel, rfl⟩
theorem rX12_ofWord_5 : tq_D cX12_ofWord 5 (.getfield 399) 3 8 := ⟨by decide +kernel, rfl⟩
theorem rX12_ofWord_8 : tq_D cX12_ofWord 8 (.iconst 1) 1 9 := ⟨by decide +kernel, rfl⟩
theorem rX12_ofWord_9 : tq_D cX12_ofWord 9 (.iadd) 1 10 := ⟨by decide +kernel, rfl⟩
theorem rX12_ofWord_10 : tq_D cX12_ofWord 10 (.iload_n 1) 1 11 := ⟨by decide +kernel, rfl⟩
theorem rX12_ofWord_11 : tq_D cX12_ofWord 11 (.iadd) 1 12 := ⟨by decide +kernel, rfl⟩
theorem rX12_ofWord_12 : tq_D cX12_ofWord 12 (.iaload) 1 13 := ⟨by decide +kernel, rfl⟩
theorem rX12_ofWord_13 : decode cX12_ofWord 13 = .ok (.ireturn, 1) := by decide +kernel
noncomputable def FX12_ofWord (I : tq_PI) (L : tq_PL) (a0 : Nat) (a1 : Int32) : Option (Int32) :=
  (if 0 ≤ (((I a0 35) + (1 : Int32)) + a1) ∧ (((I a0 35) + (1 : Int32)) + a1) < 4016 then some (I (tq_rg a0 0) ((((I a0 35) + (1 : Int32)) + a1)).toNatClampNeg) else none)
set_option maxRecDepth 100000 in
set_option maxHeartbeats 4000000 in
theorem CX12_ofWord {S : Nat × (Nat → Int32)} {d : Nat} {I : tq_PI} {L : tq_PL} {a0 : Nat} {a1 : Int32} (h0 : tq_sh0 a0 = 12) {out : Int32} (hf : FX12_ofWord I L a0 a1 = some out) : tq_K S mX12_ofWord d [.ref a0, .int a1] I L (tq_one2 (some (.int out)) I L) := by
  unfold FX12_ofWord at hf
  refine tq_K_of (by decide) (Nat.le_of_ble_eq_true rfl) (ls := [.ref a0, .int a1]) rfl ?_
  refine tq_aload_n rX12_ofWord_0 rfl ?_
  refine ty_getR rX12_ofWord_1 f_X12_7 rfl h0 (hp_12_0 h0).1 ?_
  refine tq_aload_n rX12_ofWord_4 rfl ?_
  refine ty_getI rX12_ofWord_5 f_X12_399 rfl h0 ?_
  refine tq_iconst (1 : Int32) rX12_ofWord_8 (by decide) ?_
  refine tq_iadd rX12_ofWord_9 ?_
  refine tq_iload_n rX12_ofWord_10 rfl ?_
  refine tq_iadd rX12_ofWord_11 ?_
  obtain ⟨g1, hf⟩ := tq_chk hf
  refine ty_iald (v := 4016) rX12_ofWord_12 (hp_12_0 h0).2.1 (hp_12_0 h0).2.2 rfl (by decide) g1 ?_
  refine ty_iret rX12_ofWord_13 rfl rfl ?_
  have hf := Option.some.inj hf
  subst hf
  exact ⟨rfl, rfl, rfl⟩

abbrev mX12_blowsFor : tq_M := (yX12_blowsFor, cX12_blowsFor, 4, (Option.some Jvm.ClassFile.FieldType.int), 0, 0)
theorem moX12_ofWord : tq_mok mX12_ofWord 1 := ⟨tq_sg1 _ (List.mem_of_getElem? (i := 13) rfl), tq_sg8 _ (List.mem_of_getElem? (i := 178) rfl), ⟨by decide, by decide, by decide +kernel⟩, by decide⟩
theorem mvX12_ofWord : 12 < 13 ∧ (tq_cl 12).1 = mX12_ofWord.1.cls ∧ Cond.instanceMethod mX12_ofWord.1 ∈ lw_tbl ∧ Cond.selects mX12_ofWord.1.cls mX12_ofWord.1 mX12_ofWord.1 ∈ lw_tbl := ⟨by decide, rfl, tq_sg8 _ (List.mem_of_getElem? (i := 177) rfl), List.mem_append_left _ (List.mem_map.mpr ⟨_, List.mem_of_getElem? (i := 110) rfl, rfl⟩)⟩
theorem l_X12_406 : tq_lok RX12 406 mX12_ofWord.1 := Or.inl (tq_sg8 _ (List.mem_of_getElem? (i := 175) rfl))
theorem rX12_blowsFor_0 : tq_D cX12_blowsFor 0 (.iconst 1) 1 1 := ⟨by decide +kernel, rfl⟩
theorem rX12_blowsFor_1 : tq_D cX12_blowsFor 1 (.istore_n 2) 1 2 := ⟨by decide +kernel, rfl⟩
theorem rX12_blowsFor_2 : tq_D cX12_blowsFor 2 (.iconst 0) 1 3 := ⟨by decide +kernel, rfl⟩
theorem rX12_blowsFor_3 : tq_D cX12_blowsFor 3 (.istore_n 3) 1 4 := ⟨by decide +kernel, rfl⟩
theorem rX12_blowsFor_4 : tq_D cX12_blowsFor 4 (.iload_n 3) 1 5 := ⟨by decide +kernel, rfl⟩
theorem rX12_blowsFor_5 : tq_D cX12_blowsFor 5 (.aload_n 0) 1 6 := ⟨by decide +kernel, rfl⟩
theorem rX12_blowsFor_6 : tq_D cX12_blowsFor 6 (.getfield 7) 3 9 := ⟨by decide +kernel, rfl⟩
theorem rX12_blowsFor_9 : tq_D cX12_blowsFor 9 (.aload_n 0) 1 10 := ⟨by decide +kernel, rfl⟩
theorem rX12_blowsFor_10 : tq_D cX12_blowsFor 10 (.getfield 399) 3 13 := ⟨by decide +kernel, rfl⟩
theorem rX12_blowsFor_13 : tq_D cX12_blowsFor 13 (.iaload) 1 14 := ⟨by decide +kernel, rfl⟩
theorem rX12_blowsFor_14 : tq_J cX12_blowsFor 14 (.if_icmp .ge) 62 17 := ⟨48, by decide +kernel, by decide, rfl⟩
theorem rX12_blowsFor_17 : tq_D cX12_blowsFor 17 (.iload_n 2) 1 18 := ⟨by decide +kernel, rfl⟩
theorem rX12_blowsFor_18 : tq_D cX12_blowsFor 18 (.aload_n 0) 1 19 := ⟨by decide +kernel, rfl⟩
theorem rX12_blowsFor_19 : tq_D cX12_blowsFor 19 (.iload_n 3) 1 20 := ⟨by decide +kernel, rfl⟩
theorem rX12_blowsFor_20 : tq_D cX12_blowsFor 20 (.invokevirtual 406) 3 23 := ⟨by decide +kernel, rfl⟩
theorem rX12_blowsFor_23 : tq_D cX12_blowsFor 23 (.aload_n 0) 1 24 := ⟨by decide +kernel, rfl⟩
theorem rX12_blowsFor_24 : tq_D cX12_blowsFor 24 (.iload_n 1) 1 25 := ⟨by decide +kernel, rfl⟩
theorem rX12_blowsFor_25 : tq_D cX12_blowsFor 25 (.invokevirtual 406) 3 28 := ⟨by decide +kernel, rfl⟩
theorem rX12_blowsFor_28 : tq_J cX12_blowsFor 28 (.if_icmp .gt) 49 31 := ⟨21, by decide +kernel, by decide, rfl⟩
theorem rX12_blowsFor_31 : tq_D cX12_blowsFor 31 (.aload_n 0) 1 32 := ⟨by decide +kernel, rfl⟩
theorem rX12_blowsFor_32 : tq_D cX12_blowsFor 32 (.iload_n 3) 1 33 := ⟨by decide +kernel, rfl⟩
theorem rX12_blowsFor_33 : tq_D cX12_blowsFor 33 (.invokevirtual 406) 3 36 := ⟨by decide +kernel, rfl⟩
theorem rX12_blowsFor_36 : tq_D cX12_blowsFor 36 (.aload_n 0) 1 37 := ⟨by decide +kernel, rfl⟩
theorem rX12_blowsFor_37 : tq_D cX12_blowsFor 37 (.iload_n 1) 1 38 := ⟨by decide +kernel, rfl⟩
theorem rX12_blowsFor_38 : tq_D cX12_blowsFor 38 (.invokevirtual 406) 3 41 := ⟨by decide +kernel, rfl⟩
theorem rX12_blowsFor_41 : tq_J cX12_blowsFor 41 (.if_icmp .ne) 53 44 := ⟨12, by decide +kernel, by decide, rfl⟩
theorem rX12_blowsFor_44 : tq_D cX12_blowsFor 44 (.iload_n 3) 1 45 := ⟨by decide +kernel, rfl⟩
theorem rX12_blowsFor_45 : tq_D cX12_blowsFor 45 (.iload_n 1) 1 46 := ⟨by decide +kernel, rfl⟩
theorem rX12_blowsFor_46 : tq_J cX12_blowsFor 46 (.if_icmp .ge) 53 49 := ⟨7, by decide +kernel, by decide, rfl⟩
theorem rX12_blowsFor_49 : tq_D cX12_blowsFor 49 (.iconst 1) 1 50 := ⟨by decide +kernel, rfl⟩
theorem rX12_blowsFor_50 : tq_J cX12_blowsFor 50 .goto 54 53 := ⟨4, by decide +kernel, by decide, rfl⟩
theorem rX12_blowsFor_53 : tq_D cX12_blowsFor 53 (.iconst 0) 1 54 := ⟨by decide +kernel, rfl⟩
theorem rX12_blowsFor_54 : tq_D cX12_blowsFor 54 (.iadd) 1 55 := ⟨by decide +kernel, rfl⟩
theorem rX12_blowsFor_55 : tq_D cX12_blowsFor 55 (.istore_n 2) 1 56 := ⟨by decide +kernel, rfl⟩
theorem rX12_blowsFor_56 : tq_D cX12_blowsFor 56 (.iinc 3 1) 3 59 := ⟨by decide +kernel, rfl⟩
theorem rX12_blowsFor_59 : tq_J cX12_blowsFor 59 .goto 4 62 := ⟨(-55), by decide +kernel, by decide, rfl⟩
theorem rX12_blowsFor_62 : tq_D cX12_blowsFor 62 (.iload_n 2) 1 63 := ⟨by decide +kernel, rfl⟩
theorem rX12_blowsFor_63 : decode cX12_blowsFor 63 = .ok (.ireturn, 1) := by decide +kernel
noncomputable def FX12_blowsFor_j54L4 (I : tq_PI) (L : tq_PL) (a0 : Nat) (a1 : Int32) (a3 : Int32) (b0 : Int32) (b1 : Int32) : Option ((Int32 × Int32) ⊕ (Int32)) :=
  some (.inl ((b1 + b0), (a3 + 1)))
noncomputable def FX12_blowsFor_j49L4 (I : tq_PI) (L : tq_PL) (a0 : Nat) (a1 : Int32) (a3 : Int32) (b0 : Int32) : Option ((Int32 × Int32) ⊕ (Int32)) :=
  (FX12_blowsFor_j54L4 I L a0 a1 a3 ((1 : Int32)) b0)
noncomputable def FX12_blowsFor_j53L4 (I : tq_PI) (L : tq_PL) (a0 : Nat) (a1 : Int32) (a3 : Int32) (b0 : Int32) : Option ((Int32 × Int32) ⊕ (Int32)) :=
  (FX12_blowsFor_j54L4 I L a0 a1 a3 ((0 : Int32)) b0)
noncomputable def FX12_blowsFor_s4 (I : tq_PI) (L : tq_PL) (a0 : Nat) (a1 : Int32) (a2 : Int32) (a3 : Int32) : Option ((Int32 × Int32) ⊕ (Int32)) :=
  (if 0 ≤ (I a0 35) ∧ (I a0 35) < 4016 then (if (I (tq_rg a0 0) ((I a0 35)).toNatClampNeg) ≤ a3 then some (.inr a2) else ((FX12_ofWord I L a0 a3).bind fun p3 => ((FX12_ofWord I L a0 a1).bind fun p4 => (if p4 < p3 then (FX12_blowsFor_j49L4 I L a0 a1 a3 a2) else ((FX12_ofWord I L a0 a3).bind fun p6 => ((FX12_ofWord I L a0 a1).bind fun p7 => (if p6 = p7 then (if a1 ≤ a3 then (FX12_blowsFor_j53L4 I L a0 a1 a3 a2) else (FX12_blowsFor_j49L4 I L a0 a1 a3 a2)) else (FX12_blowsFor_j53L4 I L a0 a1 a3 a2)))))))) else none)
noncomputable def FX12_blowsFor (I : tq_PI) (L : tq_PL) (a0 : Nat) (a1 : Int32) : Option (Int32) :=
  ((tq_it (fun p : Int32 × Int32 => FX12_blowsFor_s4 I L a0 a1 p.1 p.2) tq_N ((1 : Int32), (0 : Int32))).bind fun p10 => some p10)
set_option maxRecDepth 100000 in
set_option maxHeartbeats 4000000 in
theorem FX12_blowsFor_j54L4_x {S : Nat × (Nat → Int32)} {d : Nat} {I : tq_PI} {L : tq_PL} {a0 : Nat} {a1 : Int32} {a3 : Int32} {b0 : Int32} {b1 : Int32} (h0 : tq_sh0 a0 = 12) {q0 : Option Value → tq_PI → tq_PL → Prop} {out : (Int32 × Int32) ⊕ (Int32)} (hf : FX12_blowsFor_j54L4 I L a0 a1 a3 b0 b1 = some out) (hk : Sum.elim (fun p : Int32 × Int32 => tq_X S mX12_blowsFor (d + 1) tq_k0 4 ([.ref a0, .int a1, .int p.1, .int p.2]) [] (tq_st I L) (tq_Q q0)) (fun p : Int32 => tq_X S mX12_blowsFor (d + 1) tq_k0 62 ([tq_u, tq_u, .int p, tq_u]) [] (tq_st I L) (tq_Q q0)) out) : tq_X S mX12_blowsFor (d + 1) tq_k0 54 ([.ref a0, .int a1, tq_u, .int a3]) ([.int b0, .int b1]) (tq_st I L) (tq_Q q0) := by
  unfold FX12_blowsFor_j54L4 at hf
  refine tq_iadd rX12_blowsFor_54 ?_
  refine tq_istore_n ([.ref a0, .int a1, .int (b1 + b0), .int a3]) rX12_blowsFor_55 (Nat.le_of_ble_eq_true rfl) rfl ?_
  refine tq_iinc (a3 + 1) ([.ref a0, .int a1, .int (b1 + b0), .int (a3 + 1)]) rX12_blowsFor_56 rfl (tq_inc (by decide)) (Nat.le_of_ble_eq_true rfl) rfl ?_
  refine tq_goto rX12_blowsFor_59 ?_
  have hf := Option.some.inj hf
  subst hf
  exact tq_forget _ (tq_le_s (tq_le_s (tq_le_s (tq_le_s tq_le_n)))) hk

set_option maxRecDepth 100000 in
set_option maxHeartbeats 4000000 in
theorem FX12_blowsFor_j49L4_x {S : Nat × (Nat → Int32)} {d : Nat} {I : tq_PI} {L : tq_PL} {a0 : Nat} {a1 : Int32} {a3 : Int32} {b0 : Int32} (h0 : tq_sh0 a0 = 12) {q0 : Option Value → tq_PI → tq_PL → Prop} {out : (Int32 × Int32) ⊕ (Int32)} (hf : FX12_blowsFor_j49L4 I L a0 a1 a3 b0 = some out) (hk : Sum.elim (fun p : Int32 × Int32 => tq_X S mX12_blowsFor (d + 1) tq_k0 4 ([.ref a0, .int a1, .int p.1, .int p.2]) [] (tq_st I L) (tq_Q q0)) (fun p : Int32 => tq_X S mX12_blowsFor (d + 1) tq_k0 62 ([tq_u, tq_u, .int p, tq_u]) [] (tq_st I L) (tq_Q q0)) out) : tq_X S mX12_blowsFor (d + 1) tq_k0 49 ([.ref a0, .int a1, tq_u, .int a3]) ([.int b0]) (tq_st I L) (tq_Q q0) := by
  unfold FX12_blowsFor_j49L4 at hf
  refine tq_iconst (1 : Int32) rX12_blowsFor_49 (by decide) ?_
  refine tq_goto rX12_blowsFor_50 ?_
  exact tq_forget _ (tq_le_s (tq_le_s (tq_le_u (tq_le_s tq_le_n)))) (FX12_blowsFor_j54L4_x  h0 hf hk)

set_option maxRecDepth 100000 in
set_option maxHeartbeats 4000000 in
theorem FX12_blowsFor_j53L4_x {S : Nat × (Nat → Int32)} {d : Nat} {I : tq_PI} {L : tq_PL} {a0 : Nat} {a1 : Int32} {a3 : Int32} {b0 : Int32} (h0 : tq_sh0 a0 = 12) {q0 : Option Value → tq_PI → tq_PL → Prop} {out : (Int32 × Int32) ⊕ (Int32)} (hf : FX12_blowsFor_j53L4 I L a0 a1 a3 b0 = some out) (hk : Sum.elim (fun p : Int32 × Int32 => tq_X S mX12_blowsFor (d + 1) tq_k0 4 ([.ref a0, .int a1, .int p.1, .int p.2]) [] (tq_st I L) (tq_Q q0)) (fun p : Int32 => tq_X S mX12_blowsFor (d + 1) tq_k0 62 ([tq_u, tq_u, .int p, tq_u]) [] (tq_st I L) (tq_Q q0)) out) : tq_X S mX12_blowsFor (d + 1) tq_k0 53 ([.ref a0, .int a1, tq_u, .int a3]) ([.int b0]) (tq_st I L) (tq_Q q0) := by
  unfold FX12_blowsFor_j53L4 at hf
  refine tq_iconst (0 : Int32) rX12_blowsFor_53 (by decide) ?_
  exact tq_forget _ (tq_le_s (tq_le_s (tq_le_u (tq_le_s tq_le_n)))) (FX12_blowsFor_j54L4_x  h0 hf hk)

set_option maxRecDepth 100000 in
set_option maxHeartbeats 4000000 in
theorem FX12_blowsFor_s4_x {S : Nat × (Nat → Int32)} {d : Nat} {I : tq_PI} {L : tq_PL} {a0 : Nat} {a1 : Int32} {a2 : Int32} {a3 : Int32} (h0 : tq_sh0 a0 = 12) {q0 : Option Value → tq_PI → tq_PL → Prop} {out : (Int32 × Int32) ⊕ (Int32)} (hf : FX12_blowsFor_s4 I L a0 a1 a2 a3 = some out) (hk : Sum.elim (fun p : Int32 × Int32 => tq_X S mX12_blowsFor (d + 1) tq_k0 4 ([.ref a0, .int a1, .int p.1, .int p.2]) [] (tq_st I L) (tq_Q q0)) (fun p : Int32 => tq_X S mX12_blowsFor (d + 1) tq_k0 62 ([tq_u, tq_u, .int p, tq_u]) [] (tq_st I L) (tq_Q q0)) out) : tq_X S mX12_blowsFor (d + 1) tq_k0 4 ([.ref a0, .int a1, .int a2, .int a3]) [] (tq_st I L) (tq_Q q0) := by
  unfold FX12_blowsFor_s4 at hf
  refine tq_iload_n rX12_blowsFor_4 rfl ?_
  refine tq_aload_n rX12_blowsFor_5 rfl ?_
  refine ty_getR rX12_blowsFor_6 f_X12_7 rfl h0 (hp_12_0 h0).1 ?_
  refine tq_aload_n rX12_blowsFor_9 rfl ?_
  refine ty_getI rX12_blowsFor_10 f_X12_399 rfl h0 ?_
  obtain ⟨g1, hf⟩ := tq_chk hf
  refine ty_iald (v := 4016) rX12_blowsFor_13 (hp_12_0 h0).2.1 (hp_12_0 h0).2.2 rfl (by decide) g1 ?_
  refine tq_icmp_ge rX12_blowsFor_14 (fun c2 => ?_) (fun c2 => ?_)
  · rw [if_pos c2] at hf
    have hf := Option.some.inj hf
    subst hf
    exact tq_forget _ (tq_le_u (tq_le_u (tq_le_s (tq_le_u tq_le_n)))) hk
  · rw [if_neg c2] at hf
    refine tq_iload_n rX12_blowsFor_17 rfl ?_
    refine tq_aload_n rX12_blowsFor_18 rfl ?_
    refine tq_iload_n rX12_blowsFor_19 rfl ?_
    obtain ⟨p3, e3, hf⟩ := Option.bind_eq_some_iff.mp hf
    refine ty_callVI p3 ([.int a3]) ([.int a2]) rX12_blowsFor_20 l_X12_406 moX12_ofWord mvX12_ofWord h0 rfl rfl (Nat.le_of_ble_eq_true rfl) ⟨rfl, rfl⟩ (CX12_ofWord h0 e3) ?_
    refine tq_aload_n rX12_blowsFor_23 rfl ?_
    refine tq_iload_n rX12_blowsFor_24 rfl ?_
    obtain ⟨p4, e4, hf⟩ := Option.bind_eq_some_iff.mp hf
    refine ty_callVI p4 ([.int a1]) ([.int p3, .int a2]) rX12_blowsFor_25 l_X12_406 moX12_ofWord mvX12_ofWord h0 rfl rfl (Nat.le_of_ble_eq_true rfl) ⟨rfl, rfl⟩ (CX12_ofWord h0 e4) ?_
    refine tq_icmp_gt rX12_blowsFor_28 (fun c5 => ?_) (fun c5 => ?_)
    · rw [if_pos c5] at hf
      exact tq_forget _ (tq_le_s (tq_le_s (tq_le_u (tq_le_s tq_le_n)))) (FX12_blowsFor_j49L4_x  h0 hf hk)
    · rw [if_neg c5] at hf
      refine tq_aload_n rX12_blowsFor_31 rfl ?_
      refine tq_iload_n rX12_blowsFor_32 rfl ?_
      obtain ⟨p6, e6, hf⟩ := Option.bind_eq_some_iff.mp hf
      refine ty_callVI p6 ([.int a3]) ([.int a2]) rX12_blowsFor_33 l_X12_406 moX12_ofWord mvX12_ofWord h0 rfl rfl (Nat.le_of_ble_eq_true rfl) ⟨rfl, rfl⟩ (CX12_ofWord h0 e6) ?_
      refine tq_aload_n rX12_blowsFor_36 rfl ?_
      refine tq_iload_n rX12_blowsFor_37 rfl ?_
      obtain ⟨p7, e7, hf⟩ := Option.bind_eq_some_iff.mp hf
      refine ty_callVI p7 ([.int a1]) ([.int p6, .int a2]) rX12_blowsFor_38 l_X12_406 moX12_ofWord mvX12_ofWord h0 rfl rfl (Nat.le_of_ble_eq_true rfl) ⟨rfl, rfl⟩ (CX12_ofWord h0 e7) ?_
      refine tq_icmp_ne rX12_blowsFor_41 (fun c8 => ?_) (fun c8 => ?_)
      · rw [if_neg c8] at hf
        exact tq_forget _ (tq_le_s (tq_le_s (tq_le_u (tq_le_s tq_le_n)))) (FX12_blowsFor_j53L4_x  h0 hf hk)
      · rw [if_pos c8] at hf
        refine tq_iload_n rX12_blowsFor_44 rfl ?_
        refine tq_iload_n rX12_blowsFor_45 rfl ?_
        refine tq_icmp_ge rX12_blowsFor_46 (fun c9 => ?_) (fun c9 => ?_)
        · rw [if_pos c9] at hf
          exact tq_forget _ (tq_le_s (tq_le_s (tq_le_u (tq_le_s tq_le_n)))) (FX12_blowsFor_j53L4_x  h0 hf hk)
        · rw [if_neg c9] at hf
          exact tq_forget _ (tq_le_s (tq_le_s (tq_le_u (tq_le_s tq_le_n)))) (FX12_blowsFor_j49L4_x  h0 hf hk)

set_option maxRecDepth 100000 in
set_option maxHeartbeats 4000000 in
theorem CX12_blowsFor {S : Nat × (Nat → Int32)} {d : Nat} {I : tq_PI} {L : tq_PL} {a0 : Nat} {a1 : Int32} (h0 : tq_sh0 a0 = 12) {out : Int32} (hf : FX12_blowsFor I L a0 a1 = some out) : tq_K S mX12_blowsFor (d + 1) [.ref a0, .int a1] I L (tq_one2 (some (.int out)) I L) := by
  unfold FX12_blowsFor at hf
  refine tq_K_of (by decide) (Nat.le_of_ble_eq_true rfl) (ls := [.ref a0, .int a1, tq_u, tq_u]) rfl ?_
  refine tq_iconst (1 : Int32) rX12_blowsFor_0 (by decide) ?_
  refine tq_istore_n ([.ref a0, .int a1, .int (1 : Int32), tq_u]) rX12_blowsFor_1 (Nat.le_of_ble_eq_true rfl) rfl ?_
  refine tq_iconst (0 : Int32) rX12_blowsFor_2 (by decide) ?_
  refine tq_istore_n ([.ref a0, .int a1, .int (1 : Int32), .int (0 : Int32)]) rX12_blowsFor_3 (Nat.le_of_ble_eq_true rfl) rfl ?_
  obtain ⟨p10, e10, hf⟩ := Option.bind_eq_some_iff.mp hf
  refine tq_forget _ (tq_le_s (tq_le_s (tq_le_s (tq_le_s tq_le_n)))) ?_
  refine tq_it_elim (P := fun p : Int32 × Int32 => tq_X S mX12_blowsFor (d + 1) tq_k0 4 ([.ref a0, .int a1, .int p.1, .int p.2]) [] (tq_st I L) (tq_Q (tq_one2 (some (.int out)) I L))) (R := fun p : Int32 => tq_X S mX12_blowsFor (d + 1) tq_k0 62 ([tq_u, tq_u, .int p, tq_u]) [] (tq_st I L) (tq_Q (tq_one2 (some (.int out)) I L))) (fun p o hp hk => FX12_blowsFor_s4_x  h0 hp hk) _ (((1 : Int32), (0 : Int32))) _ e10 ?_
  show tq_X _ _ _ _ _ _ _ _ _
  refine tq_iload_n rX12_blowsFor_62 rfl ?_
  refine ty_iret rX12_blowsFor_63 rfl rfl ?_
  have hf := Option.some.inj hf
  subst hf
  exact ⟨rfl, rfl, rfl⟩

abbrev mX12_deepest : tq_M := (yX12_deepest, cX12_deepest, 7, (Option.some Jvm.ClassFile.FieldType.int), 0, 0)
theorem rX12_deepest_0 : tq_D cX12_deepest 0 (.aload_n 0) 1 1 := ⟨by decide +kernel, rfl⟩
theorem rX12_deepest_1 : tq_D cX12_deepest 1 (.iconst 3) 1 2 := ⟨by decide +kernel, rfl⟩
theorem rX12_deepest_2 : tq_D cX12_deepest 2 (.iload_n 1) 1 3 := ⟨by decide +kernel, rfl⟩
theorem rX12_deepest_3 : tq_D cX12_deepest 3 (.invokevirtual 157) 3 6 := ⟨by decide +kernel, rfl⟩
theorem rX12_deepest_6 : tq_J cX12_deepest 6 (.ifCond .ne) 11 9 := ⟨5, by decide +kernel, by decide, rfl⟩
theorem rX12_deepest_9 : tq_D cX12_deepest 9 (.iconst (-1)) 1 10 := ⟨by decide +kernel, rfl⟩
theorem rX12_deepest_10 : decode cX12_deepest 10 = .ok (.ireturn, 1) := by decide +kernel
theorem rX12_deepest_11 : tq_D cX12_deepest 11 (.aload_n 0) 1 12 := ⟨by decide +kernel, rfl⟩
theorem rX12_deepest_12 : tq_D cX12_deepest 12 (.getfield 7) 3 15 := ⟨by decide +kernel, rfl⟩
theorem rX12_deepest_15 : tq_D cX12_deepest 15 (.iconst 3) 1 16 := ⟨by decide +kernel, rfl⟩
theorem rX12_deepest_16 : tq_D cX12_deepest 16 (.iload_n 1) 1 17 := ⟨by decide +kernel, rfl⟩
theorem rX12_deepest_17 : tq_D cX12_deepest 17 (.invokestatic 184) 3 20 := ⟨by decide +kernel, rfl⟩
theorem rX12_deepest_20 : tq_D cX12_deepest 20 (.iaload) 1 21 := ⟨by decide +kernel, rfl⟩
theorem rX12_deepest_21 : tq_D cX12_deepest 21 (.istore_n 2) 1 22 := ⟨by decide +kernel, rfl⟩
theorem rX12_deepest_22 : tq_D cX12_deepest 22 (.iload_n 2) 1 23 := ⟨by decide +kernel, rfl⟩
theorem rX12_deepest_23 : tq_D cX12_deepest 23 (.iconst 2) 1 24 := ⟨by decide +kernel, rfl⟩
theorem rX12_deepest_24 : tq_J cX12_deepest 24 (.if_icmp .ge) 29 27 := ⟨5, by decide +kernel, by decide, rfl⟩
theorem rX12_deepest_27 : tq_D cX12_deepest 27 (.iload_n 2) 1 28 := ⟨by decide +kernel, rfl⟩
theorem rX12_deepest_28 : decode cX12_deepest 28 = .ok (.ireturn, 1) := by decide +kernel
theorem rX12_deepest_29 : tq_D cX12_deepest 29 (.iconst 1) 1 30 := ⟨by decide +kernel, rfl⟩
theorem rX12_deepest_30 : tq_D cX12_deepest 30 (.istore_n 3) 1 31 := ⟨by decide +kernel, rfl⟩
theorem rX12_deepest_31 : tq_D cX12_deepest 31 (.iconst 1) 1 32 := ⟨by decide +kernel, rfl⟩
theorem rX12_deepest_32 : tq_D cX12_deepest 32 (.istore 4) 2 34 := ⟨by decide +kernel, rfl⟩
theorem rX12_deepest_34 : tq_D cX12_deepest 34 (.iconst 1) 1 35 := ⟨by decide +kernel, rfl⟩
theorem rX12_deepest_35 : tq_D cX12_deepest 35 (.istore 5) 2 37 := ⟨by decide +kernel, rfl⟩
theorem rX12_deepest_37 : tq_D cX12_deepest 37 (.iload_n 3) 1 38 := ⟨by decide +kernel, rfl⟩
theorem rX12_deepest_38 : tq_D cX12_deepest 38 (.iload_n 2) 1 39 := ⟨by decide +kernel, rfl⟩
theorem rX12_deepest_39 : tq_J cX12_deepest 39 (.if_icmp .ge) 60 42 := ⟨21, by decide +kernel, by decide, rfl⟩
theorem rX12_deepest_42 : tq_D cX12_deepest 42 (.iload_n 3) 1 43 := ⟨by decide +kernel, rfl⟩
theorem rX12_deepest_43 : tq_D cX12_deepest 43 (.iload 4) 2 45 := ⟨by decide +kernel, rfl⟩
theorem rX12_deepest_45 : tq_D cX12_deepest 45 (.iadd) 1 46 := ⟨by decide +kernel, rfl⟩
theorem rX12_deepest_46 : tq_D cX12_deepest 46 (.istore 6) 2 48 := ⟨by decide +kernel, rfl⟩
theorem rX12_deepest_48 : tq_D cX12_deepest 48 (.iload_n 3) 1 49 := ⟨by decide +kernel, rfl⟩
theorem rX12_deepest_49 : tq_D cX12_deepest 49 (.istore 4) 2 51 := ⟨by decide +kernel, rfl⟩
theorem rX12_deepest_51 : tq_D cX12_deepest 51 (.iload 6) 2 53 := ⟨by decide +kernel, rfl⟩
theorem rX12_deepest_53 : tq_D cX12_deepest 53 (.istore_n 3) 1 54 := ⟨by decide +kernel, rfl⟩
theorem rX12_deepest_54 : tq_D cX12_deepest 54 (.iinc 5 1) 3 57 := ⟨by decide +kernel, rfl⟩
theorem rX12_deepest_57 : tq_J cX12_deepest 57 .goto 37 60 := ⟨(-20), by decide +kernel, by decide, rfl⟩
theorem rX12_deepest_60 : tq_D cX12_deepest 60 (.iload 5) 2 62 := ⟨by decide +kernel, rfl⟩
theorem rX12_deepest_62 : decode cX12_deepest 62 = .ok (.ireturn, 1) := by decide +kernel
noncomputable def FX12_deepest_s37 (I : tq_PI) (L : tq_PL) (a2 : Int32) (a3 : Int32) (a4 : Int32) (a5 : Int32) : Option ((Int32 × Int32 × Int32) ⊕ (Int32)) :=
  (if a2 ≤ a3 then some (.inr a5) else some (.inl ((a3 + a4), a3, (a5 + 1))))
noncomputable def FX12_deepest (I : tq_PI) (L : tq_PL) (a0 : Nat) (a1 : Int32) : Option (Int32) :=
  ((FX12_isOf I L a0 ((3 : Int32)) a1).bind fun p1 => (if (tq_b p1) = 0 then some (-1 : Int32) else (tq_let (FX12_placeOf I L ((3 : Int32)) a1) fun p3 => (if 0 ≤ p3 ∧ p3 < 4016 then (if (2 : Int32) ≤ (I (tq_rg a0 0) p3.toNatClampNeg) then ((tq_it (fun p : Int32 × Int32 × Int32 => FX12_deepest_s37 I L ((I (tq_rg a0 0) p3.toNatClampNeg)) p.1 p.2.1 p.2.2) tq_N ((1 : Int32), (1 : Int32), (1 : Int32))).bind fun p7 => some p7) else some (I (tq_rg a0 0) p3.toNatClampNeg)) else none))))
set_option maxRecDepth 100000 in
set_option maxHeartbeats 4000000 in
theorem FX12_deepest_s37_x {S : Nat × (Nat → Int32)} {d : Nat} {I : tq_PI} {L : tq_PL} {a2 : Int32} {a3 : Int32} {a4 : Int32} {a5 : Int32}  {q0 : Option Value → tq_PI → tq_PL → Prop} {out : (Int32 × Int32 × Int32) ⊕ (Int32)} (hf : FX12_deepest_s37 I L a2 a3 a4 a5 = some out) (hk : Sum.elim (fun p : Int32 × Int32 × Int32 => tq_X S mX12_deepest (d + 2) tq_k0 37 ([tq_u, tq_u, .int a2, .int p.1, .int p.2.1, .int p.2.2, tq_u]) [] (tq_st I L) (tq_Q q0)) (fun p : Int32 => tq_X S mX12_deepest (d + 2) tq_k0 60 ([tq_u, tq_u, tq_u, tq_u, tq_u, .int p, tq_u]) [] (tq_st I L) (tq_Q q0)) out) : tq_X S mX12_deepest (d + 2) tq_k0 37 ([tq_u, tq_u, .int a2, .int a3, .int a4, .int a5, tq_u]) [] (tq_st I L) (tq_Q q0) := by
  unfold FX12_deepest_s37 at hf
  refine tq_iload_n rX12_deepest_37 rfl ?_
  refine tq_iload_n rX12_deepest_38 rfl ?_
  refine tq_icmp_ge rX12_deepest_39 (fun c6 => ?_) (fun c6 => ?_)
  · rw [if_pos c6] at hf
    have hf := Option.some.inj hf
    subst hf
    exact tq_forget _ (tq_le_u (tq_le_u (tq_le_u (tq_le_u (tq_le_u (tq_le_s (tq_le_u tq_le_n))))))) hk
  · rw [if_neg c6] at hf
    refine tq_iload_n rX12_deepest_42 rfl ?_
    refine tq_iload rX12_deepest_43 rfl ?_
    refine tq_iadd rX12_deepest_45 ?_
    refine tq_istore ([tq_u, tq_u, .int a2, .int a3, .int a4, .int a5, .int (a3 + a4)]) rX12_deepest_46 (Nat.le_of_ble_eq_true rfl) rfl ?_
    refine tq_iload_n rX12_deepest_48 rfl ?_
    refine tq_istore ([tq_u, tq_u, .int a2, .int a3, .int a3, .int a5, .int (a3 + a4)]) rX12_deepest_49 (Nat.le_of_ble_eq_true rfl) rfl ?_
    refine tq_iload rX12_deepest_51 rfl ?_
    refine tq_istore_n ([tq_u, tq_u, .int a2, .int (a3 + a4), .int a3, .int a5, .int (a3 + a4)]) rX12_deepest_53 (Nat.le_of_ble_eq_true rfl) rfl ?_
    refine tq_iinc (a5 + 1) ([tq_u, tq_u, .int a2, .int (a3 + a4), .int a3, .int (a5 + 1), .int (a3 + a4)]) rX12_deepest_54 rfl (tq_inc (by decide)) (Nat.le_of_ble_eq_true rfl) rfl ?_
    refine tq_goto rX12_deepest_57 ?_
    have hf := Option.some.inj hf
    subst hf
    exact tq_forget _ (tq_le_u (tq_le_u (tq_le_s (tq_le_s (tq_le_s (tq_le_s (tq_le_u tq_le_n))))))) hk

set_option maxRecDepth 100000 in
set_option maxHeartbeats 4000000 in
theorem CX12_deepest {S : Nat × (Nat → Int32)} {d : Nat} {I : tq_PI} {L : tq_PL} {a0 : Nat} {a1 : Int32} (h0 : tq_sh0 a0 = 12) {out : Int32} (hf : FX12_deepest I L a0 a1 = some out) : tq_K S mX12_deepest (d + 2) [.ref a0, .int a1] I L (tq_one2 (some (.int out)) I L) := by
  unfold FX12_deepest at hf
  refine tq_K_of (by decide) (Nat.le_of_ble_eq_true rfl) (ls := [.ref a0, .int a1, tq_u, tq_u, tq_u, tq_u, tq_u]) rfl ?_
  refine tq_aload_n rX12_deepest_0 rfl ?_
  refine tq_iconst (3 : Int32) rX12_deepest_1 (by decide) ?_
  refine tq_iload_n rX12_deepest_2 rfl ?_
  obtain ⟨p1, e1, hf⟩ := Option.bind_eq_some_iff.mp hf
  refine ty_callVI (tq_b p1) ([.int (3 : Int32), .int a1]) ([]) rX12_deepest_3 l_X12_157 moX12_isOf mvX12_isOf h0 rfl rfl (Nat.le_of_ble_eq_true rfl) ⟨rfl, rfl⟩ (CX12_isOf h0 e1) ?_
  refine tq_if_ne rX12_deepest_6 (fun c2 => ?_) (fun c2 => ?_)
  · rw [if_neg c2] at hf
    refine tq_aload_n rX12_deepest_11 rfl ?_
    refine ty_getR rX12_deepest_12 f_X12_7 rfl h0 (hp_12_0 h0).1 ?_
    refine tq_iconst (3 : Int32) rX12_deepest_15 (by decide) ?_
    refine tq_iload_n rX12_deepest_16 rfl ?_
    obtain ⟨p3, e3, hf⟩ := tq_let_elim hf
    refine ty_callSI p3 ([.int (3 : Int32), .int a1]) ([.ref (tq_rg a0 0)]) rX12_deepest_17 l_X12_184 moX12_placeOf msX12_placeOf rfl rfl (Nat.le_of_ble_eq_true rfl) ⟨rfl, rfl⟩ (CX12_placeOf  e3) ?_
    obtain ⟨g4, hf⟩ := tq_chk hf
    refine ty_iald (v := 4016) rX12_deepest_20 (hp_12_0 h0).2.1 (hp_12_0 h0).2.2 rfl (by decide) g4 ?_
    refine tq_istore_n ([.ref a0, .int a1, .int (I (tq_rg a0 0) p3.toNatClampNeg), tq_u, tq_u, tq_u, tq_u]) rX12_deepest_21 (Nat.le_of_ble_eq_true rfl) rfl ?_
    refine tq_iload_n rX12_deepest_22 rfl ?_
    refine tq_iconst (2 : Int32) rX12_deepest_23 (by decide) ?_
    refine tq_icmp_ge rX12_deepest_24 (fun c5 => ?_) (fun c5 => ?_)
    · rw [if_pos c5] at hf
      refine tq_iconst (1 : Int32) rX12_deepest_29 (by decide) ?_
      refine tq_istore_n ([.ref a0, .int a1, .int (I (tq_rg a0 0) p3.toNatClampNeg), .int (1 : Int32), tq_u, tq_u, tq_u]) rX12_deepest_30 (Nat.le_of_ble_eq_true rfl) rfl ?_
      refine tq_iconst (1 : Int32) rX12_deepest_31 (by decide) ?_
      refine tq_istore ([.ref a0, .int a1, .int (I (tq_rg a0 0) p3.toNatClampNeg), .int (1 : Int32), .int (1 : Int32), tq_u, tq_u]) rX12_deepest_32 (Nat.le_of_ble_eq_true rfl) rfl ?_
      refine tq_iconst (1 : Int32) rX12_deepest_34 (by decide) ?_
      refine tq_istore ([.ref a0, .int a1, .int (I (tq_rg a0 0) p3.toNatClampNeg), .int (1 : Int32), .int (1 : Int32), .int (1 : Int32), tq_u]) rX12_deepest_35 (Nat.le_of_ble_eq_true rfl) rfl ?_
      obtain ⟨p7, e7, hf⟩ := Option.bind_eq_some_iff.mp hf
      refine tq_forget _ (tq_le_u (tq_le_u (tq_le_s (tq_le_s (tq_le_s (tq_le_s (tq_le_u tq_le_n))))))) ?_
      refine tq_it_elim (P := fun p : Int32 × Int32 × Int32 => tq_X S mX12_deepest (d + 2) tq_k0 37 ([tq_u, tq_u, .int (I (tq_rg a0 0) p3.toNatClampNeg), .int p.1, .int p.2.1, .int p.2.2, tq_u]) [] (tq_st I L) (tq_Q (tq_one2 (some (.int out)) I L))) (R := fun p : Int32 => tq_X S mX12_deepest (d + 2) tq_k0 60 ([tq_u, tq_u, tq_u, tq_u, tq_u, .int p, tq_u]) [] (tq_st I L) (tq_Q (tq_one2 (some (.int out)) I L))) (fun p o hp hk => FX12_deepest_s37_x   hp hk) _ (((1 : Int32), (1 : Int32), (1 : Int32))) _ e7 ?_
      show tq_X _ _ _ _ _ _ _ _ _
      refine tq_iload rX12_deepest_60 rfl ?_
      refine ty_iret rX12_deepest_62 rfl rfl ?_
      have hf := Option.some.inj hf
      subst hf
      exact ⟨rfl, rfl, rfl⟩
    · rw [if_neg c5] at hf
      refine tq_iload_n rX12_deepest_27 rfl ?_
      refine ty_iret rX12_deepest_28 rfl rfl ?_
      have hf := Option.some.inj hf
      subst hf
      exact ⟨rfl, rfl, rfl⟩
  · rw [if_pos c2] at hf
    refine tq_iconst (-1 : Int32) rX12_deepest_9 (by decide) ?_
    refine ty_iret rX12_deepest_10 rfl rfl ?_
    have hf := Option.some.inj hf
    subst hf
    exact ⟨rfl, rfl, rfl⟩

abbrev mX12_plain : tq_M := (yX12_plain, cX12_plain, 5, (Option.some Jvm.ClassFile.FieldType.int), 0, 0)
theorem moX12_blowsFor : tq_mok mX12_blowsFor 1 := ⟨tq_sg1 _ (List.mem_of_getElem? (i := 13) rfl), tq_sg8 _ (List.mem_of_getElem? (i := 174) rfl), ⟨by decide, by decide, by decide +kernel⟩, by decide⟩
theorem mvX12_blowsFor : 12 < 13 ∧ (tq_cl 12).1 = mX12_blowsFor.1.cls ∧ Cond.instanceMethod mX12_blowsFor.1 ∈ lw_tbl ∧ Cond.selects mX12_blowsFor.1.cls mX12_blowsFor.1 mX12_blowsFor.1 ∈ lw_tbl := ⟨by decide, rfl, tq_sg8 _ (List.mem_of_getElem? (i := 173) rfl), List.mem_append_left _ (List.mem_map.mpr ⟨_, List.mem_of_getElem? (i := 109) rfl, rfl⟩)⟩
theorem l_X12_409 : tq_lok RX12 409 mX12_blowsFor.1 := Or.inl (tq_sg8 _ (List.mem_of_getElem? (i := 171) rfl))
theorem rX12_plain_0 : tq_D cX12_plain 0 (.aload_n 0) 1 1 := ⟨by decide +kernel, rfl⟩
theorem rX12_plain_1 : tq_D cX12_plain 1 (.iconst 3) 1 2 := ⟨by decide +kernel, rfl⟩
theorem rX12_plain_2 : tq_D cX12_plain 2 (.iload_n 1) 1 3 := ⟨by decide +kernel, rfl⟩
theorem rX12_plain_3 : tq_D cX12_plain 3 (.invokevirtual 157) 3 6 := ⟨by decide +kernel, rfl⟩
theorem rX12_plain_6 : tq_J cX12_plain 6 (.ifCond .ne) 11 9 := ⟨5, by decide +kernel, by decide, rfl⟩
theorem rX12_plain_9 : tq_D cX12_plain 9 (.iconst (-1)) 1 10 := ⟨by decide +kernel, rfl⟩
theorem rX12_plain_10 : decode cX12_plain 10 = .ok (.ireturn, 1) := by decide +kernel
theorem rX12_plain_11 : tq_D cX12_plain 11 (.aload_n 0) 1 12 := ⟨by decide +kernel, rfl⟩
theorem rX12_plain_12 : tq_D cX12_plain 12 (.iconst 3) 1 13 := ⟨by decide +kernel, rfl⟩
theorem rX12_plain_13 : tq_D cX12_plain 13 (.iload_n 1) 1 14 := ⟨by decide +kernel, rfl⟩
theorem rX12_plain_14 : tq_D cX12_plain 14 (.invokestatic 184) 3 17 := ⟨by decide +kernel, rfl⟩
theorem rX12_plain_17 : tq_D cX12_plain 17 (.putfield 399) 3 20 := ⟨by decide +kernel, rfl⟩
theorem rX12_plain_20 : tq_D cX12_plain 20 (.iload_n 2) 1 21 := ⟨by decide +kernel, rfl⟩
theorem rX12_plain_21 : tq_D cX12_plain 21 (.iconst (-1)) 1 22 := ⟨by decide +kernel, rfl⟩
theorem rX12_plain_22 : tq_J cX12_plain 22 (.if_icmp .eq) 54 25 := ⟨32, by decide +kernel, by decide, rfl⟩
theorem rX12_plain_25 : tq_D cX12_plain 25 (.iload_n 2) 1 26 := ⟨by decide +kernel, rfl⟩
theorem rX12_plain_26 : tq_D cX12_plain 26 (.iconst 0) 1 27 := ⟨by decide +kernel, rfl⟩
theorem rX12_plain_27 : tq_D cX12_plain 27 (.aload_n 0) 1 28 := ⟨by decide +kernel, rfl⟩
theorem rX12_plain_28 : tq_D cX12_plain 28 (.getfield 7) 3 31 := ⟨by decide +kernel, rfl⟩
theorem rX12_plain_31 : tq_D cX12_plain 31 (.aload_n 0) 1 32 := ⟨by decide +kernel, rfl⟩
theorem rX12_plain_32 : tq_D cX12_plain 32 (.getfield 399) 3 35 := ⟨by decide +kernel, rfl⟩
theorem rX12_plain_35 : tq_D cX12_plain 35 (.iaload) 1 36 := ⟨by decide +kernel, rfl⟩
theorem rX12_plain_36 : tq_D cX12_plain 36 (.iconst 1) 1 37 := ⟨by decide +kernel, rfl⟩
theorem rX12_plain_37 : tq_D cX12_plain 37 (.isub) 1 38 := ⟨by decide +kernel, rfl⟩
theorem rX12_plain_38 : tq_D cX12_plain 38 (.invokestatic 118) 3 41 := ⟨by decide +kernel, rfl⟩
theorem rX12_plain_41 : tq_J cX12_plain 41 (.ifCond .eq) 52 44 := ⟨11, by decide +kernel, by decide, rfl⟩
theorem rX12_plain_44 : tq_D cX12_plain 44 (.aload_n 0) 1 45 := ⟨by decide +kernel, rfl⟩
theorem rX12_plain_45 : tq_D cX12_plain 45 (.iload_n 2) 1 46 := ⟨by decide +kernel, rfl⟩
theorem rX12_plain_46 : tq_D cX12_plain 46 (.invokevirtual 409) 3 49 := ⟨by decide +kernel, rfl⟩
theorem rX12_plain_49 : tq_J cX12_plain 49 .goto 53 52 := ⟨4, by decide +kernel, by decide, rfl⟩
theorem rX12_plain_52 : tq_D cX12_plain 52 (.iconst (-1)) 1 53 := ⟨by decide +kernel, rfl⟩
theorem rX12_plain_53 : decode cX12_plain 53 = .ok (.ireturn, 1) := by decide +kernel
theorem rX12_plain_54 : tq_D cX12_plain 54 (.iconst 0) 1 55 := ⟨by decide +kernel, rfl⟩
theorem rX12_plain_55 : tq_D cX12_plain 55 (.istore_n 3) 1 56 := ⟨by decide +kernel, rfl⟩
theorem rX12_plain_56 : tq_D cX12_plain 56 (.iconst 0) 1 57 := ⟨by decide +kernel, rfl⟩
theorem rX12_plain_57 : tq_D cX12_plain 57 (.istore 4) 2 59 := ⟨by decide +kernel, rfl⟩
theorem rX12_plain_59 : tq_D cX12_plain 59 (.iload 4) 2 61 := ⟨by decide +kernel, rfl⟩
theorem rX12_plain_61 : tq_D cX12_plain 61 (.aload_n 0) 1 62 := ⟨by decide +kernel, rfl⟩
theorem rX12_plain_62 : tq_D cX12_plain 62 (.getfield 7) 3 65 := ⟨by decide +kernel, rfl⟩
theorem rX12_plain_65 : tq_D cX12_plain 65 (.aload_n 0) 1 66 := ⟨by decide +kernel, rfl⟩
theorem rX12_plain_66 : tq_D cX12_plain 66 (.getfield 399) 3 69 := ⟨by decide +kernel, rfl⟩
theorem rX12_plain_69 : tq_D cX12_plain 69 (.iaload) 1 70 := ⟨by decide +kernel, rfl⟩
theorem rX12_plain_70 : tq_J cX12_plain 70 (.if_icmp .ge) 95 73 := ⟨25, by decide +kernel, by decide, rfl⟩
theorem rX12_plain_73 : tq_D cX12_plain 73 (.iload_n 3) 1 74 := ⟨by decide +kernel, rfl⟩
theorem rX12_plain_74 : tq_D cX12_plain 74 (.aload_n 0) 1 75 := ⟨by decide +kernel, rfl⟩
theorem rX12_plain_75 : tq_D cX12_plain 75 (.iload 4) 2 77 := ⟨by decide +kernel, rfl⟩
theorem rX12_plain_77 : tq_D cX12_plain 77 (.invokevirtual 409) 3 80 := ⟨by decide +kernel, rfl⟩
theorem rX12_plain_80 : tq_D cX12_plain 80 (.aload_n 0) 1 81 := ⟨by decide +kernel, rfl⟩
theorem rX12_plain_81 : tq_D cX12_plain 81 (.iload 4) 2 83 := ⟨by decide +kernel, rfl⟩
theorem rX12_plain_83 : tq_D cX12_plain 83 (.invokevirtual 406) 3 86 := ⟨by decide +kernel, rfl⟩
theorem rX12_plain_86 : tq_D cX12_plain 86 (.imul) 1 87 := ⟨by decide +kernel, rfl⟩
theorem rX12_plain_87 : tq_D cX12_plain 87 (.iadd) 1 88 := ⟨by decide +kernel, rfl⟩
theorem rX12_plain_88 : tq_D cX12_plain 88 (.istore_n 3) 1 89 := ⟨by decide +kernel, rfl⟩
theorem rX12_plain_89 : tq_D cX12_plain 89 (.iinc 4 1) 3 92 := ⟨by decide +kernel, rfl⟩
theorem rX12_plain_92 : tq_J cX12_plain 92 .goto 59 95 := ⟨(-33), by decide +kernel, by decide, rfl⟩
theorem rX12_plain_95 : tq_D cX12_plain 95 (.iload_n 3) 1 96 := ⟨by decide +kernel, rfl⟩
theorem rX12_plain_96 : decode cX12_plain 96 = .ok (.ireturn, 1) := by decide +kernel
noncomputable def FX12_plain_s59 (I : tq_PI) (L : tq_PL) (a0 : Nat) (a3 : Int32) (a4 : Int32) : Option ((Int32 × Int32) ⊕ (Int32)) :=
  (if 0 ≤ (I a0 35) ∧ (I a0 35) < 4016 then (if (I (tq_rg a0 0) ((I a0 35)).toNatClampNeg) ≤ a4 then some (.inr a3) else ((FX12_blowsFor I L a0 a4).bind fun p7 => ((FX12_ofWord I L a0 a4).bind fun p8 => some (.inl ((a3 + (p7 * p8)), (a4 + 1)))))) else none)
noncomputable def FX12_plain (I : tq_PI) (L : tq_PL) (a0 : Nat) (a1 : Int32) (a2 : Int32) : Option (Int32 × tq_PI) :=
  ((FX12_isOf I L a0 ((3 : Int32)) a1).bind fun p1 => (if (tq_b p1) = 0 then some ((-1 : Int32), I) else (tq_let (FX12_placeOf I L ((3 : Int32)) a1) fun p3 => (if a2 = (-1 : Int32) then ((tq_it (fun p : Int32 × Int32 => FX12_plain_s59 ((tq_up2 I a0 35 p3)) L a0 p.1 p.2) tq_N ((0 : Int32), (0 : Int32))).bind fun p9 => some (p9, (tq_up2 I a0 35 p3))) else (if 0 ≤ (((tq_up2 I a0 35 p3)) a0 35) ∧ (((tq_up2 I a0 35 p3)) a0 35) < 4016 then (tq_let (FX12_isIn ((tq_up2 I a0 35 p3)) L a2 ((0 : Int32)) (((((tq_up2 I a0 35 p3)) (tq_rg a0 0) ((((tq_up2 I a0 35 p3)) a0 35)).toNatClampNeg) - (1 : Int32)))) fun p11 => (if (tq_b p11) = 0 then some ((-1 : Int32), (tq_up2 I a0 35 p3)) else ((FX12_blowsFor ((tq_up2 I a0 35 p3)) L a0 a2).bind fun p13 => some (p13, (tq_up2 I a0 35 p3))))) else none)))))
set_option maxRecDepth 100000 in
set_option maxHeartbeats 4000000 in
theorem FX12_plain_s59_x {S : Nat × (Nat → Int32)} {d : Nat} {I : tq_PI} {L : tq_PL} {a0 : Nat} {a3 : Int32} {a4 : Int32} (h0 : tq_sh0 a0 = 12) {q0 : Option Value → tq_PI → tq_PL → Prop} {out : (Int32 × Int32) ⊕ (Int32)} (hf : FX12_plain_s59 I L a0 a3 a4 = some out) (hk : Sum.elim (fun p : Int32 × Int32 => tq_X S mX12_plain (d + 2) tq_k0 59 ([.ref a0, tq_u, tq_u, .int p.1, .int p.2]) [] (tq_st I L) (tq_Q q0)) (fun p : Int32 => tq_X S mX12_plain (d + 2) tq_k0 95 ([tq_u, tq_u, tq_u, .int p, tq_u]) [] (tq_st I L) (tq_Q q0)) out) : tq_X S mX12_plain (d + 2) tq_k0 59 ([.ref a0, tq_u, tq_u, .int a3, .int a4]) [] (tq_st I L) (tq_Q q0) := by
  unfold FX12_plain_s59 at hf
  refine tq_iload rX12_plain_59 rfl ?_
  refine tq_aload_n rX12_plain_61 rfl ?_
  refine ty_getR rX12_plain_62 f_X12_7 rfl h0 (hp_12_0 h0).1 ?_
  refine tq_aload_n rX12_plain_65 rfl ?_
  refine ty_getI rX12_plain_66 f_X12_399 rfl h0 ?_
  obtain ⟨g5, hf⟩ := tq_chk hf
  refine ty_iald (v := 4016) rX12_plain_69 (hp_12_0 h0).2.1 (hp_12_0 h0).2.2 rfl (by decide) g5 ?_
  refine tq_icmp_ge rX12_plain_70 (fun c6 => ?_) (fun c6 => ?_)
  · rw [if_pos c6] at hf
    have hf := Option.some.inj hf
    subst hf
    exact tq_forget _ (tq_le_u (tq_le_u (tq_le_u (tq_le_s (tq_le_u tq_le_n))))) hk
  · rw [if_neg c6] at hf
    refine tq_iload_n rX12_plain_73 rfl ?_
    refine tq_aload_n rX12_plain_74 rfl ?_
    refine tq_iload rX12_plain_75 rfl ?_
    obtain ⟨p7, e7, hf⟩ := Option.bind_eq_some_iff.mp hf
    refine ty_callVI p7 ([.int a4]) ([.int a3]) rX12_plain_77 l_X12_409 moX12_blowsFor mvX12_blowsFor h0 rfl rfl (Nat.le_of_ble_eq_true rfl) ⟨rfl, rfl⟩ (CX12_blowsFor h0 e7) ?_
    refine tq_aload_n rX12_plain_80 rfl ?_
    refine tq_iload rX12_plain_81 rfl ?_
    obtain ⟨p8, e8, hf⟩ := Option.bind_eq_some_iff.mp hf
    refine ty_callVI p8 ([.int a4]) ([.int p7, .int a3]) rX12_plain_83 l_X12_406 moX12_ofWord mvX12_ofWord h0 rfl rfl (Nat.le_of_ble_eq_true rfl) ⟨rfl, rfl⟩ (CX12_ofWord h0 e8) ?_
    refine tq_imul rX12_plain_86 ?_
    refine tq_iadd rX12_plain_87 ?_
    refine tq_istore_n ([.ref a0, tq_u, tq_u, .int (a3 + (p7 * p8)), .int a4]) rX12_plain_88 (Nat.le_of_ble_eq_true rfl) rfl ?_
    refine tq_iinc (a4 + 1) ([.ref a0, tq_u, tq_u, .int (a3 + (p7 * p8)), .int (a4 + 1)]) rX12_plain_89 rfl (tq_inc (by decide)) (Nat.le_of_ble_eq_true rfl) rfl ?_
    refine tq_goto rX12_plain_92 ?_
    have hf := Option.some.inj hf
    subst hf
    exact tq_forget _ (tq_le_s (tq_le_u (tq_le_u (tq_le_s (tq_le_s tq_le_n))))) hk

set_option maxRecDepth 100000 in
set_option maxHeartbeats 4000000 in
theorem CX12_plain {S : Nat × (Nat → Int32)} {d : Nat} {I : tq_PI} {L : tq_PL} {a0 : Nat} {a1 : Int32} {a2 : Int32} (h0 : tq_sh0 a0 = 12) {out : Int32 × tq_PI} (hf : FX12_plain I L a0 a1 a2 = some out) : tq_K S mX12_plain (d + 2) [.ref a0, .int a1, .int a2] I L (tq_one2 (some (.int out.1)) out.2 L) := by
  unfold FX12_plain at hf
  refine tq_K_of (by decide) (Nat.le_of_ble_eq_true rfl) (ls := [.ref a0, .int a1, .int a2, tq_u, tq_u]) rfl ?_
  refine tq_aload_n rX12_plain_0 rfl ?_
  refine tq_iconst (3 : Int32) rX12_plain_1 (by decide) ?_
  refine tq_iload_n rX12_plain_2 rfl ?_
  obtain ⟨p1, e1, hf⟩ := Option.bind_eq_some_iff.mp hf
  refine ty_callVI (tq_b p1) ([.int (3 : Int32), .int a1]) ([]) rX12_plain_3 l_X12_157 moX12_isOf mvX12_isOf h0 rfl rfl (Nat.le_of_ble_eq_true rfl) ⟨rfl, rfl⟩ (CX12_isOf h0 e1) ?_
  refine tq_if_ne rX12_plain_6 (fun c2 => ?_) (fun c2 => ?_)
  · rw [if_neg c2] at hf
    refine tq_aload_n rX12_plain_11 rfl ?_
    refine tq_iconst (3 : Int32) rX12_plain_12 (by decide) ?_
    refine tq_iload_n rX12_plain_13 rfl ?_
    obtain ⟨p3, e3, hf⟩ := tq_let_elim hf
    refine ty_callSI p3 ([.int (3 : Int32), .int a1]) ([.ref a0]) rX12_plain_14 l_X12_184 moX12_placeOf msX12_placeOf rfl rfl (Nat.le_of_ble_eq_true rfl) ⟨rfl, rfl⟩ (CX12_placeOf  e3) ?_
    refine ty_putI rX12_plain_17 f_X12_399 rfl h0 rfl ?_
    refine tq_iload_n rX12_plain_20 rfl ?_
    refine tq_iconst (-1 : Int32) rX12_plain_21 (by decide) ?_
    refine tq_icmp_eq rX12_plain_22 (fun c4 => ?_) (fun c4 => ?_)
    · rw [if_pos c4] at hf
      refine tq_iconst (0 : Int32) rX12_plain_54 (by decide) ?_
      refine tq_istore_n ([.ref a0, .int a1, .int a2, .int (0 : Int32), tq_u]) rX12_plain_55 (Nat.le_of_ble_eq_true rfl) rfl ?_
      refine tq_iconst (0 : Int32) rX12_plain_56 (by decide) ?_
      refine tq_istore ([.ref a0, .int a1, .int a2, .int (0 : Int32), .int (0 : Int32)]) rX12_plain_57 (Nat.le_of_ble_eq_true rfl) rfl ?_
      obtain ⟨p9, e9, hf⟩ := Option.bind_eq_some_iff.mp hf
      refine tq_forget _ (tq_le_s (tq_le_u (tq_le_u (tq_le_s (tq_le_s tq_le_n))))) ?_
      refine tq_it_elim (P := fun p : Int32 × Int32 => tq_X S mX12_plain (d + 2) tq_k0 59 ([.ref a0, tq_u, tq_u, .int p.1, .int p.2]) [] (tq_st (tq_up2 I a0 35 p3) L) (tq_Q (tq_one2 (some (.int out.1)) out.2 L))) (R := fun p : Int32 => tq_X S mX12_plain (d + 2) tq_k0 95 ([tq_u, tq_u, tq_u, .int p, tq_u]) [] (tq_st (tq_up2 I a0 35 p3) L) (tq_Q (tq_one2 (some (.int out.1)) out.2 L))) (fun p o hp hk => FX12_plain_s59_x  h0 hp hk) _ (((0 : Int32), (0 : Int32))) _ e9 ?_
      show tq_X _ _ _ _ _ _ _ _ _
      refine tq_iload_n rX12_plain_95 rfl ?_
      refine ty_iret rX12_plain_96 rfl rfl ?_
      have hf := Option.some.inj hf
      subst hf
      exact ⟨rfl, rfl, rfl⟩
    · rw [if_neg c4] at hf
      refine tq_iload_n rX12_plain_25 rfl ?_
      refine tq_iconst (0 : Int32) rX12_plain_26 (by decide) ?_
      refine tq_aload_n rX12_plain_27 rfl ?_
      refine ty_getR rX12_plain_28 f_X12_7 rfl h0 (hp_12_0 h0).1 ?_
      refine tq_aload_n rX12_plain_31 rfl ?_
      refine ty_getI rX12_plain_32 f_X12_399 rfl h0 ?_
      obtain ⟨g10, hf⟩ := tq_chk hf
      refine ty_iald (v := 4016) rX12_plain_35 (hp_12_0 h0).2.1 (hp_12_0 h0).2.2 rfl (by decide) g10 ?_
      refine tq_iconst (1 : Int32) rX12_plain_36 (by decide) ?_
      refine tq_isub rX12_plain_37 ?_
      obtain ⟨p11, e11, hf⟩ := tq_let_elim hf
      refine ty_callSI (tq_b p11) ([.int a2, .int (0 : Int32), .int ((((tq_up2 I a0 35 p3)) (tq_rg a0 0) ((((tq_up2 I a0 35 p3)) a0 35)).toNatClampNeg) - (1 : Int32))]) ([]) rX12_plain_38 l_X12_118 moX12_isIn msX12_isIn rfl rfl (Nat.le_of_ble_eq_true rfl) ⟨rfl, rfl⟩ (CX12_isIn  e11) ?_
      refine tq_if_eq rX12_plain_41 (fun c12 => ?_) (fun c12 => ?_)
      · rw [if_pos c12] at hf
        refine tq_iconst (-1 : Int32) rX12_plain_52 (by decide) ?_
        refine ty_iret rX12_plain_53 rfl rfl ?_
        have hf := Option.some.inj hf
        subst hf
        exact ⟨rfl, rfl, rfl⟩
      · rw [if_neg c12] at hf
        refine tq_aload_n rX12_plain_44 rfl ?_
        refine tq_iload_n rX12_plain_45 rfl ?_
        obtain ⟨p13, e13, hf⟩ := Option.bind_eq_some_iff.mp hf
        refine ty_callVI p13 ([.int a2]) ([]) rX12_plain_46 l_X12_409 moX12_blowsFor mvX12_blowsFor h0 rfl rfl (Nat.le_of_ble_eq_true rfl) ⟨rfl, rfl⟩ (CX12_blowsFor h0 e13) ?_
        refine tq_goto rX12_plain_49 ?_
        refine ty_iret rX12_plain_53 rfl rfl ?_
        have hf := Option.some.inj hf
        subst hf
        exact ⟨rfl, rfl, rfl⟩
  · rw [if_pos c2] at hf
    refine tq_iconst (-1 : Int32) rX12_plain_9 (by decide) ?_
    refine ty_iret rX12_plain_10 rfl rfl ?_
    have hf := Option.some.inj hf
    subst hf
    exact ⟨rfl, rfl, rfl⟩

abbrev mX12_below : tq_M := (yX12_below, cX12_below, 2, (Option.some Jvm.ClassFile.FieldType.int), 0, 0)
theorem f_X12_412 : tq_fok RX12 412 12 38 := ⟨by decide, by decide, Or.inl (tq_sg6 _ (List.mem_of_getElem? (i := 111) rfl))⟩
theorem k_X12_415 : Cond.constant RX12 415 (1103515245) ∈ lw_tbl := tq_sg8 _ (List.mem_of_getElem? (i := 191) rfl)
theorem rX12_below_0 : tq_D cX12_below 0 (.aload_n 0) 1 1 := ⟨by decide +kernel, rfl⟩
theorem rX12_below_1 : tq_D cX12_below 1 (.aload_n 0) 1 2 := ⟨by decide +kernel, rfl⟩
theorem rX12_below_2 : tq_D cX12_below 2 (.getfield 412) 3 5 := ⟨by decide +kernel, rfl⟩
theorem rX12_below_5 : tq_D cX12_below 5 (.ldc_w 415) 3 8 := ⟨by decide +kernel, rfl⟩
theorem rX12_below_8 : tq_D cX12_below 8 (.imul) 1 9 := ⟨by decide +kernel, rfl⟩
theorem rX12_below_9 : tq_D cX12_below 9 (.sipush 12345) 3 12 := ⟨by decide +kernel, rfl⟩
theorem rX12_below_12 : tq_D cX12_below 12 (.iadd) 1 13 := ⟨by decide +kernel, rfl⟩
theorem rX12_below_13 : tq_D cX12_below 13 (.putfield 412) 3 16 := ⟨by decide +kernel, rfl⟩
theorem rX12_below_16 : tq_D cX12_below 16 (.aload_n 0) 1 17 := ⟨by decide +kernel, rfl⟩
theorem rX12_below_17 : tq_D cX12_below 17 (.getfield 412) 3 20 := ⟨by decide +kernel, rfl⟩
theorem rX12_below_20 : tq_D cX12_below 20 (.bipush 16) 2 22 := ⟨by decide +kernel, rfl⟩
theorem rX12_below_22 : tq_D cX12_below 22 (.iushr) 1 23 := ⟨by decide +kernel, rfl⟩
theorem rX12_below_23 : tq_D cX12_below 23 (.iload_n 1) 1 24 := ⟨by decide +kernel, rfl⟩
theorem rX12_below_24 : tq_D cX12_below 24 (.irem) 1 25 := ⟨by decide +kernel, rfl⟩
theorem rX12_below_25 : decode cX12_below 25 = .ok (.ireturn, 1) := by decide +kernel
noncomputable def FX12_below (I : tq_PI) (L : tq_PL) (a0 : Nat) (a1 : Int32) : Option (Int32 × tq_PI) :=
  (if ¬ a1 = 0 then some ((((Int32.toUInt32 (((tq_up2 I a0 38 (((I a0 38) * (1103515245 : Int32)) + (12345 : Int32)))) a0 38) >>> (Int32.toUInt32 (16 : Int32) &&& Int32.toUInt32 31)).toInt32) - ((Int32.toUInt32 (((tq_up2 I a0 38 (((I a0 38) * (1103515245 : Int32)) + (12345 : Int32)))) a0 38) >>> (Int32.toUInt32 (16 : Int32) &&& Int32.toUInt32 31)).toInt32) / a1 * a1), (tq_up2 I a0 38 (((I a0 38) * (1103515245 : Int32)) + (12345 : Int32)))) else none)
set_option maxRecDepth 100000 in
set_option maxHeartbeats 4000000 in
theorem CX12_below {S : Nat × (Nat → Int32)} {d : Nat} {I : tq_PI} {L : tq_PL} {a0 : Nat} {a1 : Int32} (h0 : tq_sh0 a0 = 12) {out : Int32 × tq_PI} (hf : FX12_below I L a0 a1 = some out) : tq_K S mX12_below d [.ref a0, .int a1] I L (tq_one2 (some (.int out.1)) out.2 L) := by
  unfold FX12_below at hf
  refine tq_K_of (by decide) (Nat.le_of_ble_eq_true rfl) (ls := [.ref a0, .int a1]) rfl ?_
  refine tq_aload_n rX12_below_0 rfl ?_
  refine tq_aload_n rX12_below_1 rfl ?_
  refine ty_getI rX12_below_2 f_X12_412 rfl h0 ?_
  refine tq_ldcw rX12_below_5 (k_X12_415) ?_
  refine tq_imul rX12_below_8 ?_
  refine tq_sipush (12345 : Int32) rX12_below_9 (by decide) ?_
  refine tq_iadd rX12_below_12 ?_
  refine ty_putI rX12_below_13 f_X12_412 rfl h0 rfl ?_
  refine tq_aload_n rX12_below_16 rfl ?_
  refine ty_getI rX12_below_17 f_X12_412 rfl h0 ?_
  refine tq_bipush (16 : Int32) rX12_below_20 (by decide) ?_
  refine tq_iushr rX12_below_22 ?_
  refine tq_iload_n rX12_below_23 rfl ?_
  obtain ⟨g1, hf⟩ := tq_chk hf
  refine tq_irem rX12_below_24 g1 ?_
  refine ty_iret rX12_below_25 rfl rfl ?_
  have hf := Option.some.inj hf
  subst hf
  exact ⟨rfl, rfl, rfl⟩

abbrev mX12_draws : tq_M := (yX12_draws, cX12_draws, 3, (Option.none : Option Jvm.ClassFile.FieldType), 0, 0)
theorem moX12_below : tq_mok mX12_below 1 := ⟨tq_sg1 _ (List.mem_of_getElem? (i := 13) rfl), tq_sg8 _ (List.mem_of_getElem? (i := 190) rfl), ⟨by decide, by decide, by decide +kernel⟩, by decide⟩
theorem mvX12_below : 12 < 13 ∧ (tq_cl 12).1 = mX12_below.1.cls ∧ Cond.instanceMethod mX12_below.1 ∈ lw_tbl ∧ Cond.selects mX12_below.1.cls mX12_below.1 mX12_below.1 ∈ lw_tbl := ⟨by decide, rfl, tq_sg8 _ (List.mem_of_getElem? (i := 189) rfl), List.mem_append_left _ (List.mem_map.mpr ⟨_, List.mem_of_getElem? (i := 112) rfl, rfl⟩)⟩
theorem l_X12_416 : tq_lok RX12 416 mX12_below.1 := Or.inl (tq_sg8 _ (List.mem_of_getElem? (i := 187) rfl))
theorem rX12_draws_0 : tq_D cX12_draws 0 (.aload_n 0) 1 1 := ⟨by decide +kernel, rfl⟩
theorem rX12_draws_1 : tq_D cX12_draws 1 (.bipush 8) 2 3 := ⟨by decide +kernel, rfl⟩
theorem rX12_draws_3 : tq_D cX12_draws 3 (.invokevirtual 416) 3 6 := ⟨by decide +kernel, rfl⟩
theorem rX12_draws_6 : tq_D cX12_draws 6 (.istore_n 1) 1 7 := ⟨by decide +kernel, rfl⟩
theorem rX12_draws_7 : tq_D cX12_draws 7 (.aload_n 0) 1 8 := ⟨by decide +kernel, rfl⟩
theorem rX12_draws_8 : tq_D cX12_draws 8 (.iload_n 1) 1 9 := ⟨by decide +kernel, rfl⟩
theorem rX12_draws_9 : tq_D cX12_draws 9 (.bipush 7) 2 11 := ⟨by decide +kernel, rfl⟩
theorem rX12_draws_11 : tq_J cX12_draws 11 (.if_icmp .ne) 19 14 := ⟨8, by decide +kernel, by decide, rfl⟩
theorem rX12_draws_14 : tq_D cX12_draws 14 (.bipush 10) 2 16 := ⟨by decide +kernel, rfl⟩
theorem rX12_draws_16 : tq_J cX12_draws 16 .goto 23 19 := ⟨7, by decide +kernel, by decide, rfl⟩
theorem rX12_draws_19 : tq_D cX12_draws 19 (.aload_n 0) 1 20 := ⟨by decide +kernel, rfl⟩
theorem rX12_draws_20 : tq_D cX12_draws 20 (.invokevirtual 190) 3 23 := ⟨by decide +kernel, rfl⟩
theorem rX12_draws_23 : tq_D cX12_draws 23 (.invokevirtual 416) 3 26 := ⟨by decide +kernel, rfl⟩
theorem rX12_draws_26 : tq_D cX12_draws 26 (.istore_n 2) 1 27 := ⟨by decide +kernel, rfl⟩
theorem rX12_draws_27 : tq_D cX12_draws 27 (.aload_n 0) 1 28 := ⟨by decide +kernel, rfl⟩
theorem rX12_draws_28 : tq_D cX12_draws 28 (.iload_n 1) 1 29 := ⟨by decide +kernel, rfl⟩
theorem rX12_draws_29 : tq_D cX12_draws 29 (.iconst 3) 1 30 := ⟨by decide +kernel, rfl⟩
theorem rX12_draws_30 : tq_J cX12_draws 30 (.if_icmp .ge) 37 33 := ⟨7, by decide +kernel, by decide, rfl⟩
theorem rX12_draws_33 : tq_D cX12_draws 33 (.iconst 0) 1 34 := ⟨by decide +kernel, rfl⟩
theorem rX12_draws_34 : tq_J cX12_draws 34 .goto 50 37 := ⟨16, by decide +kernel, by decide, rfl⟩
theorem rX12_draws_37 : tq_D cX12_draws 37 (.iload_n 1) 1 38 := ⟨by decide +kernel, rfl⟩
theorem rX12_draws_38 : tq_D cX12_draws 38 (.bipush 6) 2 40 := ⟨by decide +kernel, rfl⟩
theorem rX12_draws_40 : tq_J cX12_draws 40 (.if_icmp .ge) 47 43 := ⟨7, by decide +kernel, by decide, rfl⟩
theorem rX12_draws_43 : tq_D cX12_draws 43 (.iconst 1) 1 44 := ⟨by decide +kernel, rfl⟩
theorem rX12_draws_44 : tq_J cX12_draws 44 .goto 50 47 := ⟨6, by decide +kernel, by decide, rfl⟩
theorem rX12_draws_47 : tq_D cX12_draws 47 (.iload_n 1) 1 48 := ⟨by decide +kernel, rfl⟩
theorem rX12_draws_48 : tq_D cX12_draws 48 (.iconst 4) 1 49 := ⟨by decide +kernel, rfl⟩
theorem rX12_draws_49 : tq_D cX12_draws 49 (.isub) 1 50 := ⟨by decide +kernel, rfl⟩
theorem rX12_draws_50 : tq_D cX12_draws 50 (.iload_n 2) 1 51 := ⟨by decide +kernel, rfl⟩
theorem rX12_draws_51 : tq_D cX12_draws 51 (.iload_n 2) 1 52 := ⟨by decide +kernel, rfl⟩
theorem rX12_draws_52 : tq_D cX12_draws 52 (.invokevirtual 286) 3 55 := ⟨by decide +kernel, rfl⟩
theorem rX12_draws_55 : tq_D cX12_draws 55 (.pop) 1 56 := ⟨by decide +kernel, rfl⟩
theorem rX12_draws_56 : decode cX12_draws 56 = .ok (.return_, 1) := by decide +kernel
noncomputable def FX12_draws_j50 (I : tq_PI) (L : tq_PL) (a2 : Int32) (b0 : Int32) (b1 : Nat) : Option (tq_PI) :=
  ((FX12_does I L b1 b0 a2 a2).bind fun p7 => some p7.2)
noncomputable def FX12_draws_j23 (I : tq_PI) (L : tq_PL) (a0 : Nat) (a1 : Int32) (b0 : Int32) (b1 : Nat) : Option (tq_PI) :=
  ((FX12_below I L b1 b0).bind fun p4 => (if (3 : Int32) ≤ a1 then (if (6 : Int32) ≤ a1 then (FX12_draws_j50 p4.2 L p4.1 ((a1 - (4 : Int32))) a0) else (FX12_draws_j50 p4.2 L p4.1 ((1 : Int32)) a0)) else (FX12_draws_j50 p4.2 L p4.1 ((0 : Int32)) a0)))
noncomputable def FX12_draws (I : tq_PI) (L : tq_PL) (a0 : Nat) : Option (tq_PI) :=
  ((FX12_below I L a0 ((8 : Int32))).bind fun p1 => (if p1.1 = (7 : Int32) then (FX12_draws_j23 p1.2 L a0 p1.1 ((10 : Int32)) a0) else (tq_let (FX12_many p1.2 L a0) fun p3 => (FX12_draws_j23 p1.2 L a0 p1.1 p3 a0))))
set_option maxRecDepth 100000 in
set_option maxHeartbeats 4000000 in
theorem FX12_draws_j50_x {S : Nat × (Nat → Int32)} {d : Nat} {I : tq_PI} {L : tq_PL} {a2 : Int32} {b0 : Int32} {b1 : Nat} (k1 : tq_sh0 b1 = 12) {q0 : Option Value → tq_PI → tq_PL → Prop} {out : tq_PI} (hf : FX12_draws_j50 I L a2 b0 b1 = some out) (hk : q0 none out L) : tq_X S mX12_draws (d + 6) tq_k0 50 ([tq_u, tq_u, .int a2]) ([.int b0, .ref b1]) (tq_st I L) (tq_Q q0) := by
  unfold FX12_draws_j50 at hf
  refine tq_iload_n rX12_draws_50 rfl ?_
  refine tq_iload_n rX12_draws_51 rfl ?_
  obtain ⟨p7, e7, hf⟩ := Option.bind_eq_some_iff.mp hf
  refine ty_callVI (tq_b p7.1) ([.int b0, .int a2, .int a2]) ([]) rX12_draws_52 l_X12_286 moX12_does mvX12_does k1 rfl rfl (Nat.le_of_ble_eq_true rfl) ⟨rfl, rfl⟩ (CX12_does k1 e7) ?_
  refine tq_pop rX12_draws_55 rfl ?_
  refine ty_vret rX12_draws_56 rfl rfl ?_
  have hf := Option.some.inj hf
  subst hf
  exact hk

set_option maxRecDepth 100000 in
set_option maxHeartbeats 4000000 in
theorem FX12_draws_j23_x {S : Nat × (Nat → Int32)} {d : Nat} {I : tq_PI} {L : tq_PL} {a0 : Nat} {a1 : Int32} {b0 : Int32} {b1 : Nat} (h0 : tq_sh0 a0 = 12) (k1 : tq_sh0 b1 = 12) {q0 : Option Value → tq_PI → tq_PL → Prop} {out : tq_PI} (hf : FX12_draws_j23 I L a0 a1 b0 b1 = some out) (hk : q0 none out L) : tq_X S mX12_draws (d + 6) tq_k0 23 ([.ref a0, .int a1, tq_u]) ([.int b0, .ref b1]) (tq_st I L) (tq_Q q0) := by
  unfold FX12_draws_j23 at hf
  obtain ⟨p4, e4, hf⟩ := Option.bind_eq_some_iff.mp hf
  refine ty_callVI p4.1 ([.int b0]) ([]) rX12_draws_23 l_X12_416 moX12_below mvX12_below k1 rfl rfl (Nat.le_of_ble_eq_true rfl) ⟨rfl, rfl⟩ (CX12_below k1 e4) ?_
  refine tq_istore_n ([.ref a0, .int a1, .int p4.1]) rX12_draws_26 (Nat.le_of_ble_eq_true rfl) rfl ?_
  refine tq_aload_n rX12_draws_27 rfl ?_
  refine tq_iload_n rX12_draws_28 rfl ?_
  refine tq_iconst (3 : Int32) rX12_draws_29 (by decide) ?_
  refine tq_icmp_ge rX12_draws_30 (fun c5 => ?_) (fun c5 => ?_)
  · rw [if_pos c5] at hf
    refine tq_iload_n rX12_draws_37 rfl ?_
    refine tq_bipush (6 : Int32) rX12_draws_38 (by decide) ?_
    refine tq_icmp_ge rX12_draws_40 (fun c6 => ?_) (fun c6 => ?_)
    · rw [if_pos c6] at hf
      refine tq_iload_n rX12_draws_47 rfl ?_
      refine tq_iconst (4 : Int32) rX12_draws_48 (by decide) ?_
      refine tq_isub rX12_draws_49 ?_
      exact tq_forget _ (tq_le_u (tq_le_u (tq_le_s tq_le_n))) (FX12_draws_j50_x  h0 hf hk)
    · rw [if_neg c6] at hf
      refine tq_iconst (1 : Int32) rX12_draws_43 (by decide) ?_
      refine tq_goto rX12_draws_44 ?_
      exact tq_forget _ (tq_le_u (tq_le_u (tq_le_s tq_le_n))) (FX12_draws_j50_x  h0 hf hk)
  · rw [if_neg c5] at hf
    refine tq_iconst (0 : Int32) rX12_draws_33 (by decide) ?_
    refine tq_goto rX12_draws_34 ?_
    exact tq_forget _ (tq_le_u (tq_le_u (tq_le_s tq_le_n))) (FX12_draws_j50_x  h0 hf hk)

set_option maxRecDepth 100000 in
set_option maxHeartbeats 4000000 in
theorem CX12_draws {S : Nat × (Nat → Int32)} {d : Nat} {I : tq_PI} {L : tq_PL} {a0 : Nat} (h0 : tq_sh0 a0 = 12) {out : tq_PI} (hf : FX12_draws I L a0 = some out) : tq_K S mX12_draws (d + 6) [.ref a0] I L (tq_one2 (none) out L) := by
  unfold FX12_draws at hf
  refine tq_K_of (by decide) (Nat.le_of_ble_eq_true rfl) (ls := [.ref a0, tq_u, tq_u]) rfl ?_
  refine tq_aload_n rX12_draws_0 rfl ?_
  refine tq_bipush (8 : Int32) rX12_draws_1 (by decide) ?_
  obtain ⟨p1, e1, hf⟩ := Option.bind_eq_some_iff.mp hf
  refine ty_callVI p1.1 ([.int (8 : Int32)]) ([]) rX12_draws_3 l_X12_416 moX12_below mvX12_below h0 rfl rfl (Nat.le_of_ble_eq_true rfl) ⟨rfl, rfl⟩ (CX12_below h0 e1) ?_
  refine tq_istore_n ([.ref a0, .int p1.1, tq_u]) rX12_draws_6 (Nat.le_of_ble_eq_true rfl) rfl ?_
  refine tq_aload_n rX12_draws_7 rfl ?_
  refine tq_iload_n rX12_draws_8 rfl ?_
  refine tq_bipush (7 : Int32) rX12_draws_9 (by decide) ?_
  refine tq_icmp_ne rX12_draws_11 (fun c2 => ?_) (fun c2 => ?_)
  · rw [if_neg c2] at hf
    refine tq_aload_n rX12_draws_19 rfl ?_
    obtain ⟨p3, e3, hf⟩ := tq_let_elim hf
    refine ty_callVI p3 ([]) ([.ref a0]) rX12_draws_20 l_X12_190 moX12_many mvX12_many h0 rfl rfl (Nat.le_of_ble_eq_true rfl) ⟨rfl, rfl⟩ (CX12_many h0 e3) ?_
    exact tq_forget _ (tq_le_s (tq_le_s (tq_le_u tq_le_n))) (FX12_draws_j23_x  h0 h0 hf ⟨rfl, rfl, rfl⟩)
  · rw [if_pos c2] at hf
    refine tq_bipush (10 : Int32) rX12_draws_14 (by decide) ?_
    refine tq_goto rX12_draws_16 ?_
    exact tq_forget _ (tq_le_s (tq_le_s (tq_le_u tq_le_n))) (FX12_draws_j23_x  h0 h0 hf ⟨rfl, rfl, rfl⟩)

abbrev mX12_drawn : tq_M := (yX12_drawn, cX12_drawn, 6, (Option.some Jvm.ClassFile.FieldType.int), 0, 0)
theorem moX12_draws : tq_mok mX12_draws 0 := ⟨tq_sg1 _ (List.mem_of_getElem? (i := 13) rfl), tq_sg8 _ (List.mem_of_getElem? (i := 186) rfl), ⟨by decide, by decide, by decide +kernel⟩, by decide⟩
theorem mvX12_draws : 12 < 13 ∧ (tq_cl 12).1 = mX12_draws.1.cls ∧ Cond.instanceMethod mX12_draws.1 ∈ lw_tbl ∧ Cond.selects mX12_draws.1.cls mX12_draws.1 mX12_draws.1 ∈ lw_tbl := ⟨by decide, rfl, tq_sg8 _ (List.mem_of_getElem? (i := 185) rfl), List.mem_append_left _ (List.mem_map.mpr ⟨_, List.mem_of_getElem? (i := 111) rfl, rfl⟩)⟩
theorem l_X12_419 : tq_lok RX12 419 mX12_draws.1 := Or.inl (tq_sg8 _ (List.mem_of_getElem? (i := 183) rfl))
theorem rX12_drawn_0 : tq_D cX12_drawn 0 (.aload_n 0) 1 1 := ⟨by decide +kernel, rfl⟩
theorem rX12_drawn_1 : tq_D cX12_drawn 1 (.iload_n 1) 1 2 := ⟨by decide +kernel, rfl⟩
theorem rX12_drawn_2 : tq_D cX12_drawn 2 (.invokevirtual 221) 3 5 := ⟨by decide +kernel, rfl⟩
theorem rX12_drawn_5 : tq_J cX12_drawn 5 (.ifCond .eq) 23 8 := ⟨18, by decide +kernel, by decide, rfl⟩
theorem rX12_drawn_8 : tq_D cX12_drawn 8 (.iload_n 3) 1 9 := ⟨by decide +kernel, rfl⟩
theorem rX12_drawn_9 : tq_D cX12_drawn 9 (.iconst 0) 1 10 := ⟨by decide +kernel, rfl⟩
theorem rX12_drawn_10 : tq_D cX12_drawn 10 (.bipush 60) 2 12 := ⟨by decide +kernel, rfl⟩
theorem rX12_drawn_12 : tq_D cX12_drawn 12 (.invokestatic 118) 3 15 := ⟨by decide +kernel, rfl⟩
theorem rX12_drawn_15 : tq_J cX12_drawn 15 (.ifCond .eq) 23 18 := ⟨8, by decide +kernel, by decide, rfl⟩
theorem rX12_drawn_18 : tq_D cX12_drawn 18 (.iload 4) 2 20 := ⟨by decide +kernel, rfl⟩
theorem rX12_drawn_20 : tq_J cX12_drawn 20 (.ifCond .ge) 26 23 := ⟨6, by decide +kernel, by decide, rfl⟩
theorem rX12_drawn_23 : tq_D cX12_drawn 23 (.bipush (-2)) 2 25 := ⟨by decide +kernel, rfl⟩
theorem rX12_drawn_25 : decode cX12_drawn 25 = .ok (.ireturn, 1) := by decide +kernel
theorem rX12_drawn_26 : tq_D cX12_drawn 26 (.aload_n 0) 1 27 := ⟨by decide +kernel, rfl⟩
theorem rX12_drawn_27 : tq_D cX12_drawn 27 (.iload_n 2) 1 28 := ⟨by decide +kernel, rfl⟩
theorem rX12_drawn_28 : tq_D cX12_drawn 28 (.putfield 412) 3 31 := ⟨by decide +kernel, rfl⟩
theorem rX12_drawn_31 : tq_D cX12_drawn 31 (.aload_n 0) 1 32 := ⟨by decide +kernel, rfl⟩
theorem rX12_drawn_32 : tq_D cX12_drawn 32 (.invokevirtual 289) 3 35 := ⟨by decide +kernel, rfl⟩
theorem rX12_drawn_35 : tq_D cX12_drawn 35 (.iconst 0) 1 36 := ⟨by decide +kernel, rfl⟩
theorem rX12_drawn_36 : tq_D cX12_drawn 36 (.istore 5) 2 38 := ⟨by decide +kernel, rfl⟩
theorem rX12_drawn_38 : tq_D cX12_drawn 38 (.iload 5) 2 40 := ⟨by decide +kernel, rfl⟩
theorem rX12_drawn_40 : tq_D cX12_drawn 40 (.iload_n 3) 1 41 := ⟨by decide +kernel, rfl⟩
theorem rX12_drawn_41 : tq_J cX12_drawn 41 (.if_icmp .ge) 54 44 := ⟨13, by decide +kernel, by decide, rfl⟩
theorem rX12_drawn_44 : tq_D cX12_drawn 44 (.aload_n 0) 1 45 := ⟨by decide +kernel, rfl⟩
theorem rX12_drawn_45 : tq_D cX12_drawn 45 (.invokevirtual 419) 3 48 := ⟨by decide +kernel, rfl⟩
theorem rX12_drawn_48 : tq_D cX12_drawn 48 (.iinc 5 1) 3 51 := ⟨by decide +kernel, rfl⟩
theorem rX12_drawn_51 : tq_J cX12_drawn 51 .goto 38 54 := ⟨(-13), by decide +kernel, by decide, rfl⟩
theorem rX12_drawn_54 : tq_D cX12_drawn 54 (.aload_n 0) 1 55 := ⟨by decide +kernel, rfl⟩
theorem rX12_drawn_55 : tq_D cX12_drawn 55 (.iload 4) 2 57 := ⟨by decide +kernel, rfl⟩
theorem rX12_drawn_57 : tq_D cX12_drawn 57 (.invokevirtual 298) 3 60 := ⟨by decide +kernel, rfl⟩
theorem rX12_drawn_60 : decode cX12_drawn 60 = .ok (.ireturn, 1) := by decide +kernel
noncomputable def FX12_drawn_j23 (I : tq_PI) (L : tq_PL)  : Option (Int32 × tq_PI) :=
  some ((-2 : Int32), I)
noncomputable def FX12_drawn_s38 (I : tq_PI) (L : tq_PL) (a0 : Nat) (a3 : Int32) (a4 : Int32) (a5 : Int32) : Option ((Int32 × tq_PI) ⊕ (tq_PI)) :=
  (if a3 ≤ a5 then some (.inr I) else ((FX12_draws I L a0).bind fun p8 => some (.inl ((a5 + 1), p8))))
noncomputable def FX12_drawn (I : tq_PI) (L : tq_PL) (a0 : Nat) (a1 : Int32) (a2 : Int32) (a3 : Int32) (a4 : Int32) : Option (Int32 × tq_PI) :=
  ((FX12_isHill I L a0 a1).bind fun p1 => (if (tq_b p1.1) = 0 then (FX12_drawn_j23 p1.2 L ) else (tq_let (FX12_isIn p1.2 L a3 ((0 : Int32)) ((60 : Int32))) fun p3 => (if (tq_b p3) = 0 then (FX12_drawn_j23 p1.2 L ) else (if 0 ≤ a4 then ((FX12_begins ((tq_up2 p1.2 a0 38 a2)) L a0).bind fun p6 => ((tq_it (fun p : Int32 × tq_PI => FX12_drawn_s38 p.2 L a0 a3 a4 p.1) tq_N ((0 : Int32), p6)).bind fun p9 => ((FX12_nowOf p9 L a0 a4).bind fun p10 => some (p10.1, p10.2)))) else (FX12_drawn_j23 p1.2 L ))))))
set_option maxRecDepth 100000 in
set_option maxHeartbeats 4000000 in
theorem FX12_drawn_j23_x {S : Nat × (Nat → Int32)} {d : Nat} {I : tq_PI} {L : tq_PL}   {q0 : Option Value → tq_PI → tq_PL → Prop} {out : Int32 × tq_PI} (hf : FX12_drawn_j23 I L = some out) (hk : q0 (some (.int out.1)) out.2 L) : tq_X S mX12_drawn (d + 7) tq_k0 23 ([tq_u, tq_u, tq_u, tq_u, tq_u, tq_u]) ([]) (tq_st I L) (tq_Q q0) := by
  unfold FX12_drawn_j23 at hf
  refine tq_bipush (-2 : Int32) rX12_drawn_23 (by decide) ?_
  refine ty_iret rX12_drawn_25 rfl rfl ?_
  have hf := Option.some.inj hf
  subst hf
  exact hk

set_option maxRecDepth 100000 in
set_option maxHeartbeats 4000000 in
theorem FX12_drawn_s38_x {S : Nat × (Nat → Int32)} {d : Nat} {I : tq_PI} {L : tq_PL} {a0 : Nat} {a3 : Int32} {a4 : Int32} {a5 : Int32} (h0 : tq_sh0 a0 = 12) {q0 : Option Value → tq_PI → tq_PL → Prop} {out : (Int32 × tq_PI) ⊕ (tq_PI)} (hf : FX12_drawn_s38 I L a0 a3 a4 a5 = some out) (hk : Sum.elim (fun p : Int32 × tq_PI => tq_X S mX12_drawn (d + 7) tq_k0 38 ([.ref a0, tq_u, tq_u, .int a3, .int a4, .int p.1]) [] (tq_st p.2 L) (tq_Q q0)) (fun p : tq_PI => tq_X S mX12_drawn (d + 7) tq_k0 54 ([.ref a0, tq_u, tq_u, tq_u, .int a4, tq_u]) [] (tq_st p L) (tq_Q q0)) out) : tq_X S mX12_drawn (d + 7) tq_k0 38 ([.ref a0, tq_u, tq_u, .int a3, .int a4, .int a5]) [] (tq_st I L) (tq_Q q0) := by
  unfold FX12_drawn_s38 at hf
  refine tq_iload rX12_drawn_38 rfl ?_
  refine tq_iload_n rX12_drawn_40 rfl ?_
  refine tq_icmp_ge rX12_drawn_41 (fun c7 => ?_) (fun c7 => ?_)
  · rw [if_pos c7] at hf
    have hf := Option.some.inj hf
    subst hf
    exact tq_forget _ (tq_le_s (tq_le_u (tq_le_u (tq_le_u (tq_le_s (tq_le_u tq_le_n)))))) hk
  · rw [if_neg c7] at hf
    refine tq_aload_n rX12_drawn_44 rfl ?_
    obtain ⟨p8, e8, hf⟩ := Option.bind_eq_some_iff.mp hf
    refine ty_callVV ([]) ([]) rX12_drawn_45 l_X12_419 moX12_draws mvX12_draws h0 rfl rfl (Nat.le_of_ble_eq_true rfl) ⟨rfl, rfl⟩ (CX12_draws h0 e8) ?_
    refine tq_iinc (a5 + 1) ([.ref a0, tq_u, tq_u, .int a3, .int a4, .int (a5 + 1)]) rX12_drawn_48 rfl (tq_inc (by decide)) (Nat.le_of_ble_eq_true rfl) rfl ?_
    refine tq_goto rX12_drawn_51 ?_
    have hf := Option.some.inj hf
    subst hf
    exact tq_forget _ (tq_le_s (tq_le_u (tq_le_u (tq_le_s (tq_le_s (tq_le_s tq_le_n)))))) hk

set_option maxRecDepth 100000 in
set_option maxHeartbeats 4000000 in
theorem CX12_drawn {S : Nat × (Nat → Int32)} {d : Nat} {I : tq_PI} {L : tq_PL} {a0 : Nat} {a1 : Int32} {a2 : Int32} {a3 : Int32} {a4 : Int32} (h0 : tq_sh0 a0 = 12) {out : Int32 × tq_PI} (hf : FX12_drawn I L a0 a1 a2 a3 a4 = some out) : tq_K S mX12_drawn (d + 7) [.ref a0, .int a1, .int a2, .int a3, .int a4] I L (tq_one2 (some (.int out.1)) out.2 L) := by
  unfold FX12_drawn at hf
  refine tq_K_of (by decide) (Nat.le_of_ble_eq_true rfl) (ls := [.ref a0, .int a1, .int a2, .int a3, .int a4, tq_u]) rfl ?_
  refine tq_aload_n rX12_drawn_0 rfl ?_
  refine tq_iload_n rX12_drawn_1 rfl ?_
  obtain ⟨p1, e1, hf⟩ := Option.bind_eq_some_iff.mp hf
  refine ty_callVI (tq_b p1.1) ([.int a1]) ([]) rX12_drawn_2 l_X12_221 moX12_isHill mvX12_isHill h0 rfl rfl (Nat.le_of_ble_eq_true rfl) ⟨rfl, rfl⟩ (CX12_isHill h0 e1) ?_
  refine tq_if_eq rX12_drawn_5 (fun c2 => ?_) (fun c2 => ?_)
  · rw [if_pos c2] at hf
    exact tq_forget _ (tq_le_u (tq_le_u (tq_le_u (tq_le_u (tq_le_u (tq_le_u tq_le_n)))))) (FX12_drawn_j23_x   hf ⟨rfl, rfl, rfl⟩)
  · rw [if_neg c2] at hf
    refine tq_iload_n rX12_drawn_8 rfl ?_
    refine tq_iconst (0 : Int32) rX12_drawn_9 (by decide) ?_
    refine tq_bipush (60 : Int32) rX12_drawn_10 (by decide) ?_
    obtain ⟨p3, e3, hf⟩ := tq_let_elim hf
    refine ty_callSI (tq_b p3) ([.int a3, .int (0 : Int32), .int (60 : Int32)]) ([]) rX12_drawn_12 l_X12_118 moX12_isIn msX12_isIn rfl rfl (Nat.le_of_ble_eq_true rfl) ⟨rfl, rfl⟩ (CX12_isIn  e3) ?_
    refine tq_if_eq rX12_drawn_15 (fun c4 => ?_) (fun c4 => ?_)
    · rw [if_pos c4] at hf
      exact tq_forget _ (tq_le_u (tq_le_u (tq_le_u (tq_le_u (tq_le_u (tq_le_u tq_le_n)))))) (FX12_drawn_j23_x   hf ⟨rfl, rfl, rfl⟩)
    · rw [if_neg c4] at hf
      refine tq_iload rX12_drawn_18 rfl ?_
      refine tq_if_ge rX12_drawn_20 (fun c5 => ?_) (fun c5 => ?_)
      · rw [if_pos c5] at hf
        refine tq_aload_n rX12_drawn_26 rfl ?_
        refine tq_iload_n rX12_drawn_27 rfl ?_
        refine ty_putI rX12_drawn_28 f_X12_412 rfl h0 rfl ?_
        refine tq_aload_n rX12_drawn_31 rfl ?_
        obtain ⟨p6, e6, hf⟩ := Option.bind_eq_some_iff.mp hf
        refine ty_callVV ([]) ([]) rX12_drawn_32 l_X12_289 moX12_begins mvX12_begins h0 rfl rfl (Nat.le_of_ble_eq_true rfl) ⟨rfl, rfl⟩ (CX12_begins h0 e6) ?_
        refine tq_iconst (0 : Int32) rX12_drawn_35 (by decide) ?_
        refine tq_istore ([.ref a0, .int a1, .int a2, .int a3, .int a4, .int (0 : Int32)]) rX12_drawn_36 (Nat.le_of_ble_eq_true rfl) rfl ?_
        obtain ⟨p9, e9, hf⟩ := Option.bind_eq_some_iff.mp hf
        refine tq_forget _ (tq_le_s (tq_le_u (tq_le_u (tq_le_s (tq_le_s (tq_le_s tq_le_n)))))) ?_
        refine tq_it_elim (P := fun p : Int32 × tq_PI => tq_X S mX12_drawn (d + 7) tq_k0 38 ([.ref a0, tq_u, tq_u, .int a3, .int a4, .int p.1]) [] (tq_st p.2 L) (tq_Q (tq_one2 (some (.int out.1)) out.2 L))) (R := fun p : tq_PI => tq_X S mX12_drawn (d + 7) tq_k0 54 ([.ref a0, tq_u, tq_u, tq_u, .int a4, tq_u]) [] (tq_st p L) (tq_Q (tq_one2 (some (.int out.1)) out.2 L))) (fun p o hp hk => FX12_drawn_s38_x  h0 hp hk) _ (((0 : Int32), p6)) _ e9 ?_
        show tq_X _ _ _ _ _ _ _ _ _
        refine tq_aload_n rX12_drawn_54 rfl ?_
        refine tq_iload rX12_drawn_55 rfl ?_
        obtain ⟨p10, e10, hf⟩ := Option.bind_eq_some_iff.mp hf
        refine ty_callVI p10.1 ([.int a4]) ([]) rX12_drawn_57 l_X12_298 moX12_nowOf mvX12_nowOf h0 rfl rfl (Nat.le_of_ble_eq_true rfl) ⟨rfl, rfl⟩ (CX12_nowOf h0 e10) ?_
        refine ty_iret rX12_drawn_60 rfl rfl ?_
        have hf := Option.some.inj hf
        subst hf
        exact ⟨rfl, rfl, rfl⟩
      · rw [if_neg c5] at hf
        exact tq_forget _ (tq_le_u (tq_le_u (tq_le_u (tq_le_u (tq_le_u (tq_le_u tq_le_n)))))) (FX12_drawn_j23_x   hf ⟨rfl, rfl, rfl⟩)

abbrev mX12_count : tq_M := (yX12_count, cX12_count, 2, (Option.some Jvm.ClassFile.FieldType.int), 0, 0)
theorem rX12_count_0 : tq_D cX12_count 0 (.iload_n 1) 1 1 := ⟨by decide +kernel, rfl⟩
theorem rX12_count_1 : tq_D cX12_count 1 (.iconst 0) 1 2 := ⟨by decide +kernel, rfl⟩
theorem rX12_count_2 : tq_D cX12_count 2 (.iconst 3) 1 3 := ⟨by decide +kernel, rfl⟩
theorem rX12_count_3 : tq_D cX12_count 3 (.invokestatic 118) 3 6 := ⟨by decide +kernel, rfl⟩
theorem rX12_count_6 : tq_J cX12_count 6 (.ifCond .eq) 18 9 := ⟨12, by decide +kernel, by decide, rfl⟩
theorem rX12_count_9 : tq_D cX12_count 9 (.aload_n 0) 1 10 := ⟨by decide +kernel, rfl⟩
theorem rX12_count_10 : tq_D cX12_count 10 (.getfield 7) 3 13 := ⟨by decide +kernel, rfl⟩
theorem rX12_count_13 : tq_D cX12_count 13 (.iload_n 1) 1 14 := ⟨by decide +kernel, rfl⟩
theorem rX12_count_14 : tq_D cX12_count 14 (.iaload) 1 15 := ⟨by decide +kernel, rfl⟩
theorem rX12_count_15 : tq_J cX12_count 15 .goto 20 18 := ⟨5, by decide +kernel, by decide, rfl⟩
theorem rX12_count_18 : tq_D cX12_count 18 (.bipush (-2)) 2 20 := ⟨by decide +kernel, rfl⟩
theorem rX12_count_20 : decode cX12_count 20 = .ok (.ireturn, 1) := by decide +kernel
noncomputable def FX12_count (I : tq_PI) (L : tq_PL) (a0 : Nat) (a1 : Int32) : Option (Int32) :=
  (tq_let (FX12_isIn I L a1 ((0 : Int32)) ((3 : Int32))) fun p1 => (if (tq_b p1) = 0 then some (-2 : Int32) else (if 0 ≤ a1 ∧ a1 < 4016 then some (I (tq_rg a0 0) a1.toNatClampNeg) else none)))
set_option maxRecDepth 100000 in
set_option maxHeartbeats 4000000 in
theorem CX12_count {S : Nat × (Nat → Int32)} {d : Nat} {I : tq_PI} {L : tq_PL} {a0 : Nat} {a1 : Int32} (h0 : tq_sh0 a0 = 12) {out : Int32} (hf : FX12_count I L a0 a1 = some out) : tq_K S mX12_count (d + 1) [.ref a0, .int a1] I L (tq_one2 (some (.int out)) I L) := by
  unfold FX12_count at hf
  refine tq_K_of (by decide) (Nat.le_of_ble_eq_true rfl) (ls := [.ref a0, .int a1]) rfl ?_
  refine tq_iload_n rX12_count_0 rfl ?_
  refine tq_iconst (0 : Int32) rX12_count_1 (by decide) ?_
  refine tq_iconst (3 : Int32) rX12_count_2 (by decide) ?_
  obtain ⟨p1, e1, hf⟩ := tq_let_elim hf
  refine ty_callSI (tq_b p1) ([.int a1, .int (0 : Int32), .int (3 : Int32)]) ([]) rX12_count_3 l_X12_118 moX12_isIn msX12_isIn rfl rfl (Nat.le_of_ble_eq_true rfl) ⟨rfl, rfl⟩ (CX12_isIn  e1) ?_
  refine tq_if_eq rX12_count_6 (fun c2 => ?_) (fun c2 => ?_)
  · rw [if_pos c2] at hf
    refine tq_bipush (-2 : Int32) rX12_count_18 (by decide) ?_
    refine ty_iret rX12_count_20 rfl rfl ?_
    have hf := Option.some.inj hf
    subst hf
    exact ⟨rfl, rfl, rfl⟩
  · rw [if_neg c2] at hf
    refine tq_aload_n rX12_count_9 rfl ?_
    refine ty_getR rX12_count_10 f_X12_7 rfl h0 (hp_12_0 h0).1 ?_
    refine tq_iload_n rX12_count_13 rfl ?_
    obtain ⟨g3, hf⟩ := tq_chk hf
    refine ty_iald (v := 4016) rX12_count_14 (hp_12_0 h0).2.1 (hp_12_0 h0).2.2 rfl (by decide) g3 ?_
    refine tq_goto rX12_count_15 ?_
    refine ty_iret rX12_count_20 rfl rfl ?_
    have hf := Option.some.inj hf
    subst hf
    exact ⟨rfl, rfl, rfl⟩

abbrev mX12_image : tq_M := (yX12_image, cX12_image, 3, (Option.some Jvm.ClassFile.FieldType.boolean), 0, 0)
theorem f_X12_13 : tq_fok RX12 13 12 1 := ⟨by decide, by decide, Or.inl (tq_sg6 _ (List.mem_of_getElem? (i := 74) rfl))⟩
theorem rX12_image_0 : tq_D cX12_image 0 (.iload_n 1) 1 1 := ⟨by decide +kernel, rfl⟩
theorem rX12_image_1 : tq_D cX12_image 1 (.iconst 0) 1 2 := ⟨by decide +kernel, rfl⟩
theorem rX12_image_2 : tq_D cX12_image 2 (.iconst 2) 1 3 := ⟨by decide +kernel, rfl⟩
theorem rX12_image_3 : tq_D cX12_image 3 (.invokestatic 118) 3 6 := ⟨by decide +kernel, rfl⟩
theorem rX12_image_6 : tq_J cX12_image 6 (.ifCond .ne) 11 9 := ⟨5, by decide +kernel, by decide, rfl⟩
theorem rX12_image_9 : tq_D cX12_image 9 (.iconst 0) 1 10 := ⟨by decide +kernel, rfl⟩
theorem rX12_image_10 : decode cX12_image 10 = .ok (.ireturn, 1) := by decide +kernel
theorem rX12_image_11 : tq_D cX12_image 11 (.aload_n 0) 1 12 := ⟨by decide +kernel, rfl⟩
theorem rX12_image_12 : tq_D cX12_image 12 (.getfield 13) 3 15 := ⟨by decide +kernel, rfl⟩
theorem rX12_image_15 : tq_D cX12_image 15 (.iload_n 1) 1 16 := ⟨by decide +kernel, rfl⟩
theorem rX12_image_16 : tq_D cX12_image 16 (.iconst 1) 1 17 := ⟨by decide +kernel, rfl⟩
theorem rX12_image_17 : tq_D cX12_image 17 (.bastore) 1 18 := ⟨by decide +kernel, rfl⟩
theorem rX12_image_18 : tq_D cX12_image 18 (.iconst 0) 1 19 := ⟨by decide +kernel, rfl⟩
theorem rX12_image_19 : tq_D cX12_image 19 (.istore_n 2) 1 20 := ⟨by decide +kernel, rfl⟩
theorem rX12_image_20 : tq_D cX12_image 20 (.iload_n 2) 1 21 := ⟨by decide +kernel, rfl⟩
theorem rX12_image_21 : tq_D cX12_image 21 (.sipush 1004) 3 24 := ⟨by decide +kernel, rfl⟩
theorem rX12_image_24 : tq_J cX12_image 24 (.if_icmp .ge) 53 27 := ⟨29, by decide +kernel, by decide, rfl⟩
theorem rX12_image_27 : tq_D cX12_image 27 (.aload_n 0) 1 28 := ⟨by decide +kernel, rfl⟩
theorem rX12_image_28 : tq_D cX12_image 28 (.getfield 7) 3 31 := ⟨by decide +kernel, rfl⟩
theorem rX12_image_31 : tq_D cX12_image 31 (.sipush 1004) 3 34 := ⟨by decide +kernel, rfl⟩
theorem rX12_image_34 : tq_D cX12_image 34 (.iload_n 1) 1 35 := ⟨by decide +kernel, rfl⟩
theorem rX12_image_35 : tq_D cX12_image 35 (.iconst 1) 1 36 := ⟨by decide +kernel, rfl⟩
theorem rX12_image_36 : tq_D cX12_image 36 (.iadd) 1 37 := ⟨by decide +kernel, rfl⟩
theorem rX12_image_37 : tq_D cX12_image 37 (.imul) 1 38 := ⟨by decide +kernel, rfl⟩
theorem rX12_image_38 : tq_D cX12_image 38 (.iload_n 2) 1 39 := ⟨by decide +kernel, rfl⟩
theorem rX12_image_39 : tq_D cX12_image 39 (.iadd) 1 40 := ⟨by decide +kernel, rfl⟩
theorem rX12_image_40 : tq_D cX12_image 40 (.aload_n 0) 1 41 := ⟨by decide +kernel, rfl⟩
theorem rX12_image_41 : tq_D cX12_image 41 (.getfield 7) 3 44 := ⟨by decide +kernel, rfl⟩
theorem rX12_image_44 : tq_D cX12_image 44 (.iload_n 2) 1 45 := ⟨by decide +kernel, rfl⟩
theorem rX12_image_45 : tq_D cX12_image 45 (.iaload) 1 46 := ⟨by decide +kernel, rfl⟩
theorem rX12_image_46 : tq_D cX12_image 46 (.iastore) 1 47 := ⟨by decide +kernel, rfl⟩
theorem rX12_image_47 : tq_D cX12_image 47 (.iinc 2 1) 3 50 := ⟨by decide +kernel, rfl⟩
theorem rX12_image_50 : tq_J cX12_image 50 .goto 20 53 := ⟨(-30), by decide +kernel, by decide, rfl⟩
theorem rX12_image_53 : tq_D cX12_image 53 (.iconst 1) 1 54 := ⟨by decide +kernel, rfl⟩
theorem rX12_image_54 : decode cX12_image 54 = .ok (.ireturn, 1) := by decide +kernel
noncomputable def FX12_image_s20 (I : tq_PI) (L : tq_PL) (a0 : Nat) (a1 : Int32) (a2 : Int32) : Option ((Int32 × tq_PI) ⊕ (tq_PI)) :=
  (if (1004 : Int32) ≤ a2 then some (.inr I) else (if 0 ≤ a2 ∧ a2 < 4016 then (if 0 ≤ (((1004 : Int32) * (a1 + (1 : Int32))) + a2) ∧ (((1004 : Int32) * (a1 + (1 : Int32))) + a2) < 4016 then some (.inl ((a2 + 1), (tq_up2 I (tq_rg a0 0) ((((1004 : Int32) * (a1 + (1 : Int32))) + a2)).toNatClampNeg (I (tq_rg a0 0) a2.toNatClampNeg)))) else none) else none))
noncomputable def FX12_image (I : tq_PI) (L : tq_PL) (a0 : Nat) (a1 : Int32) : Option (Bool × tq_PI) :=
  (tq_let (FX12_isIn I L a1 ((0 : Int32)) ((2 : Int32))) fun p1 => (if (tq_b p1) = 0 then some (false, I) else (if 0 ≤ a1 ∧ a1 < 3 then ((tq_it (fun p : Int32 × tq_PI => FX12_image_s20 p.2 L a0 a1 p.1) tq_N ((0 : Int32), (tq_up2 I (tq_rg a0 1) a1.toNatClampNeg (1 : Int32)))).bind fun p7 => some (true, p7)) else none)))
set_option maxRecDepth 100000 in
set_option maxHeartbeats 4000000 in
theorem FX12_image_s20_x {S : Nat × (Nat → Int32)} {d : Nat} {I : tq_PI} {L : tq_PL} {a0 : Nat} {a1 : Int32} {a2 : Int32} (h0 : tq_sh0 a0 = 12) {q0 : Option Value → tq_PI → tq_PL → Prop} {out : (Int32 × tq_PI) ⊕ (tq_PI)} (hf : FX12_image_s20 I L a0 a1 a2 = some out) (hk : Sum.elim (fun p : Int32 × tq_PI => tq_X S mX12_image (d + 1) tq_k0 20 ([.ref a0, .int a1, .int p.1]) [] (tq_st p.2 L) (tq_Q q0)) (fun p : tq_PI => tq_X S mX12_image (d + 1) tq_k0 53 ([tq_u, tq_u, tq_u]) [] (tq_st p L) (tq_Q q0)) out) : tq_X S mX12_image (d + 1) tq_k0 20 ([.ref a0, .int a1, .int a2]) [] (tq_st I L) (tq_Q q0) := by
  unfold FX12_image_s20 at hf
  refine tq_iload_n rX12_image_20 rfl ?_
  refine tq_sipush (1004 : Int32) rX12_image_21 (by decide) ?_
  refine tq_icmp_ge rX12_image_24 (fun c4 => ?_) (fun c4 => ?_)
  · rw [if_pos c4] at hf
    have hf := Option.some.inj hf
    subst hf
    exact tq_forget _ (tq_le_u (tq_le_u (tq_le_u tq_le_n))) hk
  · rw [if_neg c4] at hf
    refine tq_aload_n rX12_image_27 rfl ?_
    refine ty_getR rX12_image_28 f_X12_7 rfl h0 (hp_12_0 h0).1 ?_
    refine tq_sipush (1004 : Int32) rX12_image_31 (by decide) ?_
    refine tq_iload_n rX12_image_34 rfl ?_
    refine tq_iconst (1 : Int32) rX12_image_35 (by decide) ?_
    refine tq_iadd rX12_image_36 ?_
    refine tq_imul rX12_image_37 ?_
    refine tq_iload_n rX12_image_38 rfl ?_
    refine tq_iadd rX12_image_39 ?_
    refine tq_aload_n rX12_image_40 rfl ?_
    refine ty_getR rX12_image_41 f_X12_7 rfl h0 (hp_12_0 h0).1 ?_
    refine tq_iload_n rX12_image_44 rfl ?_
    obtain ⟨g5, hf⟩ := tq_chk hf
    refine ty_iald (v := 4016) rX12_image_45 (hp_12_0 h0).2.1 (hp_12_0 h0).2.2 rfl (by decide) g5 ?_
    obtain ⟨g6, hf⟩ := tq_chk hf
    refine ty_iast (v := 4016) rX12_image_46 (hp_12_0 h0).2.1 (hp_12_0 h0).2.2 rfl (by decide) g6 ?_
    refine tq_iinc (a2 + 1) ([.ref a0, .int a1, .int (a2 + 1)]) rX12_image_47 rfl (tq_inc (by decide)) (Nat.le_of_ble_eq_true rfl) rfl ?_
    refine tq_goto rX12_image_50 ?_
    have hf := Option.some.inj hf
    subst hf
    exact tq_forget _ (tq_le_s (tq_le_s (tq_le_s tq_le_n))) hk

set_option maxRecDepth 100000 in
set_option maxHeartbeats 4000000 in
theorem CX12_image {S : Nat × (Nat → Int32)} {d : Nat} {I : tq_PI} {L : tq_PL} {a0 : Nat} {a1 : Int32} (h0 : tq_sh0 a0 = 12) {out : Bool × tq_PI} (hf : FX12_image I L a0 a1 = some out) : tq_K S mX12_image (d + 1) [.ref a0, .int a1] I L (tq_one2 (some (.int (tq_b out.1))) out.2 L) := by
  unfold FX12_image at hf
  refine tq_K_of (by decide) (Nat.le_of_ble_eq_true rfl) (ls := [.ref a0, .int a1, tq_u]) rfl ?_
  refine tq_iload_n rX12_image_0 rfl ?_
  refine tq_iconst (0 : Int32) rX12_image_1 (by decide) ?_
  refine tq_iconst (2 : Int32) rX12_image_2 (by decide) ?_
  obtain ⟨p1, e1, hf⟩ := tq_let_elim hf
  refine ty_callSI (tq_b p1) ([.int a1, .int (0 : Int32), .int (2 : Int32)]) ([]) rX12_image_3 l_X12_118 moX12_isIn msX12_isIn rfl rfl (Nat.le_of_ble_eq_true rfl) ⟨rfl, rfl⟩ (CX12_isIn  e1) ?_
  refine tq_if_ne rX12_image_6 (fun c2 => ?_) (fun c2 => ?_)
  · rw [if_neg c2] at hf
    refine tq_aload_n rX12_image_11 rfl ?_
    refine ty_getR rX12_image_12 f_X12_13 rfl h0 (hp_12_1 h0).1 ?_
    refine tq_iload_n rX12_image_15 rfl ?_
    refine tq_iconst (1 : Int32) rX12_image_16 (by decide) ?_
    obtain ⟨g3, hf⟩ := tq_chk hf
    refine ty_zast (v := 3) rX12_image_17 (hp_12_1 h0).2.1 (hp_12_1 h0).2.2 rfl (by decide) g3 (by decide) ?_
    refine tq_iconst (0 : Int32) rX12_image_18 (by decide) ?_
    refine tq_istore_n ([.ref a0, .int a1, .int (0 : Int32)]) rX12_image_19 (Nat.le_of_ble_eq_true rfl) rfl ?_
    obtain ⟨p7, e7, hf⟩ := Option.bind_eq_some_iff.mp hf
    refine tq_forget _ (tq_le_s (tq_le_s (tq_le_s tq_le_n))) ?_
    refine tq_it_elim (P := fun p : Int32 × tq_PI => tq_X S mX12_image (d + 1) tq_k0 20 ([.ref a0, .int a1, .int p.1]) [] (tq_st p.2 L) (tq_Q (tq_one2 (some (.int (tq_b out.1))) out.2 L))) (R := fun p : tq_PI => tq_X S mX12_image (d + 1) tq_k0 53 ([tq_u, tq_u, tq_u]) [] (tq_st p L) (tq_Q (tq_one2 (some (.int (tq_b out.1))) out.2 L))) (fun p o hp hk => FX12_image_s20_x  h0 hp hk) _ (((0 : Int32), (tq_up2 I (tq_rg a0 1) a1.toNatClampNeg (1 : Int32)))) _ e7 ?_
    show tq_X _ _ _ _ _ _ _ _ _
    refine tq_iconst (1 : Int32) rX12_image_53 (by decide) ?_
    refine ty_zret (ty := .boolean) rX12_image_54 rfl rfl rfl ?_
    have hf := Option.some.inj hf
    subst hf
    exact ⟨rfl, rfl, rfl⟩
  · rw [if_pos c2] at hf
    refine tq_iconst (0 : Int32) rX12_image_9 (by decide) ?_
    refine ty_zret (ty := .boolean) rX12_image_10 rfl rfl rfl ?_
    have hf := Option.some.inj hf
    subst hf
    exact ⟨rfl, rfl, rfl⟩

abbrev mX12_again : tq_M := (yX12_again, cX12_again, 3, (Option.some Jvm.ClassFile.FieldType.boolean), 0, 0)
theorem rX12_again_0 : tq_D cX12_again 0 (.iload_n 1) 1 1 := ⟨by decide +kernel, rfl⟩
theorem rX12_again_1 : tq_D cX12_again 1 (.iconst 0) 1 2 := ⟨by decide +kernel, rfl⟩
theorem rX12_again_2 : tq_D cX12_again 2 (.iconst 2) 1 3 := ⟨by decide +kernel, rfl⟩
theorem rX12_again_3 : tq_D cX12_again 3 (.invokestatic 118) 3 6 := ⟨by decide +kernel, rfl⟩
theorem rX12_again_6 : tq_J cX12_again 6 (.ifCond .eq) 18 9 := ⟨12, by decide +kernel, by decide, rfl⟩
theorem rX12_again_9 : tq_D cX12_again 9 (.aload_n 0) 1 10 := ⟨by decide +kernel, rfl⟩
theorem rX12_again_10 : tq_D cX12_again 10 (.getfield 13) 3 13 := ⟨by decide +kernel, rfl⟩
theorem rX12_again_13 : tq_D cX12_again 13 (.iload_n 1) 1 14 := ⟨by decide +kernel, rfl⟩
theorem rX12_again_14 : tq_D cX12_again 14 (.baload) 1 15 := ⟨by decide +kernel, rfl⟩
theorem rX12_again_15 : tq_J cX12_again 15 (.ifCond .ne) 20 18 := ⟨5, by decide +kernel, by decide, rfl⟩
theorem rX12_again_18 : tq_D cX12_again 18 (.iconst 0) 1 19 := ⟨by decide +kernel, rfl⟩
theorem rX12_again_19 : decode cX12_again 19 = .ok (.ireturn, 1) := by decide +kernel
theorem rX12_again_20 : tq_D cX12_again 20 (.iconst 0) 1 21 := ⟨by decide +kernel, rfl⟩
theorem rX12_again_21 : tq_D cX12_again 21 (.istore_n 2) 1 22 := ⟨by decide +kernel, rfl⟩
theorem rX12_again_22 : tq_D cX12_again 22 (.iload_n 2) 1 23 := ⟨by decide +kernel, rfl⟩
theorem rX12_again_23 : tq_D cX12_again 23 (.sipush 1004) 3 26 := ⟨by decide +kernel, rfl⟩
theorem rX12_again_26 : tq_J cX12_again 26 (.if_icmp .ge) 55 29 := ⟨29, by decide +kernel, by decide, rfl⟩
theorem rX12_again_29 : tq_D cX12_again 29 (.aload_n 0) 1 30 := ⟨by decide +kernel, rfl⟩
theorem rX12_again_30 : tq_D cX12_again 30 (.getfield 7) 3 33 := ⟨by decide +kernel, rfl⟩
theorem rX12_again_33 : tq_D cX12_again 33 (.iload_n 2) 1 34 := ⟨by decide +kernel, rfl⟩
theorem rX12_again_34 : tq_D cX12_again 34 (.aload_n 0) 1 35 := ⟨by decide +kernel, rfl⟩
theorem rX12_again_35 : tq_D cX12_again 35 (.getfield 7) 3 38 := ⟨by decide +kernel, rfl⟩
theorem rX12_again_38 : tq_D cX12_again 38 (.sipush 1004) 3 41 := ⟨by decide +kernel, rfl⟩
theorem rX12_again_41 : tq_D cX12_again 41 (.iload_n 1) 1 42 := ⟨by decide +kernel, rfl⟩
theorem rX12_again_42 : tq_D cX12_again 42 (.iconst 1) 1 43 := ⟨by decide +kernel, rfl⟩
theorem rX12_again_43 : tq_D cX12_again 43 (.iadd) 1 44 := ⟨by decide +kernel, rfl⟩
theorem rX12_again_44 : tq_D cX12_again 44 (.imul) 1 45 := ⟨by decide +kernel, rfl⟩
theorem rX12_again_45 : tq_D cX12_again 45 (.iload_n 2) 1 46 := ⟨by decide +kernel, rfl⟩
theorem rX12_again_46 : tq_D cX12_again 46 (.iadd) 1 47 := ⟨by decide +kernel, rfl⟩
theorem rX12_again_47 : tq_D cX12_again 47 (.iaload) 1 48 := ⟨by decide +kernel, rfl⟩
theorem rX12_again_48 : tq_D cX12_again 48 (.iastore) 1 49 := ⟨by decide +kernel, rfl⟩
theorem rX12_again_49 : tq_D cX12_again 49 (.iinc 2 1) 3 52 := ⟨by decide +kernel, rfl⟩
theorem rX12_again_52 : tq_J cX12_again 52 .goto 22 55 := ⟨(-30), by decide +kernel, by decide, rfl⟩
theorem rX12_again_55 : tq_D cX12_again 55 (.iconst 1) 1 56 := ⟨by decide +kernel, rfl⟩
theorem rX12_again_56 : decode cX12_again 56 = .ok (.ireturn, 1) := by decide +kernel
noncomputable def FX12_again_j18 (I : tq_PI) (L : tq_PL)  : Option (Bool × tq_PI) :=
  some (false, I)
noncomputable def FX12_again_s22 (I : tq_PI) (L : tq_PL) (a0 : Nat) (a1 : Int32) (a2 : Int32) : Option ((Int32 × tq_PI) ⊕ (tq_PI)) :=
  (if (1004 : Int32) ≤ a2 then some (.inr I) else (if 0 ≤ (((1004 : Int32) * (a1 + (1 : Int32))) + a2) ∧ (((1004 : Int32) * (a1 + (1 : Int32))) + a2) < 4016 then (if 0 ≤ a2 ∧ a2 < 4016 then some (.inl ((a2 + 1), (tq_up2 I (tq_rg a0 0) a2.toNatClampNeg (I (tq_rg a0 0) ((((1004 : Int32) * (a1 + (1 : Int32))) + a2)).toNatClampNeg)))) else none) else none))
noncomputable def FX12_again (I : tq_PI) (L : tq_PL) (a0 : Nat) (a1 : Int32) : Option (Bool × tq_PI) :=
  (tq_let (FX12_isIn I L a1 ((0 : Int32)) ((2 : Int32))) fun p1 => (if (tq_b p1) = 0 then (FX12_again_j18 I L ) else (if 0 ≤ a1 ∧ a1 < 3 then (if (I (tq_rg a0 1) a1.toNatClampNeg) = 0 then (FX12_again_j18 I L ) else ((tq_it (fun p : Int32 × tq_PI => FX12_again_s22 p.2 L a0 a1 p.1) tq_N ((0 : Int32), I)).bind fun p8 => some (true, p8))) else none)))
set_option maxRecDepth 100000 in
set_option maxHeartbeats 4000000 in
theorem FX12_again_j18_x {S : Nat × (Nat → Int32)} {d : Nat} {I : tq_PI} {L : tq_PL}   {q0 : Option Value → tq_PI → tq_PL → Prop} {out : Bool × tq_PI} (hf : FX12_again_j18 I L = some out) (hk : q0 (some (.int (tq_b out.1))) out.2 L) : tq_X S mX12_again (d + 1) tq_k0 18 ([tq_u, tq_u, tq_u]) ([]) (tq_st I L) (tq_Q q0) := by
  unfold FX12_again_j18 at hf
  refine tq_iconst (0 : Int32) rX12_again_18 (by decide) ?_
  refine ty_zret (ty := .boolean) rX12_again_19 rfl rfl rfl ?_
  have hf := Option.some.inj hf
  subst hf
  exact hk

set_option maxRecDepth 100000 in
set_option maxHeartbeats 4000000 in
theorem FX12_again_s22_x {S : Nat × (Nat → Int32)} {d : Nat} {I : tq_PI} {L : tq_PL} {a0 : Nat} {a1 : Int32} {a2 : Int32} (h0 : tq_sh0 a0 = 12) {q0 : Option Value → tq_PI → tq_PL → Prop} {out : (Int32 × tq_PI) ⊕ (tq_PI)} (hf : FX12_again_s22 I L a0 a1 a2 = some out) (hk : Sum.elim (fun p : Int32 × tq_PI => tq_X S mX12_again (d + 1) tq_k0 22 ([.ref a0, .int a1, .int p.1]) [] (tq_st p.2 L) (tq_Q q0)) (fun p : tq_PI => tq_X S mX12_again (d + 1) tq_k0 55 ([tq_u, tq_u, tq_u]) [] (tq_st p L) (tq_Q q0)) out) : tq_X S mX12_again (d + 1) tq_k0 22 ([.ref a0, .int a1, .int a2]) [] (tq_st I L) (tq_Q q0) := by
  unfold FX12_again_s22 at hf
  refine tq_iload_n rX12_again_22 rfl ?_
  refine tq_sipush (1004 : Int32) rX12_again_23 (by decide) ?_
  refine tq_icmp_ge rX12_again_26 (fun c5 => ?_) (fun c5 => ?_)
  · rw [if_pos c5] at hf
    have hf := Option.some.inj hf
    subst hf
    exact tq_forget _ (tq_le_u (tq_le_u (tq_le_u tq_le_n))) hk
  · rw [if_neg c5] at hf
    refine tq_aload_n rX12_again_29 rfl ?_
    refine ty_getR rX12_again_30 f_X12_7 rfl h0 (hp_12_0 h0).1 ?_
    refine tq_iload_n rX12_again_33 rfl ?_
    refine tq_aload_n rX12_again_34 rfl ?_
    refine ty_getR rX12_again_35 f_X12_7 rfl h0 (hp_12_0 h0).1 ?_
    refine tq_sipush (1004 : Int32) rX12_again_38 (by decide) ?_
    refine tq_iload_n rX12_again_41 rfl ?_
    refine tq_iconst (1 : Int32) rX12_again_42 (by decide) ?_
    refine tq_iadd rX12_again_43 ?_
    refine tq_imul rX12_again_44 ?_
    refine tq_iload_n rX12_again_45 rfl ?_
    refine tq_iadd rX12_again_46 ?_
    obtain ⟨g6, hf⟩ := tq_chk hf
    refine ty_iald (v := 4016) rX12_again_47 (hp_12_0 h0).2.1 (hp_12_0 h0).2.2 rfl (by decide) g6 ?_
    obtain ⟨g7, hf⟩ := tq_chk hf
    refine ty_iast (v := 4016) rX12_again_48 (hp_12_0 h0).2.1 (hp_12_0 h0).2.2 rfl (by decide) g7 ?_
    refine tq_iinc (a2 + 1) ([.ref a0, .int a1, .int (a2 + 1)]) rX12_again_49 rfl (tq_inc (by decide)) (Nat.le_of_ble_eq_true rfl) rfl ?_
    refine tq_goto rX12_again_52 ?_
    have hf := Option.some.inj hf
    subst hf
    exact tq_forget _ (tq_le_s (tq_le_s (tq_le_s tq_le_n))) hk

set_option maxRecDepth 100000 in
set_option maxHeartbeats 4000000 in
theorem CX12_again {S : Nat × (Nat → Int32)} {d : Nat} {I : tq_PI} {L : tq_PL} {a0 : Nat} {a1 : Int32} (h0 : tq_sh0 a0 = 12) {out : Bool × tq_PI} (hf : FX12_again I L a0 a1 = some out) : tq_K S mX12_again (d + 1) [.ref a0, .int a1] I L (tq_one2 (some (.int (tq_b out.1))) out.2 L) := by
  unfold FX12_again at hf
  refine tq_K_of (by decide) (Nat.le_of_ble_eq_true rfl) (ls := [.ref a0, .int a1, tq_u]) rfl ?_
  refine tq_iload_n rX12_again_0 rfl ?_
  refine tq_iconst (0 : Int32) rX12_again_1 (by decide) ?_
  refine tq_iconst (2 : Int32) rX12_again_2 (by decide) ?_
  obtain ⟨p1, e1, hf⟩ := tq_let_elim hf
  refine ty_callSI (tq_b p1) ([.int a1, .int (0 : Int32), .int (2 : Int32)]) ([]) rX12_again_3 l_X12_118 moX12_isIn msX12_isIn rfl rfl (Nat.le_of_ble_eq_true rfl) ⟨rfl, rfl⟩ (CX12_isIn  e1) ?_
  refine tq_if_eq rX12_again_6 (fun c2 => ?_) (fun c2 => ?_)
  · rw [if_pos c2] at hf
    exact tq_forget _ (tq_le_u (tq_le_u (tq_le_u tq_le_n))) (FX12_again_j18_x   hf ⟨rfl, rfl, rfl⟩)
  · rw [if_neg c2] at hf
    refine tq_aload_n rX12_again_9 rfl ?_
    refine ty_getR rX12_again_10 f_X12_13 rfl h0 (hp_12_1 h0).1 ?_
    refine tq_iload_n rX12_again_13 rfl ?_
    obtain ⟨g3, hf⟩ := tq_chk hf
    refine ty_zald (v := 3) rX12_again_14 (hp_12_1 h0).2.1 (hp_12_1 h0).2.2 rfl (by decide) g3 ?_
    refine tq_if_ne rX12_again_15 (fun c4 => ?_) (fun c4 => ?_)
    · rw [if_neg c4] at hf
      refine tq_iconst (0 : Int32) rX12_again_20 (by decide) ?_
      refine tq_istore_n ([.ref a0, .int a1, .int (0 : Int32)]) rX12_again_21 (Nat.le_of_ble_eq_true rfl) rfl ?_
      obtain ⟨p8, e8, hf⟩ := Option.bind_eq_some_iff.mp hf
      refine tq_forget _ (tq_le_s (tq_le_s (tq_le_s tq_le_n))) ?_
      refine tq_it_elim (P := fun p : Int32 × tq_PI => tq_X S mX12_again (d + 1) tq_k0 22 ([.ref a0, .int a1, .int p.1]) [] (tq_st p.2 L) (tq_Q (tq_one2 (some (.int (tq_b out.1))) out.2 L))) (R := fun p : tq_PI => tq_X S mX12_again (d + 1) tq_k0 55 ([tq_u, tq_u, tq_u]) [] (tq_st p L) (tq_Q (tq_one2 (some (.int (tq_b out.1))) out.2 L))) (fun p o hp hk => FX12_again_s22_x  h0 hp hk) _ (((0 : Int32), I)) _ e8 ?_
      show tq_X _ _ _ _ _ _ _ _ _
      refine tq_iconst (1 : Int32) rX12_again_55 (by decide) ?_
      refine ty_zret (ty := .boolean) rX12_again_56 rfl rfl rfl ?_
      have hf := Option.some.inj hf
      subst hf
      exact ⟨rfl, rfl, rfl⟩
    · rw [if_pos c4] at hf
      exact tq_forget _ (tq_le_u (tq_le_u (tq_le_u tq_le_n))) (FX12_again_j18_x   hf ⟨rfl, rfl, rfl⟩)

