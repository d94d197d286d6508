/-! THE MIRROR, part 6: by program (wip/whole/gen_mirror.py). -/
abbrev mX11_comes : tq_M := (yX11_comes, cX11_comes, 5, (Option.some Jvm.ClassFile.FieldType.int), 0, 0)
theorem l_X11_353 : tq_lok RX11 353 mX3_fewestStones.1 := Or.inl (tq_sg6 _ (List.mem_of_getElem? (i := 7) rfl))
theorem rX11_comes_0 : tq_D cX11_comes 0 (.aload_n 0) 1 1 := ⟨by decide +kernel, rfl⟩
theorem rX11_comes_1 : tq_D cX11_comes 1 (.getfield 10) 3 4 := ⟨by decide +kernel, rfl⟩
theorem rX11_comes_4 : tq_D cX11_comes 4 (.iload_n 1) 1 5 := ⟨by decide +kernel, rfl⟩
theorem rX11_comes_5 : tq_D cX11_comes 5 (.invokevirtual 102) 3 8 := ⟨by decide +kernel, rfl⟩
theorem rX11_comes_8 : tq_D cX11_comes 8 (.astore 4) 2 10 := ⟨by decide +kernel, rfl⟩
theorem rX11_comes_10 : tq_D cX11_comes 10 (.aload 4) 2 12 := ⟨by decide +kernel, rfl⟩
theorem rX11_comes_12 : tq_J cX11_comes 12 .ifnull 22 15 := ⟨10, by decide +kernel, by decide, rfl⟩
theorem rX11_comes_15 : tq_D cX11_comes 15 (.iload_n 2) 1 16 := ⟨by decide +kernel, rfl⟩
theorem rX11_comes_16 : tq_D cX11_comes 16 (.invokestatic 161) 3 19 := ⟨by decide +kernel, rfl⟩
theorem rX11_comes_19 : tq_J cX11_comes 19 (.ifCond .ne) 24 22 := ⟨5, by decide +kernel, by decide, rfl⟩
theorem rX11_comes_22 : tq_D cX11_comes 22 (.iconst (-1)) 1 23 := ⟨by decide +kernel, rfl⟩
theorem rX11_comes_23 : decode cX11_comes 23 = .ok (.ireturn, 1) := by decide +kernel
theorem rX11_comes_24 : tq_D cX11_comes 24 (.aload 4) 2 26 := ⟨by decide +kernel, rfl⟩
theorem rX11_comes_26 : tq_D cX11_comes 26 (.iload_n 2) 1 27 := ⟨by decide +kernel, rfl⟩
theorem rX11_comes_27 : tq_D cX11_comes 27 (.aload 4) 2 29 := ⟨by decide +kernel, rfl⟩
theorem rX11_comes_29 : tq_D cX11_comes 29 (.iload_n 3) 1 30 := ⟨by decide +kernel, rfl⟩
theorem rX11_comes_30 : tq_D cX11_comes 30 (.invokevirtual 182) 3 33 := ⟨by decide +kernel, rfl⟩
theorem rX11_comes_33 : tq_D cX11_comes 33 (.aload 4) 2 35 := ⟨by decide +kernel, rfl⟩
theorem rX11_comes_35 : tq_D cX11_comes 35 (.invokevirtual 155) 3 38 := ⟨by decide +kernel, rfl⟩
theorem rX11_comes_38 : tq_D cX11_comes 38 (.invokevirtual 353) 3 41 := ⟨by decide +kernel, rfl⟩
theorem rX11_comes_41 : decode cX11_comes 41 = .ok (.ireturn, 1) := by decide +kernel
noncomputable def FX11_comes_j22 (I : tq_PI) (L : tq_PL)  : Option (Int32) :=
  some (-1 : Int32)
noncomputable def FX11_comes (I : tq_PI) (L : tq_PL) (a0 : Nat) (a1 : Int32) (a2 : Int32) (a3 : Int32) : Option (Int32) :=
  ((FX0_hillAt I L ((tq_rg a0 0)) a1).bind fun p1 =>  (p1.elim ((FX11_comes_j22 I L )) (fun t2 => (tq_let (FX11_isSide I L a2) fun p3 => (if (tq_b p3) = 0 then (FX11_comes_j22 I L ) else ((FX3_bitOf I L t2 a3).bind fun p5 => (tq_let (FX3_solid I L t2) fun p6 => ((FX3_fewestStones I L t2 a2 p5 p6).bind fun p7 => some p7))))))))
set_option maxRecDepth 100000 in
set_option maxHeartbeats 4000000 in
theorem FX11_comes_j22_x {S : Nat × (Nat → Int32)} {d : Nat} {I : tq_PI} {L : tq_PL}   {q0 : Option Value → tq_PI → tq_PL → Prop} {out : Int32} (hf : FX11_comes_j22 I L = some out) (hk : q0 (some (.int out)) I L) : tq_X S mX11_comes (d + 4) tq_k0 22 ([tq_u, tq_u, tq_u, tq_u, tq_u]) ([]) (tq_st I L) (tq_Q q0) := by
  unfold FX11_comes_j22 at hf
  refine tq_iconst (-1 : Int32) rX11_comes_22 (by decide) ?_
  refine ty_iret rX11_comes_23 rfl rfl ?_
  have hf := Option.some.inj hf
  subst hf
  exact hk

set_option maxRecDepth 100000 in
set_option maxHeartbeats 4000000 in
theorem CX11_comes {S : Nat × (Nat → Int32)} {d : Nat} {I : tq_PI} {L : tq_PL} {a0 : Nat} {a1 : Int32} {a2 : Int32} {a3 : Int32} (h0 : tq_sh0 a0 = 11) {out : Int32} (hf : FX11_comes I L a0 a1 a2 a3 = some out) : tq_K S mX11_comes (d + 4) [.ref a0, .int a1, .int a2, .int a3] I L (tq_one2 (some (.int out)) I L) := by
  unfold FX11_comes at hf
  refine tq_K_of (by decide) (Nat.le_of_ble_eq_true rfl) (ls := [.ref a0, .int a1, .int a2, .int a3, tq_u]) rfl ?_
  refine tq_aload_n rX11_comes_0 rfl ?_
  refine ty_getR rX11_comes_1 f_X11_10 rfl h0 (hp_11_0 h0).1 ?_
  refine tq_iload_n rX11_comes_4 rfl ?_
  obtain ⟨p1, e1, hf⟩ := Option.bind_eq_some_iff.mp hf
  refine ty_callVA p1 ([.int a1]) ([]) rX11_comes_5 l_X11_102 moX0_hillAt mvX0_hillAt (hp_11_0 h0).2.1 rfl rfl (Nat.le_of_ble_eq_true rfl) ⟨rfl, rfl⟩ (CX0_hillAt (hp_11_0 h0).2.1 e1) ?_
  rcases tq_oelim hf with ⟨t2q, hf⟩ | ⟨t2, t2q, hf⟩
  · rw [t2q]
    refine tq_astoreN ([.ref a0, .int a1, .int a2, .int a3, .null]) rX11_comes_8 (Nat.le_of_ble_eq_true rfl) rfl ?_
    refine tq_aloadN rX11_comes_10 rfl ?_
    refine tq_ifnullN rX11_comes_12 ?_
    exact tq_forget _ (tq_le_u (tq_le_u (tq_le_u (tq_le_u (tq_le_u tq_le_n))))) (FX11_comes_j22_x   hf ⟨rfl, rfl, rfl⟩)
  · have t2h := RX0_hillAt (hp_11_0 h0).2.1 e1 t2q
    rw [t2q]
    refine tq_astore ([.ref a0, .int a1, .int a2, .int a3, .ref t2]) rX11_comes_8 (Nat.le_of_ble_eq_true rfl) rfl ?_
    refine tq_aload rX11_comes_10 rfl ?_
    refine tq_ifnullR rX11_comes_12 ?_
    refine tq_iload_n rX11_comes_15 rfl ?_
    obtain ⟨p3, e3, hf⟩ := tq_let_elim hf
    refine ty_callSI (tq_b p3) ([.int a2]) ([]) rX11_comes_16 l_X11_161 moX11_isSide msX11_isSide rfl rfl (Nat.le_of_ble_eq_true rfl) ⟨rfl, rfl⟩ (CX11_isSide  e3) ?_
    refine tq_if_ne rX11_comes_19 (fun c4 => ?_) (fun c4 => ?_)
    · rw [if_neg c4] at hf
      refine tq_aload rX11_comes_24 rfl ?_
      refine tq_iload_n rX11_comes_26 rfl ?_
      refine tq_aload rX11_comes_27 rfl ?_
      refine tq_iload_n rX11_comes_29 rfl ?_
      obtain ⟨p5, e5, hf⟩ := Option.bind_eq_some_iff.mp hf
      refine ty_callVJ p5 ([.int a3]) ([.int a2, .ref t2]) rX11_comes_30 l_X11_182 moX3_bitOf mvX3_bitOf t2h rfl rfl (Nat.le_of_ble_eq_true rfl) ⟨rfl, rfl⟩ (CX3_bitOf t2h e5) ?_
      refine tq_aload rX11_comes_33 rfl ?_
      obtain ⟨p6, e6, hf⟩ := tq_let_elim hf
      refine ty_callVJ p6 ([]) ([.long p5, .int a2, .ref t2]) rX11_comes_35 l_X11_155 moX3_solid mvX3_solid t2h rfl rfl (Nat.le_of_ble_eq_true rfl) ⟨rfl, rfl⟩ (CX3_solid t2h e6) ?_
      obtain ⟨p7, e7, hf⟩ := Option.bind_eq_some_iff.mp hf
      refine ty_callVI p7 ([.int a2, .long p5, .long p6]) ([]) rX11_comes_38 l_X11_353 moX3_fewestStones mvX3_fewestStones t2h rfl rfl (Nat.le_of_ble_eq_true rfl) ⟨rfl, rfl⟩ (CX3_fewestStones t2h e7) ?_
      refine ty_iret rX11_comes_41 rfl rfl ?_
      have hf := Option.some.inj hf
      subst hf
      exact ⟨rfl, rfl, rfl⟩
    · rw [if_pos c4] at hf
      exact tq_forget _ (tq_le_u (tq_le_u (tq_le_u (tq_le_u (tq_le_u tq_le_n))))) (FX11_comes_j22_x   hf ⟨rfl, rfl, rfl⟩)

abbrev mX11_crest : tq_M := (yX11_crest, cX11_crest, 5, (Option.some Jvm.ClassFile.FieldType.int), 0, 0)
theorem moX3_richestRow : tq_mok mX3_richestRow 0 := ⟨tq_sg1 _ (List.mem_of_getElem? (i := 3) rfl), tq_sg6 _ (List.mem_of_getElem? (i := 15) rfl), ⟨by decide, by decide, by decide +kernel⟩, by decide⟩
theorem mvX3_richestRow : 3 < 13 ∧ (tq_cl 3).1 = mX3_richestRow.1.cls ∧ Cond.instanceMethod mX3_richestRow.1 ∈ lw_tbl ∧ Cond.selects mX3_richestRow.1.cls mX3_richestRow.1 mX3_richestRow.1 ∈ lw_tbl := ⟨by decide, rfl, tq_sg6 _ (List.mem_of_getElem? (i := 13) rfl), tq_sg6 _ (List.mem_of_getElem? (i := 14) rfl)⟩
theorem l_X11_357 : tq_lok RX11 357 mX3_richestRow.1 := Or.inl (tq_sg6 _ (List.mem_of_getElem? (i := 12) rfl))
theorem l_X11_360 : tq_lok RX11 360 mX3_rowMask.1 := Or.inl (tq_sg6 _ (List.mem_of_getElem? (i := 16) rfl))
theorem rX11_crest_0 : tq_D cX11_crest 0 (.aload_n 0) 1 1 := ⟨by decide +kernel, rfl⟩
theorem rX11_crest_1 : tq_D cX11_crest 1 (.getfield 10) 3 4 := ⟨by decide +kernel, rfl⟩
theorem rX11_crest_4 : tq_D cX11_crest 4 (.iload_n 1) 1 5 := ⟨by decide +kernel, rfl⟩
theorem rX11_crest_5 : tq_D cX11_crest 5 (.invokevirtual 102) 3 8 := ⟨by decide +kernel, rfl⟩
theorem rX11_crest_8 : tq_D cX11_crest 8 (.astore_n 3) 1 9 := ⟨by decide +kernel, rfl⟩
theorem rX11_crest_9 : tq_D cX11_crest 9 (.aload_n 3) 1 10 := ⟨by decide +kernel, rfl⟩
theorem rX11_crest_10 : tq_J cX11_crest 10 .ifnonnull 15 13 := ⟨5, by decide +kernel, by decide, rfl⟩
theorem rX11_crest_13 : tq_D cX11_crest 13 (.iconst (-1)) 1 14 := ⟨by decide +kernel, rfl⟩
theorem rX11_crest_14 : decode cX11_crest 14 = .ok (.ireturn, 1) := by decide +kernel
theorem rX11_crest_15 : tq_D cX11_crest 15 (.aload_n 3) 1 16 := ⟨by decide +kernel, rfl⟩
theorem rX11_crest_16 : tq_D cX11_crest 16 (.invokevirtual 357) 3 19 := ⟨by decide +kernel, rfl⟩
theorem rX11_crest_19 : tq_D cX11_crest 19 (.istore 4) 2 21 := ⟨by decide +kernel, rfl⟩
theorem rX11_crest_21 : tq_D cX11_crest 21 (.iload_n 2) 1 22 := ⟨by decide +kernel, rfl⟩
theorem rX11_crest_22 : tq_J cX11_crest 22 (.ifCond .eq) 38 25 := ⟨16, by decide +kernel, by decide, rfl⟩
theorem rX11_crest_25 : tq_D cX11_crest 25 (.aload_n 3) 1 26 := ⟨by decide +kernel, rfl⟩
theorem rX11_crest_26 : tq_D cX11_crest 26 (.aload_n 3) 1 27 := ⟨by decide +kernel, rfl⟩
theorem rX11_crest_27 : tq_D cX11_crest 27 (.iload 4) 2 29 := ⟨by decide +kernel, rfl⟩
theorem rX11_crest_29 : tq_D cX11_crest 29 (.invokevirtual 360) 3 32 := ⟨by decide +kernel, rfl⟩
theorem rX11_crest_32 : tq_D cX11_crest 32 (.invokevirtual 124) 3 35 := ⟨by decide +kernel, rfl⟩
theorem rX11_crest_35 : tq_J cX11_crest 35 .goto 40 38 := ⟨5, by decide +kernel, by decide, rfl⟩
theorem rX11_crest_38 : tq_D cX11_crest 38 (.iload 4) 2 40 := ⟨by decide +kernel, rfl⟩
theorem rX11_crest_40 : decode cX11_crest 40 = .ok (.ireturn, 1) := by decide +kernel
noncomputable def FX11_crest (I : tq_PI) (L : tq_PL) (a0 : Nat) (a1 : Int32) (a2 : Int32) : Option (Int32) :=
  ((FX0_hillAt I L ((tq_rg a0 0)) a1).bind fun p1 =>  (p1.elim (some (-1 : Int32)) (fun t2 => ((FX3_richestRow I L t2).bind fun p3 => (if a2 = 0 then some p3 else (tq_let (FX3_rowMask I L t2 p3) fun p5 => (tq_let (FX3_worthOf I L t2 p5) fun p6 => some p6)))))))
set_option maxRecDepth 100000 in
set_option maxHeartbeats 4000000 in
theorem CX11_crest {S : Nat × (Nat → Int32)} {d : Nat} {I : tq_PI} {L : tq_PL} {a0 : Nat} {a1 : Int32} {a2 : Int32} (h0 : tq_sh0 a0 = 11) {out : Int32} (hf : FX11_crest I L a0 a1 a2 = some out) : tq_K S mX11_crest (d + 3) [.ref a0, .int a1, .int a2] I L (tq_one2 (some (.int out)) I L) := by
  unfold FX11_crest at hf
  refine tq_K_of (by decide) (Nat.le_of_ble_eq_true rfl) (ls := [.ref a0, .int a1, .int a2, tq_u, tq_u]) rfl ?_
  refine tq_aload_n rX11_crest_0 rfl ?_
  refine ty_getR rX11_crest_1 f_X11_10 rfl h0 (hp_11_0 h0).1 ?_
  refine tq_iload_n rX11_crest_4 rfl ?_
  obtain ⟨p1, e1, hf⟩ := Option.bind_eq_some_iff.mp hf
  refine ty_callVA p1 ([.int a1]) ([]) rX11_crest_5 l_X11_102 moX0_hillAt mvX0_hillAt (hp_11_0 h0).2.1 rfl rfl (Nat.le_of_ble_eq_true rfl) ⟨rfl, rfl⟩ (CX0_hillAt (hp_11_0 h0).2.1 e1) ?_
  rcases tq_oelim hf with ⟨t2q, hf⟩ | ⟨t2, t2q, hf⟩
  · rw [t2q]
    refine tq_astoreN_n ([.ref a0, .int a1, .int a2, .null, tq_u]) rX11_crest_8 (Nat.le_of_ble_eq_true rfl) rfl ?_
    refine tq_aloadN_n rX11_crest_9 rfl ?_
    refine tq_ifnonnullN rX11_crest_10 ?_
    refine tq_iconst (-1 : Int32) rX11_crest_13 (by decide) ?_
    refine ty_iret rX11_crest_14 rfl rfl ?_
    have hf := Option.some.inj hf
    subst hf
    exact ⟨rfl, rfl, rfl⟩
  · have t2h := RX0_hillAt (hp_11_0 h0).2.1 e1 t2q
    rw [t2q]
    refine tq_astore_n ([.ref a0, .int a1, .int a2, .ref t2, tq_u]) rX11_crest_8 (Nat.le_of_ble_eq_true rfl) rfl ?_
    refine tq_aload_n rX11_crest_9 rfl ?_
    refine tq_ifnonnullR rX11_crest_10 ?_
    refine tq_aload_n rX11_crest_15 rfl ?_
    obtain ⟨p3, e3, hf⟩ := Option.bind_eq_some_iff.mp hf
    refine ty_callVI p3 ([]) ([]) rX11_crest_16 l_X11_357 moX3_richestRow mvX3_richestRow t2h rfl rfl (Nat.le_of_ble_eq_true rfl) ⟨rfl, rfl⟩ (CX3_richestRow t2h e3) ?_
    refine tq_istore ([.ref a0, .int a1, .int a2, .ref t2, .int p3]) rX11_crest_19 (Nat.le_of_ble_eq_true rfl) rfl ?_
    refine tq_iload_n rX11_crest_21 rfl ?_
    refine tq_if_eq rX11_crest_22 (fun c4 => ?_) (fun c4 => ?_)
    · rw [if_pos c4] at hf
      refine tq_iload rX11_crest_38 rfl ?_
      refine ty_iret rX11_crest_40 rfl rfl ?_
      have hf := Option.some.inj hf
      subst hf
      exact ⟨rfl, rfl, rfl⟩
    · rw [if_neg c4] at hf
      refine tq_aload_n rX11_crest_25 rfl ?_
      refine tq_aload_n rX11_crest_26 rfl ?_
      refine tq_iload rX11_crest_27 rfl ?_
      obtain ⟨p5, e5, hf⟩ := tq_let_elim hf
      refine ty_callVJ p5 ([.int p3]) ([.ref t2]) rX11_crest_29 l_X11_360 moX3_rowMask mvX3_rowMask t2h rfl rfl (Nat.le_of_ble_eq_true rfl) ⟨rfl, rfl⟩ (CX3_rowMask t2h e5) ?_
      obtain ⟨p6, e6, hf⟩ := tq_let_elim hf
      refine ty_callVI p6 ([.long p5]) ([]) rX11_crest_32 l_X11_124 moX3_worthOf mvX3_worthOf t2h rfl rfl (Nat.le_of_ble_eq_true rfl) ⟨rfl, rfl⟩ (CX3_worthOf t2h e6) ?_
      refine tq_goto rX11_crest_35 ?_
      refine ty_iret rX11_crest_40 rfl rfl ?_
      have hf := Option.some.inj hf
      subst hf
      exact ⟨rfl, rfl, rfl⟩

abbrev mX11_shored : tq_M := (yX11_shored, cX11_shored, 5, (Option.some Jvm.ClassFile.FieldType.int), 0, 0)
theorem moX6_shore : tq_mok mX6_shore 2 := ⟨tq_sg1 _ (List.mem_of_getElem? (i := 10) rfl), tq_sg6 _ (List.mem_of_getElem? (i := 24) rfl), ⟨by decide, by decide, by decide +kernel⟩, by decide⟩
theorem mvX6_shore : 6 < 13 ∧ (tq_cl 6).1 = mX6_shore.1.cls ∧ Cond.instanceMethod mX6_shore.1 ∈ lw_tbl ∧ Cond.selects mX6_shore.1.cls mX6_shore.1 mX6_shore.1 ∈ lw_tbl := ⟨by decide, rfl, tq_sg6 _ (List.mem_of_getElem? (i := 22) rfl), tq_sg6 _ (List.mem_of_getElem? (i := 23) rfl)⟩
theorem f_X11_366 : tq_fok RX11 366 6 1 := ⟨by decide, by decide, Or.inr ⟨_, tq_sg2 _ (List.mem_of_getElem? (i := 89) rfl)⟩⟩
theorem l_X11_363 : tq_lok RX11 363 mX6_shore.1 := Or.inl (tq_sg6 _ (List.mem_of_getElem? (i := 21) rfl))
theorem rX11_shored_0 : tq_D cX11_shored 0 (.aload_n 0) 1 1 := ⟨by decide +kernel, rfl⟩
theorem rX11_shored_1 : tq_D cX11_shored 1 (.getfield 10) 3 4 := ⟨by decide +kernel, rfl⟩
theorem rX11_shored_4 : tq_D cX11_shored 4 (.iload_n 1) 1 5 := ⟨by decide +kernel, rfl⟩
theorem rX11_shored_5 : tq_D cX11_shored 5 (.invokevirtual 102) 3 8 := ⟨by decide +kernel, rfl⟩
theorem rX11_shored_8 : tq_D cX11_shored 8 (.astore 4) 2 10 := ⟨by decide +kernel, rfl⟩
theorem rX11_shored_10 : tq_D cX11_shored 10 (.aload 4) 2 12 := ⟨by decide +kernel, rfl⟩
theorem rX11_shored_12 : tq_J cX11_shored 12 .ifnull 24 15 := ⟨12, by decide +kernel, by decide, rfl⟩
theorem rX11_shored_15 : tq_D cX11_shored 15 (.iload_n 2) 1 16 := ⟨by decide +kernel, rfl⟩
theorem rX11_shored_16 : tq_J cX11_shored 16 (.ifCond .lt) 24 19 := ⟨8, by decide +kernel, by decide, rfl⟩
theorem rX11_shored_19 : tq_D cX11_shored 19 (.iload_n 2) 1 20 := ⟨by decide +kernel, rfl⟩
theorem rX11_shored_20 : tq_D cX11_shored 20 (.iconst 2) 1 21 := ⟨by decide +kernel, rfl⟩
theorem rX11_shored_21 : tq_J cX11_shored 21 (.if_icmp .le) 26 24 := ⟨5, by decide +kernel, by decide, rfl⟩
theorem rX11_shored_24 : tq_D cX11_shored 24 (.iconst (-1)) 1 25 := ⟨by decide +kernel, rfl⟩
theorem rX11_shored_25 : decode cX11_shored 25 = .ok (.ireturn, 1) := by decide +kernel
theorem rX11_shored_26 : tq_D cX11_shored 26 (.aload_n 0) 1 27 := ⟨by decide +kernel, rfl⟩
theorem rX11_shored_27 : tq_D cX11_shored 27 (.getfield 48) 3 30 := ⟨by decide +kernel, rfl⟩
theorem rX11_shored_30 : tq_D cX11_shored 30 (.aload 4) 2 32 := ⟨by decide +kernel, rfl⟩
theorem rX11_shored_32 : tq_D cX11_shored 32 (.iload_n 2) 1 33 := ⟨by decide +kernel, rfl⟩
theorem rX11_shored_33 : tq_D cX11_shored 33 (.invokevirtual 363) 3 36 := ⟨by decide +kernel, rfl⟩
theorem rX11_shored_36 : tq_D cX11_shored 36 (.iload_n 3) 1 37 := ⟨by decide +kernel, rfl⟩
theorem rX11_shored_37 : tq_D cX11_shored 37 (.iconst (-1)) 1 38 := ⟨by decide +kernel, rfl⟩
theorem rX11_shored_38 : tq_J cX11_shored 38 (.if_icmp .ne) 49 41 := ⟨11, by decide +kernel, by decide, rfl⟩
theorem rX11_shored_41 : tq_D cX11_shored 41 (.aload_n 0) 1 42 := ⟨by decide +kernel, rfl⟩
theorem rX11_shored_42 : tq_D cX11_shored 42 (.getfield 48) 3 45 := ⟨by decide +kernel, rfl⟩
theorem rX11_shored_45 : tq_D cX11_shored 45 (.getfield 366) 3 48 := ⟨by decide +kernel, rfl⟩
theorem rX11_shored_48 : decode cX11_shored 48 = .ok (.ireturn, 1) := by decide +kernel
theorem rX11_shored_49 : tq_D cX11_shored 49 (.aload_n 0) 1 50 := ⟨by decide +kernel, rfl⟩
theorem rX11_shored_50 : tq_D cX11_shored 50 (.getfield 48) 3 53 := ⟨by decide +kernel, rfl⟩
theorem rX11_shored_53 : tq_D cX11_shored 53 (.getfield 366) 3 56 := ⟨by decide +kernel, rfl⟩
theorem rX11_shored_56 : tq_D cX11_shored 56 (.iconst (-1)) 1 57 := ⟨by decide +kernel, rfl⟩
theorem rX11_shored_57 : tq_J cX11_shored 57 (.if_icmp .ne) 64 60 := ⟨7, by decide +kernel, by decide, rfl⟩
theorem rX11_shored_60 : tq_D cX11_shored 60 (.iconst (-1)) 1 61 := ⟨by decide +kernel, rfl⟩
theorem rX11_shored_61 : tq_J cX11_shored 61 .goto 77 64 := ⟨16, by decide +kernel, by decide, rfl⟩
theorem rX11_shored_64 : tq_D cX11_shored 64 (.aload 4) 2 66 := ⟨by decide +kernel, rfl⟩
theorem rX11_shored_66 : tq_D cX11_shored 66 (.aload_n 0) 1 67 := ⟨by decide +kernel, rfl⟩
theorem rX11_shored_67 : tq_D cX11_shored 67 (.getfield 48) 3 70 := ⟨by decide +kernel, rfl⟩
theorem rX11_shored_70 : tq_D cX11_shored 70 (.getfield 218) 3 73 := ⟨by decide +kernel, rfl⟩
theorem rX11_shored_73 : tq_D cX11_shored 73 (.iload_n 3) 1 74 := ⟨by decide +kernel, rfl⟩
theorem rX11_shored_74 : tq_D cX11_shored 74 (.invokevirtual 172) 3 77 := ⟨by decide +kernel, rfl⟩
theorem rX11_shored_77 : decode cX11_shored 77 = .ok (.ireturn, 1) := by decide +kernel
noncomputable def FX11_shored_j24 (I : tq_PI) (L : tq_PL)  : Option (Int32 × tq_PI × tq_PL) :=
  some ((-1 : Int32), I, L)
noncomputable def FX11_shored (I : tq_PI) (L : tq_PL) (a0 : Nat) (a1 : Int32) (a2 : Int32) (a3 : Int32) : Option (Int32 × tq_PI × tq_PL) :=
  ((FX0_hillAt I L ((tq_rg a0 0)) a1).bind fun p1 =>  (p1.elim ((FX11_shored_j24 I L )) (fun t2 => (if a2 < 0 then (FX11_shored_j24 I L ) else (if a2 ≤ (2 : Int32) then ((FX6_shore I L ((tq_rg a0 6)) t2 a2).bind fun p5 => (if a3 = (-1 : Int32) then some ((p5.1 (tq_rg a0 6) 1), p5.1, p5.2) else (if (p5.1 (tq_rg a0 6) 1) = (-1 : Int32) then some ((-1 : Int32), p5.1, p5.2) else ((FX3_pick p5.1 p5.2 t2 ((p5.2 (tq_rg a0 6) 0)) a3).bind fun p8 => some (p8, p5.1, p5.2))))) else (FX11_shored_j24 I L ))))))
set_option maxRecDepth 100000 in
set_option maxHeartbeats 4000000 in
theorem FX11_shored_j24_x {S : Nat × (Nat → Int32)} {d : Nat} {I : tq_PI} {L : tq_PL}   {q0 : Option Value → tq_PI → tq_PL → Prop} {out : Int32 × tq_PI × tq_PL} (hf : FX11_shored_j24 I L = some out) (hk : q0 (some (.int out.1)) out.2.1 out.2.2) : tq_X S mX11_shored (d + 6) tq_k0 24 ([tq_u, tq_u, tq_u, tq_u, tq_u]) ([]) (tq_st I L) (tq_Q q0) := by
  unfold FX11_shored_j24 at hf
  refine tq_iconst (-1 : Int32) rX11_shored_24 (by decide) ?_
  refine ty_iret rX11_shored_25 rfl rfl ?_
  have hf := Option.some.inj hf
  subst hf
  exact hk

set_option maxRecDepth 100000 in
set_option maxHeartbeats 4000000 in
theorem CX11_shored {S : Nat × (Nat → Int32)} {d : Nat} {I : tq_PI} {L : tq_PL} {a0 : Nat} {a1 : Int32} {a2 : Int32} {a3 : Int32} (h0 : tq_sh0 a0 = 11) {out : Int32 × tq_PI × tq_PL} (hf : FX11_shored I L a0 a1 a2 a3 = some out) : tq_K S mX11_shored (d + 6) [.ref a0, .int a1, .int a2, .int a3] I L (tq_one2 (some (.int out.1)) out.2.1 out.2.2) := by
  unfold FX11_shored at hf
  refine tq_K_of (by decide) (Nat.le_of_ble_eq_true rfl) (ls := [.ref a0, .int a1, .int a2, .int a3, tq_u]) rfl ?_
  refine tq_aload_n rX11_shored_0 rfl ?_
  refine ty_getR rX11_shored_1 f_X11_10 rfl h0 (hp_11_0 h0).1 ?_
  refine tq_iload_n rX11_shored_4 rfl ?_
  obtain ⟨p1, e1, hf⟩ := Option.bind_eq_some_iff.mp hf
  refine ty_callVA p1 ([.int a1]) ([]) rX11_shored_5 l_X11_102 moX0_hillAt mvX0_hillAt (hp_11_0 h0).2.1 rfl rfl (Nat.le_of_ble_eq_true rfl) ⟨rfl, rfl⟩ (CX0_hillAt (hp_11_0 h0).2.1 e1) ?_
  rcases tq_oelim hf with ⟨t2q, hf⟩ | ⟨t2, t2q, hf⟩
  · rw [t2q]
    refine tq_astoreN ([.ref a0, .int a1, .int a2, .int a3, .null]) rX11_shored_8 (Nat.le_of_ble_eq_true rfl) rfl ?_
    refine tq_aloadN rX11_shored_10 rfl ?_
    refine tq_ifnullN rX11_shored_12 ?_
    exact tq_forget _ (tq_le_u (tq_le_u (tq_le_u (tq_le_u (tq_le_u tq_le_n))))) (FX11_shored_j24_x   hf ⟨rfl, rfl, rfl⟩)
  · have t2h := RX0_hillAt (hp_11_0 h0).2.1 e1 t2q
    rw [t2q]
    refine tq_astore ([.ref a0, .int a1, .int a2, .int a3, .ref t2]) rX11_shored_8 (Nat.le_of_ble_eq_true rfl) rfl ?_
    refine tq_aload rX11_shored_10 rfl ?_
    refine tq_ifnullR rX11_shored_12 ?_
    refine tq_iload_n rX11_shored_15 rfl ?_
    refine tq_if_lt rX11_shored_16 (fun c3 => ?_) (fun c3 => ?_)
    · rw [if_pos c3] at hf
      exact tq_forget _ (tq_le_u (tq_le_u (tq_le_u (tq_le_u (tq_le_u tq_le_n))))) (FX11_shored_j24_x   hf ⟨rfl, rfl, rfl⟩)
    · rw [if_neg c3] at hf
      refine tq_iload_n rX11_shored_19 rfl ?_
      refine tq_iconst (2 : Int32) rX11_shored_20 (by decide) ?_
      refine tq_icmp_le rX11_shored_21 (fun c4 => ?_) (fun c4 => ?_)
      · rw [if_pos c4] at hf
        refine tq_aload_n rX11_shored_26 rfl ?_
        refine ty_getR rX11_shored_27 f_X11_48 rfl h0 (hp_11_6 h0).1 ?_
        refine tq_aload rX11_shored_30 rfl ?_
        refine tq_iload_n rX11_shored_32 rfl ?_
        obtain ⟨p5, e5, hf⟩ := Option.bind_eq_some_iff.mp hf
        refine ty_callVV ([.ref t2, .int a2]) ([]) rX11_shored_33 l_X11_363 moX6_shore mvX6_shore (hp_11_6 h0).2.1 rfl rfl (Nat.le_of_ble_eq_true rfl) ⟨rfl, rfl⟩ (CX6_shore (hp_11_6 h0).2.1 t2h e5) ?_
        refine tq_iload_n rX11_shored_36 rfl ?_
        refine tq_iconst (-1 : Int32) rX11_shored_37 (by decide) ?_
        refine tq_icmp_ne rX11_shored_38 (fun c6 => ?_) (fun c6 => ?_)
        · rw [if_neg c6] at hf
          refine tq_aload_n rX11_shored_49 rfl ?_
          refine ty_getR rX11_shored_50 f_X11_48 rfl h0 (hp_11_6 h0).1 ?_
          refine ty_getI rX11_shored_53 f_X11_366 rfl (hp_11_6 h0).2.1 ?_
          refine tq_iconst (-1 : Int32) rX11_shored_56 (by decide) ?_
          refine tq_icmp_ne rX11_shored_57 (fun c7 => ?_) (fun c7 => ?_)
          · rw [if_neg c7] at hf
            refine tq_aload rX11_shored_64 rfl ?_
            refine tq_aload_n rX11_shored_66 rfl ?_
            refine ty_getR rX11_shored_67 f_X11_48 rfl h0 (hp_11_6 h0).1 ?_
            refine ty_getL rX11_shored_70 f_X11_218 rfl (hp_11_6 h0).2.1 ?_
            refine tq_iload_n rX11_shored_73 rfl ?_
            obtain ⟨p8, e8, hf⟩ := Option.bind_eq_some_iff.mp hf
            refine ty_callVI p8 ([.long (p5.2 (tq_rg a0 6) 0), .int a3]) ([]) rX11_shored_74 l_X11_172 moX3_pick mvX3_pick t2h rfl rfl (Nat.le_of_ble_eq_true rfl) ⟨rfl, rfl⟩ (CX3_pick t2h e8) ?_
            refine ty_iret rX11_shored_77 rfl rfl ?_
            have hf := Option.some.inj hf
            subst hf
            exact ⟨rfl, rfl, rfl⟩
          · rw [if_pos c7] at hf
            refine tq_iconst (-1 : Int32) rX11_shored_60 (by decide) ?_
            refine tq_goto rX11_shored_61 ?_
            refine ty_iret rX11_shored_77 rfl rfl ?_
            have hf := Option.some.inj hf
            subst hf
            exact ⟨rfl, rfl, rfl⟩
        · rw [if_pos c6] at hf
          refine tq_aload_n rX11_shored_41 rfl ?_
          refine ty_getR rX11_shored_42 f_X11_48 rfl h0 (hp_11_6 h0).1 ?_
          refine ty_getI rX11_shored_45 f_X11_366 rfl (hp_11_6 h0).2.1 ?_
          refine ty_iret rX11_shored_48 rfl rfl ?_
          have hf := Option.some.inj hf
          subst hf
          exact ⟨rfl, rfl, rfl⟩
      · rw [if_neg c4] at hf
        exact tq_forget _ (tq_le_u (tq_le_u (tq_le_u (tq_le_u (tq_le_u tq_le_n))))) (FX11_shored_j24_x   hf ⟨rfl, rfl, rfl⟩)

abbrev mX11_streak : tq_M := (yX11_streak, cX11_streak, 4, (Option.some Jvm.ClassFile.FieldType.int), 0, 0)
theorem rX11_streak_0 : tq_D cX11_streak 0 (.aload_n 0) 1 1 := ⟨by decide +kernel, rfl⟩
theorem rX11_streak_1 : tq_D cX11_streak 1 (.getfield 10) 3 4 := ⟨by decide +kernel, rfl⟩
theorem rX11_streak_4 : tq_D cX11_streak 4 (.iload_n 1) 1 5 := ⟨by decide +kernel, rfl⟩
theorem rX11_streak_5 : tq_D cX11_streak 5 (.invokevirtual 102) 3 8 := ⟨by decide +kernel, rfl⟩
theorem rX11_streak_8 : tq_D cX11_streak 8 (.astore_n 3) 1 9 := ⟨by decide +kernel, rfl⟩
theorem rX11_streak_9 : tq_D cX11_streak 9 (.aload_n 3) 1 10 := ⟨by decide +kernel, rfl⟩
theorem rX11_streak_10 : tq_J cX11_streak 10 .ifnull 20 13 := ⟨10, by decide +kernel, by decide, rfl⟩
theorem rX11_streak_13 : tq_D cX11_streak 13 (.iload_n 2) 1 14 := ⟨by decide +kernel, rfl⟩
theorem rX11_streak_14 : tq_D cX11_streak 14 (.invokestatic 161) 3 17 := ⟨by decide +kernel, rfl⟩
theorem rX11_streak_17 : tq_J cX11_streak 17 (.ifCond .ne) 22 20 := ⟨5, by decide +kernel, by decide, rfl⟩
theorem rX11_streak_20 : tq_D cX11_streak 20 (.iconst (-1)) 1 21 := ⟨by decide +kernel, rfl⟩
theorem rX11_streak_21 : decode cX11_streak 21 = .ok (.ireturn, 1) := by decide +kernel
theorem rX11_streak_22 : tq_D cX11_streak 22 (.aload_n 3) 1 23 := ⟨by decide +kernel, rfl⟩
theorem rX11_streak_23 : tq_D cX11_streak 23 (.iload_n 2) 1 24 := ⟨by decide +kernel, rfl⟩
theorem rX11_streak_24 : tq_D cX11_streak 24 (.aload_n 3) 1 25 := ⟨by decide +kernel, rfl⟩
theorem rX11_streak_25 : tq_D cX11_streak 25 (.invokevirtual 155) 3 28 := ⟨by decide +kernel, rfl⟩
theorem rX11_streak_28 : tq_D cX11_streak 28 (.invokevirtual 165) 3 31 := ⟨by decide +kernel, rfl⟩
theorem rX11_streak_31 : tq_D cX11_streak 31 (.invokestatic 300) 3 34 := ⟨by decide +kernel, rfl⟩
theorem rX11_streak_34 : decode cX11_streak 34 = .ok (.ireturn, 1) := by decide +kernel
noncomputable def FX11_streak_j20 (I : tq_PI) (L : tq_PL)  : Option (Int32) :=
  some (-1 : Int32)
noncomputable def FX11_streak (I : tq_PI) (L : tq_PL) (a0 : Nat) (a1 : Int32) (a2 : Int32) : Option (Int32) :=
  ((FX0_hillAt I L ((tq_rg a0 0)) a1).bind fun p1 =>  (p1.elim ((FX11_streak_j20 I L )) (fun t2 => (tq_let (FX11_isSide I L a2) fun p3 => (if (tq_b p3) = 0 then (FX11_streak_j20 I L ) else (tq_let (FX3_solid I L t2) fun p5 => ((FX3_safeFor I L t2 a2 p5).bind fun p6 => ((FX11_longestRun I L p6).bind fun p7 => some p7))))))))
set_option maxRecDepth 100000 in
set_option maxHeartbeats 4000000 in
theorem FX11_streak_j20_x {S : Nat × (Nat → Int32)} {d : Nat} {I : tq_PI} {L : tq_PL}   {q0 : Option Value → tq_PI → tq_PL → Prop} {out : Int32} (hf : FX11_streak_j20 I L = some out) (hk : q0 (some (.int out)) I L) : tq_X S mX11_streak (d + 4) tq_k0 20 ([tq_u, tq_u, tq_u, tq_u]) ([]) (tq_st I L) (tq_Q q0) := by
  unfold FX11_streak_j20 at hf
  refine tq_iconst (-1 : Int32) rX11_streak_20 (by decide) ?_
  refine ty_iret rX11_streak_21 rfl rfl ?_
  have hf := Option.some.inj hf
  subst hf
  exact hk

set_option maxRecDepth 100000 in
set_option maxHeartbeats 4000000 in
theorem CX11_streak {S : Nat × (Nat → Int32)} {d : Nat} {I : tq_PI} {L : tq_PL} {a0 : Nat} {a1 : Int32} {a2 : Int32} (h0 : tq_sh0 a0 = 11) {out : Int32} (hf : FX11_streak I L a0 a1 a2 = some out) : tq_K S mX11_streak (d + 4) [.ref a0, .int a1, .int a2] I L (tq_one2 (some (.int out)) I L) := by
  unfold FX11_streak at hf
  refine tq_K_of (by decide) (Nat.le_of_ble_eq_true rfl) (ls := [.ref a0, .int a1, .int a2, tq_u]) rfl ?_
  refine tq_aload_n rX11_streak_0 rfl ?_
  refine ty_getR rX11_streak_1 f_X11_10 rfl h0 (hp_11_0 h0).1 ?_
  refine tq_iload_n rX11_streak_4 rfl ?_
  obtain ⟨p1, e1, hf⟩ := Option.bind_eq_some_iff.mp hf
  refine ty_callVA p1 ([.int a1]) ([]) rX11_streak_5 l_X11_102 moX0_hillAt mvX0_hillAt (hp_11_0 h0).2.1 rfl rfl (Nat.le_of_ble_eq_true rfl) ⟨rfl, rfl⟩ (CX0_hillAt (hp_11_0 h0).2.1 e1) ?_
  rcases tq_oelim hf with ⟨t2q, hf⟩ | ⟨t2, t2q, hf⟩
  · rw [t2q]
    refine tq_astoreN_n ([.ref a0, .int a1, .int a2, .null]) rX11_streak_8 (Nat.le_of_ble_eq_true rfl) rfl ?_
    refine tq_aloadN_n rX11_streak_9 rfl ?_
    refine tq_ifnullN rX11_streak_10 ?_
    exact tq_forget _ (tq_le_u (tq_le_u (tq_le_u (tq_le_u tq_le_n)))) (FX11_streak_j20_x   hf ⟨rfl, rfl, rfl⟩)
  · have t2h := RX0_hillAt (hp_11_0 h0).2.1 e1 t2q
    rw [t2q]
    refine tq_astore_n ([.ref a0, .int a1, .int a2, .ref t2]) rX11_streak_8 (Nat.le_of_ble_eq_true rfl) rfl ?_
    refine tq_aload_n rX11_streak_9 rfl ?_
    refine tq_ifnullR rX11_streak_10 ?_
    refine tq_iload_n rX11_streak_13 rfl ?_
    obtain ⟨p3, e3, hf⟩ := tq_let_elim hf
    refine ty_callSI (tq_b p3) ([.int a2]) ([]) rX11_streak_14 l_X11_161 moX11_isSide msX11_isSide rfl rfl (Nat.le_of_ble_eq_true rfl) ⟨rfl, rfl⟩ (CX11_isSide  e3) ?_
    refine tq_if_ne rX11_streak_17 (fun c4 => ?_) (fun c4 => ?_)
    · rw [if_neg c4] at hf
      refine tq_aload_n rX11_streak_22 rfl ?_
      refine tq_iload_n rX11_streak_23 rfl ?_
      refine tq_aload_n rX11_streak_24 rfl ?_
      obtain ⟨p5, e5, hf⟩ := tq_let_elim hf
      refine ty_callVJ p5 ([]) ([.int a2, .ref t2]) rX11_streak_25 l_X11_155 moX3_solid mvX3_solid t2h rfl rfl (Nat.le_of_ble_eq_true rfl) ⟨rfl, rfl⟩ (CX3_solid t2h e5) ?_
      obtain ⟨p6, e6, hf⟩ := Option.bind_eq_some_iff.mp hf
      refine ty_callVJ p6 ([.int a2, .long p5]) ([]) rX11_streak_28 l_X11_165 moX3_safeFor mvX3_safeFor t2h rfl rfl (Nat.le_of_ble_eq_true rfl) ⟨rfl, rfl⟩ (CX3_safeFor t2h e6) ?_
      obtain ⟨p7, e7, hf⟩ := Option.bind_eq_some_iff.mp hf
      refine ty_callSI p7 ([.long p6]) ([]) rX11_streak_31 l_X11_300 moX11_longestRun msX11_longestRun rfl rfl (Nat.le_of_ble_eq_true rfl) ⟨rfl, rfl⟩ (CX11_longestRun  e7) ?_
      refine ty_iret rX11_streak_34 rfl rfl ?_
      have hf := Option.some.inj hf
      subst hf
      exact ⟨rfl, rfl, rfl⟩
    · rw [if_pos c4] at hf
      exact tq_forget _ (tq_le_u (tq_le_u (tq_le_u (tq_le_u tq_le_n)))) (FX11_streak_j20_x   hf ⟨rfl, rfl, rfl⟩)

abbrev mX11_within : tq_M := (yX11_within, cX11_within, 5, (Option.some Jvm.ClassFile.FieldType.int), 0, 0)
theorem moX2_countNear : tq_mok mX2_countNear 2 := ⟨tq_sg1 _ (List.mem_of_getElem? (i := 11) rfl), tq_sg6 _ (List.mem_of_getElem? (i := 42) rfl), ⟨by decide, by decide, by decide +kernel⟩, by decide⟩
theorem mvX2_countNear : 2 < 13 ∧ (tq_cl 2).1 = mX2_countNear.1.cls ∧ Cond.instanceMethod mX2_countNear.1 ∈ lw_tbl ∧ Cond.selects mX2_countNear.1.cls mX2_countNear.1 mX2_countNear.1 ∈ lw_tbl := ⟨by decide, rfl, tq_sg6 _ (List.mem_of_getElem? (i := 40) rfl), tq_sg6 _ (List.mem_of_getElem? (i := 41) rfl)⟩
theorem l_X11_369 : tq_lok RX11 369 mX2_countNear.1 := Or.inl (tq_sg6 _ (List.mem_of_getElem? (i := 39) rfl))
theorem rX11_within_0 : tq_D cX11_within 0 (.aload_n 0) 1 1 := ⟨by decide +kernel, rfl⟩
theorem rX11_within_1 : tq_D cX11_within 1 (.getfield 10) 3 4 := ⟨by decide +kernel, rfl⟩
theorem rX11_within_4 : tq_D cX11_within 4 (.iload_n 1) 1 5 := ⟨by decide +kernel, rfl⟩
theorem rX11_within_5 : tq_D cX11_within 5 (.invokevirtual 240) 3 8 := ⟨by decide +kernel, rfl⟩
theorem rX11_within_8 : tq_D cX11_within 8 (.astore 4) 2 10 := ⟨by decide +kernel, rfl⟩
theorem rX11_within_10 : tq_D cX11_within 10 (.aload 4) 2 12 := ⟨by decide +kernel, rfl⟩
theorem rX11_within_12 : tq_J cX11_within 12 .ifnull 35 15 := ⟨23, by decide +kernel, by decide, rfl⟩
theorem rX11_within_15 : tq_D cX11_within 15 (.iload_n 2) 1 16 := ⟨by decide +kernel, rfl⟩
theorem rX11_within_16 : tq_J cX11_within 16 (.ifCond .lt) 35 19 := ⟨19, by decide +kernel, by decide, rfl⟩
theorem rX11_within_19 : tq_D cX11_within 19 (.iload_n 2) 1 20 := ⟨by decide +kernel, rfl⟩
theorem rX11_within_20 : tq_D cX11_within 20 (.bipush 48) 2 22 := ⟨by decide +kernel, rfl⟩
theorem rX11_within_22 : tq_J cX11_within 22 (.if_icmp .ge) 35 25 := ⟨13, by decide +kernel, by decide, rfl⟩
theorem rX11_within_25 : tq_D cX11_within 25 (.iload_n 3) 1 26 := ⟨by decide +kernel, rfl⟩
theorem rX11_within_26 : tq_J cX11_within 26 (.ifCond .lt) 35 29 := ⟨9, by decide +kernel, by decide, rfl⟩
theorem rX11_within_29 : tq_D cX11_within 29 (.iload_n 3) 1 30 := ⟨by decide +kernel, rfl⟩
theorem rX11_within_30 : tq_D cX11_within 30 (.bipush 12) 2 32 := ⟨by decide +kernel, rfl⟩
theorem rX11_within_32 : tq_J cX11_within 32 (.if_icmp .le) 37 35 := ⟨5, by decide +kernel, by decide, rfl⟩
theorem rX11_within_35 : tq_D cX11_within 35 (.iconst (-1)) 1 36 := ⟨by decide +kernel, rfl⟩
theorem rX11_within_36 : decode cX11_within 36 = .ok (.ireturn, 1) := by decide +kernel
theorem rX11_within_37 : tq_D cX11_within 37 (.aload_n 0) 1 38 := ⟨by decide +kernel, rfl⟩
theorem rX11_within_38 : tq_D cX11_within 38 (.getfield 55) 3 41 := ⟨by decide +kernel, rfl⟩
theorem rX11_within_41 : tq_D cX11_within 41 (.aload 4) 2 43 := ⟨by decide +kernel, rfl⟩
theorem rX11_within_43 : tq_D cX11_within 43 (.invokevirtual 251) 3 46 := ⟨by decide +kernel, rfl⟩
theorem rX11_within_46 : tq_D cX11_within 46 (.aload_n 0) 1 47 := ⟨by decide +kernel, rfl⟩
theorem rX11_within_47 : tq_D cX11_within 47 (.getfield 55) 3 50 := ⟨by decide +kernel, rfl⟩
theorem rX11_within_50 : tq_D cX11_within 50 (.iload_n 2) 1 51 := ⟨by decide +kernel, rfl⟩
theorem rX11_within_51 : tq_D cX11_within 51 (.iload_n 3) 1 52 := ⟨by decide +kernel, rfl⟩
theorem rX11_within_52 : tq_D cX11_within 52 (.invokevirtual 369) 3 55 := ⟨by decide +kernel, rfl⟩
theorem rX11_within_55 : decode cX11_within 55 = .ok (.ireturn, 1) := by decide +kernel
noncomputable def FX11_within_j35 (I : tq_PI) (L : tq_PL)  : Option (Int32 × tq_PL) :=
  some ((-1 : Int32), L)
noncomputable def FX11_within (I : tq_PI) (L : tq_PL) (a0 : Nat) (a1 : Int32) (a2 : Int32) (a3 : Int32) : Option (Int32 × tq_PL) :=
  ((FX0_logAt I L ((tq_rg a0 0)) a1).bind fun p1 =>  (p1.elim ((FX11_within_j35 I L )) (fun t2 => (if a2 < 0 then (FX11_within_j35 I L ) else (if (48 : Int32) ≤ a2 then (FX11_within_j35 I L ) else (if a3 < 0 then (FX11_within_j35 I L ) else (if a3 ≤ (12 : Int32) then ((FX2_gather I L ((tq_rg a0 7)) t2).bind fun p7 => ((FX2_countNear I p7 ((tq_rg a0 7)) a2 a3).bind fun p8 => some (p8, p7))) else (FX11_within_j35 I L ))))))))
set_option maxRecDepth 100000 in
set_option maxHeartbeats 4000000 in
theorem FX11_within_j35_x {S : Nat × (Nat → Int32)} {d : Nat} {I : tq_PI} {L : tq_PL}   {q0 : Option Value → tq_PI → tq_PL → Prop} {out : Int32 × tq_PL} (hf : FX11_within_j35 I L = some out) (hk : q0 (some (.int out.1)) I out.2) : tq_X S mX11_within (d + 5) tq_k0 35 ([tq_u, tq_u, tq_u, tq_u, tq_u]) ([]) (tq_st I L) (tq_Q q0) := by
  unfold FX11_within_j35 at hf
  refine tq_iconst (-1 : Int32) rX11_within_35 (by decide) ?_
  refine ty_iret rX11_within_36 rfl rfl ?_
  have hf := Option.some.inj hf
  subst hf
  exact hk

set_option maxRecDepth 100000 in
set_option maxHeartbeats 4000000 in
theorem CX11_within {S : Nat × (Nat → Int32)} {d : Nat} {I : tq_PI} {L : tq_PL} {a0 : Nat} {a1 : Int32} {a2 : Int32} {a3 : Int32} (h0 : tq_sh0 a0 = 11) {out : Int32 × tq_PL} (hf : FX11_within I L a0 a1 a2 a3 = some out) : tq_K S mX11_within (d + 5) [.ref a0, .int a1, .int a2, .int a3] I L (tq_one2 (some (.int out.1)) I out.2) := by
  unfold FX11_within at hf
  refine tq_K_of (by decide) (Nat.le_of_ble_eq_true rfl) (ls := [.ref a0, .int a1, .int a2, .int a3, tq_u]) rfl ?_
  refine tq_aload_n rX11_within_0 rfl ?_
  refine ty_getR rX11_within_1 f_X11_10 rfl h0 (hp_11_0 h0).1 ?_
  refine tq_iload_n rX11_within_4 rfl ?_
  obtain ⟨p1, e1, hf⟩ := Option.bind_eq_some_iff.mp hf
  refine ty_callVA p1 ([.int a1]) ([]) rX11_within_5 l_X11_240 moX0_logAt mvX0_logAt (hp_11_0 h0).2.1 rfl rfl (Nat.le_of_ble_eq_true rfl) ⟨rfl, rfl⟩ (CX0_logAt (hp_11_0 h0).2.1 e1) ?_
  rcases tq_oelim hf with ⟨t2q, hf⟩ | ⟨t2, t2q, hf⟩
  · rw [t2q]
    refine tq_astoreN ([.ref a0, .int a1, .int a2, .int a3, .null]) rX11_within_8 (Nat.le_of_ble_eq_true rfl) rfl ?_
    refine tq_aloadN rX11_within_10 rfl ?_
    refine tq_ifnullN rX11_within_12 ?_
    exact tq_forget _ (tq_le_u (tq_le_u (tq_le_u (tq_le_u (tq_le_u tq_le_n))))) (FX11_within_j35_x   hf ⟨rfl, rfl, rfl⟩)
  · have t2h := RX0_logAt (hp_11_0 h0).2.1 e1 t2q
    rw [t2q]
    refine tq_astore ([.ref a0, .int a1, .int a2, .int a3, .ref t2]) rX11_within_8 (Nat.le_of_ble_eq_true rfl) rfl ?_
    refine tq_aload rX11_within_10 rfl ?_
    refine tq_ifnullR rX11_within_12 ?_
    refine tq_iload_n rX11_within_15 rfl ?_
    refine tq_if_lt rX11_within_16 (fun c3 => ?_) (fun c3 => ?_)
    · rw [if_pos c3] at hf
      exact tq_forget _ (tq_le_u (tq_le_u (tq_le_u (tq_le_u (tq_le_u tq_le_n))))) (FX11_within_j35_x   hf ⟨rfl, rfl, rfl⟩)
    · rw [if_neg c3] at hf
      refine tq_iload_n rX11_within_19 rfl ?_
      refine tq_bipush (48 : Int32) rX11_within_20 (by decide) ?_
      refine tq_icmp_ge rX11_within_22 (fun c4 => ?_) (fun c4 => ?_)
      · rw [if_pos c4] at hf
        exact tq_forget _ (tq_le_u (tq_le_u (tq_le_u (tq_le_u (tq_le_u tq_le_n))))) (FX11_within_j35_x   hf ⟨rfl, rfl, rfl⟩)
      · rw [if_neg c4] at hf
        refine tq_iload_n rX11_within_25 rfl ?_
        refine tq_if_lt rX11_within_26 (fun c5 => ?_) (fun c5 => ?_)
        · rw [if_pos c5] at hf
          exact tq_forget _ (tq_le_u (tq_le_u (tq_le_u (tq_le_u (tq_le_u tq_le_n))))) (FX11_within_j35_x   hf ⟨rfl, rfl, rfl⟩)
        · rw [if_neg c5] at hf
          refine tq_iload_n rX11_within_29 rfl ?_
          refine tq_bipush (12 : Int32) rX11_within_30 (by decide) ?_
          refine tq_icmp_le rX11_within_32 (fun c6 => ?_) (fun c6 => ?_)
          · rw [if_pos c6] at hf
            refine tq_aload_n rX11_within_37 rfl ?_
            refine ty_getR rX11_within_38 f_X11_55 rfl h0 (hp_11_7 h0).1 ?_
            refine tq_aload rX11_within_41 rfl ?_
            obtain ⟨p7, e7, hf⟩ := Option.bind_eq_some_iff.mp hf
            refine ty_callVV ([.ref t2]) ([]) rX11_within_43 l_X11_251 moX2_gather mvX2_gather (hp_11_7 h0).2.1 rfl rfl (Nat.le_of_ble_eq_true rfl) ⟨rfl, rfl⟩ (CX2_gather (hp_11_7 h0).2.1 t2h e7) ?_
            refine tq_aload_n rX11_within_46 rfl ?_
            refine ty_getR rX11_within_47 f_X11_55 rfl h0 (hp_11_7 h0).1 ?_
            refine tq_iload_n rX11_within_50 rfl ?_
            refine tq_iload_n rX11_within_51 rfl ?_
            obtain ⟨p8, e8, hf⟩ := Option.bind_eq_some_iff.mp hf
            refine ty_callVI p8 ([.int a2, .int a3]) ([]) rX11_within_52 l_X11_369 moX2_countNear mvX2_countNear (hp_11_7 h0).2.1 rfl rfl (Nat.le_of_ble_eq_true rfl) ⟨rfl, rfl⟩ (CX2_countNear (hp_11_7 h0).2.1 e8) ?_
            refine ty_iret rX11_within_55 rfl rfl ?_
            have hf := Option.some.inj hf
            subst hf
            exact ⟨rfl, rfl, rfl⟩
          · rw [if_neg c6] at hf
            exact tq_forget _ (tq_le_u (tq_le_u (tq_le_u (tq_le_u (tq_le_u tq_le_n))))) (FX11_within_j35_x   hf ⟨rfl, rfl, rfl⟩)

abbrev mX11_shallowestDepth : tq_M := (yX11_shallowestDepth, cX11_shallowestDepth, 6, (Option.some Jvm.ClassFile.FieldType.int), 0, 0)
theorem rX11_shallowestDepth_0 : tq_D cX11_shallowestDepth 0 (.iload_n 0) 1 1 := ⟨by decide +kernel, rfl⟩
theorem rX11_shallowestDepth_1 : tq_D cX11_shallowestDepth 1 (.iconst 1) 1 2 := ⟨by decide +kernel, rfl⟩
theorem rX11_shallowestDepth_2 : tq_J cX11_shallowestDepth 2 (.if_icmp .ge) 7 5 := ⟨5, by decide +kernel, by decide, rfl⟩
theorem rX11_shallowestDepth_5 : tq_D cX11_shallowestDepth 5 (.iconst 0) 1 6 := ⟨by decide +kernel, rfl⟩
theorem rX11_shallowestDepth_6 : decode cX11_shallowestDepth 6 = .ok (.ireturn, 1) := by decide +kernel
theorem rX11_shallowestDepth_7 : tq_D cX11_shallowestDepth 7 (.iconst 1) 1 8 := ⟨by decide +kernel, rfl⟩
theorem rX11_shallowestDepth_8 : tq_D cX11_shallowestDepth 8 (.istore_n 1) 1 9 := ⟨by decide +kernel, rfl⟩
theorem rX11_shallowestDepth_9 : tq_D cX11_shallowestDepth 9 (.iconst 1) 1 10 := ⟨by decide +kernel, rfl⟩
theorem rX11_shallowestDepth_10 : tq_D cX11_shallowestDepth 10 (.istore_n 2) 1 11 := ⟨by decide +kernel, rfl⟩
theorem rX11_shallowestDepth_11 : tq_D cX11_shallowestDepth 11 (.iconst 1) 1 12 := ⟨by decide +kernel, rfl⟩
theorem rX11_shallowestDepth_12 : tq_D cX11_shallowestDepth 12 (.istore_n 3) 1 13 := ⟨by decide +kernel, rfl⟩
theorem rX11_shallowestDepth_13 : tq_D cX11_shallowestDepth 13 (.iconst 0) 1 14 := ⟨by decide +kernel, rfl⟩
theorem rX11_shallowestDepth_14 : tq_D cX11_shallowestDepth 14 (.istore 4) 2 16 := ⟨by decide +kernel, rfl⟩
theorem rX11_shallowestDepth_16 : tq_D cX11_shallowestDepth 16 (.iload 4) 2 18 := ⟨by decide +kernel, rfl⟩
theorem rX11_shallowestDepth_18 : tq_D cX11_shallowestDepth 18 (.bipush 8) 2 20 := ⟨by decide +kernel, rfl⟩
theorem rX11_shallowestDepth_20 : tq_J cX11_shallowestDepth 20 (.if_icmp .ge) 47 23 := ⟨27, by decide +kernel, by decide, rfl⟩
theorem rX11_shallowestDepth_23 : tq_D cX11_shallowestDepth 23 (.iload_n 2) 1 24 := ⟨by decide +kernel, rfl⟩
theorem rX11_shallowestDepth_24 : tq_D cX11_shallowestDepth 24 (.iload_n 0) 1 25 := ⟨by decide +kernel, rfl⟩
theorem rX11_shallowestDepth_25 : tq_J cX11_shallowestDepth 25 (.if_icmp .ge) 47 28 := ⟨22, by decide +kernel, by decide, rfl⟩
theorem rX11_shallowestDepth_28 : tq_D cX11_shallowestDepth 28 (.iload_n 1) 1 29 := ⟨by decide +kernel, rfl⟩
theorem rX11_shallowestDepth_29 : tq_D cX11_shallowestDepth 29 (.iload_n 2) 1 30 := ⟨by decide +kernel, rfl⟩
theorem rX11_shallowestDepth_30 : tq_D cX11_shallowestDepth 30 (.iadd) 1 31 := ⟨by decide +kernel, rfl⟩
theorem rX11_shallowestDepth_31 : tq_D cX11_shallowestDepth 31 (.istore 5) 2 33 := ⟨by decide +kernel, rfl⟩
theorem rX11_shallowestDepth_33 : tq_D cX11_shallowestDepth 33 (.iload_n 2) 1 34 := ⟨by decide +kernel, rfl⟩
theorem rX11_shallowestDepth_34 : tq_D cX11_shallowestDepth 34 (.istore_n 1) 1 35 := ⟨by decide +kernel, rfl⟩
theorem rX11_shallowestDepth_35 : tq_D cX11_shallowestDepth 35 (.iload 5) 2 37 := ⟨by decide +kernel, rfl⟩
theorem rX11_shallowestDepth_37 : tq_D cX11_shallowestDepth 37 (.istore_n 2) 1 38 := ⟨by decide +kernel, rfl⟩
theorem rX11_shallowestDepth_38 : tq_D cX11_shallowestDepth 38 (.iinc 3 1) 3 41 := ⟨by decide +kernel, rfl⟩
theorem rX11_shallowestDepth_41 : tq_D cX11_shallowestDepth 41 (.iinc 4 1) 3 44 := ⟨by decide +kernel, rfl⟩
theorem rX11_shallowestDepth_44 : tq_J cX11_shallowestDepth 44 .goto 16 47 := ⟨(-28), by decide +kernel, by decide, rfl⟩
theorem rX11_shallowestDepth_47 : tq_D cX11_shallowestDepth 47 (.iload_n 3) 1 48 := ⟨by decide +kernel, rfl⟩
theorem rX11_shallowestDepth_48 : decode cX11_shallowestDepth 48 = .ok (.ireturn, 1) := by decide +kernel
noncomputable def FX11_shallowestDepth_s16 (I : tq_PI) (L : tq_PL) (a0 : Int32) (a1 : Int32) (a2 : Int32) (a3 : Int32) (a4 : Int32) : Option ((Int32 × Int32 × Int32 × Int32) ⊕ (Int32)) :=
  (if (8 : Int32) ≤ a4 then some (.inr a3) else (if a0 ≤ a2 then some (.inr a3) else some (.inl (a2, (a1 + a2), (a3 + 1), (a4 + 1)))))
noncomputable def FX11_shallowestDepth (I : tq_PI) (L : tq_PL) (a0 : Int32) : Option (Int32) :=
  (if (1 : Int32) ≤ a0 then ((tq_it (fun p : Int32 × Int32 × Int32 × Int32 => FX11_shallowestDepth_s16 I L a0 p.1 p.2.1 p.2.2.1 p.2.2.2) tq_N ((1 : Int32), (1 : Int32), (1 : Int32), (0 : Int32))).bind fun p4 => some p4) else some (0 : Int32))
set_option maxRecDepth 100000 in
set_option maxHeartbeats 4000000 in
theorem FX11_shallowestDepth_s16_x {S : Nat × (Nat → Int32)} {d : Nat} {I : tq_PI} {L : tq_PL} {a0 : Int32} {a1 : Int32} {a2 : Int32} {a3 : Int32} {a4 : Int32}  {q0 : Option Value → tq_PI → tq_PL → Prop} {out : (Int32 × Int32 × Int32 × Int32) ⊕ (Int32)} (hf : FX11_shallowestDepth_s16 I L a0 a1 a2 a3 a4 = some out) (hk : Sum.elim (fun p : Int32 × Int32 × Int32 × Int32 => tq_X S mX11_shallowestDepth d tq_k0 16 ([.int a0, .int p.1, .int p.2.1, .int p.2.2.1, .int p.2.2.2, tq_u]) [] (tq_st I L) (tq_Q q0)) (fun p : Int32 => tq_X S mX11_shallowestDepth d tq_k0 47 ([tq_u, tq_u, tq_u, .int p, tq_u, tq_u]) [] (tq_st I L) (tq_Q q0)) out) : tq_X S mX11_shallowestDepth d tq_k0 16 ([.int a0, .int a1, .int a2, .int a3, .int a4, tq_u]) [] (tq_st I L) (tq_Q q0) := by
  unfold FX11_shallowestDepth_s16 at hf
  refine tq_iload rX11_shallowestDepth_16 rfl ?_
  refine tq_bipush (8 : Int32) rX11_shallowestDepth_18 (by decide) ?_
  refine tq_icmp_ge rX11_shallowestDepth_20 (fun c2 => ?_) (fun c2 => ?_)
  · rw [if_pos c2] at hf
    have hf := Option.some.inj hf
    subst hf
    exact tq_forget _ (tq_le_u (tq_le_u (tq_le_u (tq_le_s (tq_le_u (tq_le_u tq_le_n)))))) hk
  · rw [if_neg c2] at hf
    refine tq_iload_n rX11_shallowestDepth_23 rfl ?_
    refine tq_iload_n rX11_shallowestDepth_24 rfl ?_
    refine tq_icmp_ge rX11_shallowestDepth_25 (fun c3 => ?_) (fun c3 => ?_)
    · rw [if_pos c3] at hf
      have hf := Option.some.inj hf
      subst hf
      exact tq_forget _ (tq_le_u (tq_le_u (tq_le_u (tq_le_s (tq_le_u (tq_le_u tq_le_n)))))) hk
    · rw [if_neg c3] at hf
      refine tq_iload_n rX11_shallowestDepth_28 rfl ?_
      refine tq_iload_n rX11_shallowestDepth_29 rfl ?_
      refine tq_iadd rX11_shallowestDepth_30 ?_
      refine tq_istore ([.int a0, .int a1, .int a2, .int a3, .int a4, .int (a1 + a2)]) rX11_shallowestDepth_31 (Nat.le_of_ble_eq_true rfl) rfl ?_
      refine tq_iload_n rX11_shallowestDepth_33 rfl ?_
      refine tq_istore_n ([.int a0, .int a2, .int a2, .int a3, .int a4, .int (a1 + a2)]) rX11_shallowestDepth_34 (Nat.le_of_ble_eq_true rfl) rfl ?_
      refine tq_iload rX11_shallowestDepth_35 rfl ?_
      refine tq_istore_n ([.int a0, .int a2, .int (a1 + a2), .int a3, .int a4, .int (a1 + a2)]) rX11_shallowestDepth_37 (Nat.le_of_ble_eq_true rfl) rfl ?_
      refine tq_iinc (a3 + 1) ([.int a0, .int a2, .int (a1 + a2), .int (a3 + 1), .int a4, .int (a1 + a2)]) rX11_shallowestDepth_38 rfl (tq_inc (by decide)) (Nat.le_of_ble_eq_true rfl) rfl ?_
      refine tq_iinc (a4 + 1) ([.int a0, .int a2, .int (a1 + a2), .int (a3 + 1), .int (a4 + 1), .int (a1 + a2)]) rX11_shallowestDepth_41 rfl (tq_inc (by decide)) (Nat.le_of_ble_eq_true rfl) rfl ?_
      refine tq_goto rX11_shallowestDepth_44 ?_
      have hf := Option.some.inj hf
      subst hf
      exact tq_forget _ (tq_le_s (tq_le_s (tq_le_s (tq_le_s (tq_le_s (tq_le_u tq_le_n)))))) hk

set_option maxRecDepth 100000 in
set_option maxHeartbeats 4000000 in
theorem CX11_shallowestDepth {S : Nat × (Nat → Int32)} {d : Nat} {I : tq_PI} {L : tq_PL} {a0 : Int32}  {out : Int32} (hf : FX11_shallowestDepth I L a0 = some out) : tq_K S mX11_shallowestDepth d [.int a0] I L (tq_one2 (some (.int out)) I L) := by
  unfold FX11_shallowestDepth at hf
  refine tq_K_of (by decide) (Nat.le_of_ble_eq_true rfl) (ls := [.int a0, tq_u, tq_u, tq_u, tq_u, tq_u]) rfl ?_
  refine tq_iload_n rX11_shallowestDepth_0 rfl ?_
  refine tq_iconst (1 : Int32) rX11_shallowestDepth_1 (by decide) ?_
  refine tq_icmp_ge rX11_shallowestDepth_2 (fun c1 => ?_) (fun c1 => ?_)
  · rw [if_pos c1] at hf
    refine tq_iconst (1 : Int32) rX11_shallowestDepth_7 (by decide) ?_
    refine tq_istore_n ([.int a0, .int (1 : Int32), tq_u, tq_u, tq_u, tq_u]) rX11_shallowestDepth_8 (Nat.le_of_ble_eq_true rfl) rfl ?_
    refine tq_iconst (1 : Int32) rX11_shallowestDepth_9 (by decide) ?_
    refine tq_istore_n ([.int a0, .int (1 : Int32), .int (1 : Int32), tq_u, tq_u, tq_u]) rX11_shallowestDepth_10 (Nat.le_of_ble_eq_true rfl) rfl ?_
    refine tq_iconst (1 : Int32) rX11_shallowestDepth_11 (by decide) ?_
    refine tq_istore_n ([.int a0, .int (1 : Int32), .int (1 : Int32), .int (1 : Int32), tq_u, tq_u]) rX11_shallowestDepth_12 (Nat.le_of_ble_eq_true rfl) rfl ?_
    refine tq_iconst (0 : Int32) rX11_shallowestDepth_13 (by decide) ?_
    refine tq_istore ([.int a0, .int (1 : Int32), .int (1 : Int32), .int (1 : Int32), .int (0 : Int32), tq_u]) rX11_shallowestDepth_14 (Nat.le_of_ble_eq_true rfl) rfl ?_
    obtain ⟨p4, e4, hf⟩ := Option.bind_eq_some_iff.mp hf
    refine tq_forget _ (tq_le_s (tq_le_s (tq_le_s (tq_le_s (tq_le_s (tq_le_u tq_le_n)))))) ?_
    refine tq_it_elim (P := fun p : Int32 × Int32 × Int32 × Int32 => tq_X S mX11_shallowestDepth d tq_k0 16 ([.int a0, .int p.1, .int p.2.1, .int p.2.2.1, .int p.2.2.2, tq_u]) [] (tq_st I L) (tq_Q (tq_one2 (some (.int out)) I L))) (R := fun p : Int32 => tq_X S mX11_shallowestDepth d tq_k0 47 ([tq_u, tq_u, tq_u, .int p, tq_u, tq_u]) [] (tq_st I L) (tq_Q (tq_one2 (some (.int out)) I L))) (fun p o hp hk => FX11_shallowestDepth_s16_x   hp hk) _ (((1 : Int32), (1 : Int32), (1 : Int32), (0 : Int32))) _ e4 ?_
    show tq_X _ _ _ _ _ _ _ _ _
    refine tq_iload_n rX11_shallowestDepth_47 rfl ?_
    refine ty_iret rX11_shallowestDepth_48 rfl rfl ?_
    have hf := Option.some.inj hf
    subst hf
    exact ⟨rfl, rfl, rfl⟩
  · rw [if_neg c1] at hf
    refine tq_iconst (0 : Int32) rX11_shallowestDepth_5 (by decide) ?_
    refine ty_iret rX11_shallowestDepth_6 rfl rfl ?_
    have hf := Option.some.inj hf
    subst hf
    exact ⟨rfl, rfl, rfl⟩

abbrev mX11_deepest : tq_M := (yX11_deepest, cX11_deepest, 3, (Option.some Jvm.ClassFile.FieldType.int), 0, 0)
theorem moX11_shallowestDepth : tq_mok mX11_shallowestDepth 1 := ⟨tq_sg1 _ (List.mem_of_getElem? (i := 1) rfl), tq_sg6 _ (List.mem_of_getElem? (i := 49) rfl), ⟨by decide, by decide, by decide +kernel⟩, by decide⟩
theorem msX11_shallowestDepth : Cond.static mX11_shallowestDepth.1 ∈ lw_tbl := tq_sg6 _ (List.mem_of_getElem? (i := 48) rfl)
theorem l_X11_372 : tq_lok RX11 372 mX11_shallowestDepth.1 := Or.inl (tq_sg6 _ (List.mem_of_getElem? (i := 47) rfl))
theorem rX11_deepest_0 : tq_D cX11_deepest 0 (.aload_n 0) 1 1 := ⟨by decide +kernel, rfl⟩
theorem rX11_deepest_1 : tq_D cX11_deepest 1 (.getfield 10) 3 4 := ⟨by decide +kernel, rfl⟩
theorem rX11_deepest_4 : tq_D cX11_deepest 4 (.iload_n 1) 1 5 := ⟨by decide +kernel, rfl⟩
theorem rX11_deepest_5 : tq_D cX11_deepest 5 (.invokevirtual 270) 3 8 := ⟨by decide +kernel, rfl⟩
theorem rX11_deepest_8 : tq_D cX11_deepest 8 (.astore_n 2) 1 9 := ⟨by decide +kernel, rfl⟩
theorem rX11_deepest_9 : tq_D cX11_deepest 9 (.aload_n 2) 1 10 := ⟨by decide +kernel, rfl⟩
theorem rX11_deepest_10 : tq_J cX11_deepest 10 .ifnonnull 17 13 := ⟨7, by decide +kernel, by decide, rfl⟩
theorem rX11_deepest_13 : tq_D cX11_deepest 13 (.iconst (-1)) 1 14 := ⟨by decide +kernel, rfl⟩
theorem rX11_deepest_14 : tq_J cX11_deepest 14 .goto 24 17 := ⟨10, by decide +kernel, by decide, rfl⟩
theorem rX11_deepest_17 : tq_D cX11_deepest 17 (.aload_n 2) 1 18 := ⟨by decide +kernel, rfl⟩
theorem rX11_deepest_18 : tq_D cX11_deepest 18 (.getfield 274) 3 21 := ⟨by decide +kernel, rfl⟩
theorem rX11_deepest_21 : tq_D cX11_deepest 21 (.invokestatic 372) 3 24 := ⟨by decide +kernel, rfl⟩
theorem rX11_deepest_24 : decode cX11_deepest 24 = .ok (.ireturn, 1) := by decide +kernel
noncomputable def FX11_deepest (I : tq_PI) (L : tq_PL) (a0 : Nat) (a1 : Int32) : Option (Int32) :=
  ((FX0_talkAt I L ((tq_rg a0 0)) a1).bind fun p1 =>  (p1.elim (some (-1 : Int32)) (fun t2 => ((FX11_shallowestDepth I L ((I t2 0))).bind fun p3 => some p3))))
set_option maxRecDepth 100000 in
set_option maxHeartbeats 4000000 in
theorem CX11_deepest {S : Nat × (Nat → Int32)} {d : Nat} {I : tq_PI} {L : tq_PL} {a0 : Nat} {a1 : Int32} (h0 : tq_sh0 a0 = 11) {out : Int32} (hf : FX11_deepest I L a0 a1 = some out) : tq_K S mX11_deepest (d + 2) [.ref a0, .int a1] I L (tq_one2 (some (.int out)) I L) := by
  unfold FX11_deepest at hf
  refine tq_K_of (by decide) (Nat.le_of_ble_eq_true rfl) (ls := [.ref a0, .int a1, tq_u]) rfl ?_
  refine tq_aload_n rX11_deepest_0 rfl ?_
  refine ty_getR rX11_deepest_1 f_X11_10 rfl h0 (hp_11_0 h0).1 ?_
  refine tq_iload_n rX11_deepest_4 rfl ?_
  obtain ⟨p1, e1, hf⟩ := Option.bind_eq_some_iff.mp hf
  refine ty_callVA p1 ([.int a1]) ([]) rX11_deepest_5 l_X11_270 moX0_talkAt mvX0_talkAt (hp_11_0 h0).2.1 rfl rfl (Nat.le_of_ble_eq_true rfl) ⟨rfl, rfl⟩ (CX0_talkAt (hp_11_0 h0).2.1 e1) ?_
  rcases tq_oelim hf with ⟨t2q, hf⟩ | ⟨t2, t2q, hf⟩
  · rw [t2q]
    refine tq_astoreN_n ([.ref a0, .int a1, .null]) rX11_deepest_8 (Nat.le_of_ble_eq_true rfl) rfl ?_
    refine tq_aloadN_n rX11_deepest_9 rfl ?_
    refine tq_ifnonnullN rX11_deepest_10 ?_
    refine tq_iconst (-1 : Int32) rX11_deepest_13 (by decide) ?_
    refine tq_goto rX11_deepest_14 ?_
    refine ty_iret rX11_deepest_24 rfl rfl ?_
    have hf := Option.some.inj hf
    subst hf
    exact ⟨rfl, rfl, rfl⟩
  · have t2h := RX0_talkAt (hp_11_0 h0).2.1 e1 t2q
    rw [t2q]
    refine tq_astore_n ([.ref a0, .int a1, .ref t2]) rX11_deepest_8 (Nat.le_of_ble_eq_true rfl) rfl ?_
    refine tq_aload_n rX11_deepest_9 rfl ?_
    refine tq_ifnonnullR rX11_deepest_10 ?_
    refine tq_aload_n rX11_deepest_17 rfl ?_
    refine ty_getI rX11_deepest_18 f_X11_274 rfl t2h ?_
    obtain ⟨p3, e3, hf⟩ := Option.bind_eq_some_iff.mp hf
    refine ty_callSI p3 ([.int (I t2 0)]) ([]) rX11_deepest_21 l_X11_372 moX11_shallowestDepth msX11_shallowestDepth rfl rfl (Nat.le_of_ble_eq_true rfl) ⟨rfl, rfl⟩ (CX11_shallowestDepth  e3) ?_
    refine ty_iret rX11_deepest_24 rfl rfl ?_
    have hf := Option.some.inj hf
    subst hf
    exact ⟨rfl, rfl, rfl⟩

abbrev mX11_count : tq_M := (yX11_count, cX11_count, 2, (Option.some Jvm.ClassFile.FieldType.int), 0, 0)
theorem rX11_count_0 : tq_D cX11_count 0 (.iload_n 1) 1 1 := ⟨by decide +kernel, rfl⟩
theorem rX11_count_1 : tq_J cX11_count 1 (.ifCond .lt) 9 4 := ⟨8, by decide +kernel, by decide, rfl⟩
theorem rX11_count_4 : tq_D cX11_count 4 (.iload_n 1) 1 5 := ⟨by decide +kernel, rfl⟩
theorem rX11_count_5 : tq_D cX11_count 5 (.iconst 4) 1 6 := ⟨by decide +kernel, rfl⟩
theorem rX11_count_6 : tq_J cX11_count 6 (.if_icmp .lt) 14 9 := ⟨8, by decide +kernel, by decide, rfl⟩
theorem rX11_count_9 : tq_D cX11_count 9 (.bipush (-2)) 2 11 := ⟨by decide +kernel, rfl⟩
theorem rX11_count_11 : tq_J cX11_count 11 .goto 22 14 := ⟨11, by decide +kernel, by decide, rfl⟩
theorem rX11_count_14 : tq_D cX11_count 14 (.aload_n 0) 1 15 := ⟨by decide +kernel, rfl⟩
theorem rX11_count_15 : tq_D cX11_count 15 (.getfield 10) 3 18 := ⟨by decide +kernel, rfl⟩
theorem rX11_count_18 : tq_D cX11_count 18 (.iload_n 1) 1 19 := ⟨by decide +kernel, rfl⟩
theorem rX11_count_19 : tq_D cX11_count 19 (.invokevirtual 84) 3 22 := ⟨by decide +kernel, rfl⟩
theorem rX11_count_22 : decode cX11_count 22 = .ok (.ireturn, 1) := by decide +kernel
noncomputable def FX11_count_j9 (I : tq_PI) (L : tq_PL)  : Option (Int32) :=
  some (-2 : Int32)
noncomputable def FX11_count (I : tq_PI) (L : tq_PL) (a0 : Nat) (a1 : Int32) : Option (Int32) :=
  (if a1 < 0 then (FX11_count_j9 I L ) else (if a1 < (4 : Int32) then ((FX0_countOf I L ((tq_rg a0 0)) a1).bind fun p3 => some p3) else (FX11_count_j9 I L )))
set_option maxRecDepth 100000 in
set_option maxHeartbeats 4000000 in
theorem FX11_count_j9_x {S : Nat × (Nat → Int32)} {d : Nat} {I : tq_PI} {L : tq_PL}   {q0 : Option Value → tq_PI → tq_PL → Prop} {out : Int32} (hf : FX11_count_j9 I L = some out) (hk : q0 (some (.int out)) I L) : tq_X S mX11_count (d + 1) tq_k0 9 ([tq_u, tq_u]) ([]) (tq_st I L) (tq_Q q0) := by
  unfold FX11_count_j9 at hf
  refine tq_bipush (-2 : Int32) rX11_count_9 (by decide) ?_
  refine tq_goto rX11_count_11 ?_
  refine ty_iret rX11_count_22 rfl rfl ?_
  have hf := Option.some.inj hf
  subst hf
  exact hk

set_option maxRecDepth 100000 in
set_option maxHeartbeats 4000000 in
theorem CX11_count {S : Nat × (Nat → Int32)} {d : Nat} {I : tq_PI} {L : tq_PL} {a0 : Nat} {a1 : Int32} (h0 : tq_sh0 a0 = 11) {out : Int32} (hf : FX11_count I L a0 a1 = some out) : tq_K S mX11_count (d + 1) [.ref a0, .int a1] I L (tq_one2 (some (.int out)) I L) := by
  unfold FX11_count at hf
  refine tq_K_of (by decide) (Nat.le_of_ble_eq_true rfl) (ls := [.ref a0, .int a1]) rfl ?_
  refine tq_iload_n rX11_count_0 rfl ?_
  refine tq_if_lt rX11_count_1 (fun c1 => ?_) (fun c1 => ?_)
  · rw [if_pos c1] at hf
    exact tq_forget _ (tq_le_u (tq_le_u tq_le_n)) (FX11_count_j9_x   hf ⟨rfl, rfl, rfl⟩)
  · rw [if_neg c1] at hf
    refine tq_iload_n rX11_count_4 rfl ?_
    refine tq_iconst (4 : Int32) rX11_count_5 (by decide) ?_
    refine tq_icmp_lt rX11_count_6 (fun c2 => ?_) (fun c2 => ?_)
    · rw [if_pos c2] at hf
      refine tq_aload_n rX11_count_14 rfl ?_
      refine ty_getR rX11_count_15 f_X11_10 rfl h0 (hp_11_0 h0).1 ?_
      refine tq_iload_n rX11_count_18 rfl ?_
      obtain ⟨p3, e3, hf⟩ := Option.bind_eq_some_iff.mp hf
      refine ty_callVI p3 ([.int a1]) ([]) rX11_count_19 l_X11_84 moX0_countOf mvX0_countOf (hp_11_0 h0).2.1 rfl rfl (Nat.le_of_ble_eq_true rfl) ⟨rfl, rfl⟩ (CX0_countOf (hp_11_0 h0).2.1 e3) ?_
      refine ty_iret rX11_count_22 rfl rfl ?_
      have hf := Option.some.inj hf
      subst hf
      exact ⟨rfl, rfl, rfl⟩
    · rw [if_neg c2] at hf
      exact tq_forget _ (tq_le_u (tq_le_u tq_le_n)) (FX11_count_j9_x   hf ⟨rfl, rfl, rfl⟩)

abbrev mX11_image : tq_M := (yX11_image, cX11_image, 2, (Option.some Jvm.ClassFile.FieldType.boolean), 0, 0)
theorem moX0_take : tq_mok mX0_take 1 := ⟨tq_sg1 _ (List.mem_of_getElem? (i := 2) rfl), tq_sg6 _ (List.mem_of_getElem? (i := 61) rfl), ⟨by decide, by decide, by decide +kernel⟩, by decide⟩
theorem mvX0_take : 0 < 13 ∧ (tq_cl 0).1 = mX0_take.1.cls ∧ Cond.instanceMethod mX0_take.1 ∈ lw_tbl ∧ Cond.selects mX0_take.1.cls mX0_take.1 mX0_take.1 ∈ lw_tbl := ⟨by decide, rfl, tq_sg6 _ (List.mem_of_getElem? (i := 59) rfl), tq_sg6 _ (List.mem_of_getElem? (i := 60) rfl)⟩
theorem f_X11_16 : tq_fok RX11 16 11 1 := ⟨by decide, by decide, Or.inl (tq_sg2 _ (List.mem_of_getElem? (i := 122) rfl))⟩
theorem f_X11_20 : tq_fok RX11 20 11 2 := ⟨by decide, by decide, Or.inl (tq_sg2 _ (List.mem_of_getElem? (i := 123) rfl))⟩
theorem l_X11_375 : tq_lok RX11 375 mX0_take.1 := Or.inl (tq_sg6 _ (List.mem_of_getElem? (i := 58) rfl))
theorem rX11_image_0 : tq_D cX11_image 0 (.iload_n 1) 1 1 := ⟨by decide +kernel, rfl⟩
theorem rX11_image_1 : tq_J cX11_image 1 (.ifCond .lt) 22 4 := ⟨21, by decide +kernel, by decide, rfl⟩
theorem rX11_image_4 : tq_D cX11_image 4 (.iload_n 1) 1 5 := ⟨by decide +kernel, rfl⟩
theorem rX11_image_5 : tq_D cX11_image 5 (.aload_n 0) 1 6 := ⟨by decide +kernel, rfl⟩
theorem rX11_image_6 : tq_D cX11_image 6 (.getfield 16) 3 9 := ⟨by decide +kernel, rfl⟩
theorem rX11_image_9 : tq_D cX11_image 9 (.arraylength) 1 10 := ⟨by decide +kernel, rfl⟩
theorem rX11_image_10 : tq_J cX11_image 10 (.if_icmp .ge) 22 13 := ⟨12, by decide +kernel, by decide, rfl⟩
theorem rX11_image_13 : tq_D cX11_image 13 (.iload_n 1) 1 14 := ⟨by decide +kernel, rfl⟩
theorem rX11_image_14 : tq_D cX11_image 14 (.aload_n 0) 1 15 := ⟨by decide +kernel, rfl⟩
theorem rX11_image_15 : tq_D cX11_image 15 (.getfield 20) 3 18 := ⟨by decide +kernel, rfl⟩
theorem rX11_image_18 : tq_D cX11_image 18 (.arraylength) 1 19 := ⟨by decide +kernel, rfl⟩
theorem rX11_image_19 : tq_J cX11_image 19 (.if_icmp .lt) 24 22 := ⟨5, by decide +kernel, by decide, rfl⟩
theorem rX11_image_22 : tq_D cX11_image 22 (.iconst 0) 1 23 := ⟨by decide +kernel, rfl⟩
theorem rX11_image_23 : decode cX11_image 23 = .ok (.ireturn, 1) := by decide +kernel
theorem rX11_image_24 : tq_D cX11_image 24 (.aload_n 0) 1 25 := ⟨by decide +kernel, rfl⟩
theorem rX11_image_25 : tq_D cX11_image 25 (.getfield 16) 3 28 := ⟨by decide +kernel, rfl⟩
theorem rX11_image_28 : tq_D cX11_image 28 (.iload_n 1) 1 29 := ⟨by decide +kernel, rfl⟩
theorem rX11_image_29 : tq_D cX11_image 29 (.aaload) 1 30 := ⟨by decide +kernel, rfl⟩
theorem rX11_image_30 : tq_D cX11_image 30 (.aload_n 0) 1 31 := ⟨by decide +kernel, rfl⟩
theorem rX11_image_31 : tq_D cX11_image 31 (.getfield 10) 3 34 := ⟨by decide +kernel, rfl⟩
theorem rX11_image_34 : tq_D cX11_image 34 (.invokevirtual 375) 3 37 := ⟨by decide +kernel, rfl⟩
theorem rX11_image_37 : tq_D cX11_image 37 (.aload_n 0) 1 38 := ⟨by decide +kernel, rfl⟩
theorem rX11_image_38 : tq_D cX11_image 38 (.getfield 20) 3 41 := ⟨by decide +kernel, rfl⟩
theorem rX11_image_41 : tq_D cX11_image 41 (.iload_n 1) 1 42 := ⟨by decide +kernel, rfl⟩
theorem rX11_image_42 : tq_D cX11_image 42 (.iconst 1) 1 43 := ⟨by decide +kernel, rfl⟩
theorem rX11_image_43 : tq_D cX11_image 43 (.bastore) 1 44 := ⟨by decide +kernel, rfl⟩
theorem rX11_image_44 : tq_D cX11_image 44 (.iconst 1) 1 45 := ⟨by decide +kernel, rfl⟩
theorem rX11_image_45 : decode cX11_image 45 = .ok (.ireturn, 1) := by decide +kernel
noncomputable def FX11_image_j22 (I : tq_PI) (L : tq_PL)  : Option (Bool × tq_PI × tq_PL) :=
  some (false, I, L)
noncomputable def FX11_image (I : tq_PI) (L : tq_PL) (a0 : Nat) (a1 : Int32) : Option (Bool × tq_PI × tq_PL) :=
  (if a1 < 0 then (FX11_image_j22 I L ) else (if (3 : Int32) ≤ a1 then (FX11_image_j22 I L ) else (if a1 < (3 : Int32) then (if 0 ≤ a1 ∧ a1 < 3 then ((FX0_take I L ((tq_rg (tq_rg a0 1) a1.toNatClampNeg)) ((tq_rg a0 0))).bind fun p5 => (if 0 ≤ a1 ∧ a1 < 3 then some (true, (tq_up2 p5.1 (tq_rg a0 2) a1.toNatClampNeg (1 : Int32)), p5.2) else none)) else none) else (FX11_image_j22 I L ))))
set_option maxRecDepth 100000 in
set_option maxHeartbeats 4000000 in
theorem FX11_image_j22_x {S : Nat × (Nat → Int32)} {d : Nat} {I : tq_PI} {L : tq_PL}   {q0 : Option Value → tq_PI → tq_PL → Prop} {out : Bool × tq_PI × tq_PL} (hf : FX11_image_j22 I L = some out) (hk : q0 (some (.int (tq_b out.1))) out.2.1 out.2.2) : tq_X S mX11_image (d + 3) tq_k0 22 ([tq_u, tq_u]) ([]) (tq_st I L) (tq_Q q0) := by
  unfold FX11_image_j22 at hf
  refine tq_iconst (0 : Int32) rX11_image_22 (by decide) ?_
  refine ty_zret (ty := .boolean) rX11_image_23 rfl rfl rfl ?_
  have hf := Option.some.inj hf
  subst hf
  exact hk

set_option maxRecDepth 100000 in
set_option maxHeartbeats 4000000 in
theorem CX11_image {S : Nat × (Nat → Int32)} {d : Nat} {I : tq_PI} {L : tq_PL} {a0 : Nat} {a1 : Int32} (h0 : tq_sh0 a0 = 11) {out : Bool × tq_PI × tq_PL} (hf : FX11_image I L a0 a1 = some out) : tq_K S mX11_image (d + 3) [.ref a0, .int a1] I L (tq_one2 (some (.int (tq_b out.1))) out.2.1 out.2.2) := by
  unfold FX11_image at hf
  refine tq_K_of (by decide) (Nat.le_of_ble_eq_true rfl) (ls := [.ref a0, .int a1]) rfl ?_
  refine tq_iload_n rX11_image_0 rfl ?_
  refine tq_if_lt rX11_image_1 (fun c1 => ?_) (fun c1 => ?_)
  · rw [if_pos c1] at hf
    exact tq_forget _ (tq_le_u (tq_le_u tq_le_n)) (FX11_image_j22_x   hf ⟨rfl, rfl, rfl⟩)
  · rw [if_neg c1] at hf
    refine tq_iload_n rX11_image_4 rfl ?_
    refine tq_aload_n rX11_image_5 rfl ?_
    refine ty_getR rX11_image_6 f_X11_16 rfl h0 (hp_11_1 h0).1 ?_
    refine ty_alen (v := 3) rX11_image_9 (hp_11_1 h0).2.1 (by decide) (hp_11_1 h0).2.2 rfl ?_
    refine tq_icmp_ge rX11_image_10 (fun c2 => ?_) (fun c2 => ?_)
    · rw [if_pos c2] at hf
      exact tq_forget _ (tq_le_u (tq_le_u tq_le_n)) (FX11_image_j22_x   hf ⟨rfl, rfl, rfl⟩)
    · rw [if_neg c2] at hf
      refine tq_iload_n rX11_image_13 rfl ?_
      refine tq_aload_n rX11_image_14 rfl ?_
      refine ty_getR rX11_image_15 f_X11_20 rfl h0 (hp_11_2 h0).1 ?_
      refine ty_alen (v := 3) rX11_image_18 (hp_11_2 h0).2.1 (by decide) (hp_11_2 h0).2.2 rfl ?_
      refine tq_icmp_lt rX11_image_19 (fun c3 => ?_) (fun c3 => ?_)
      · rw [if_pos c3] at hf
        refine tq_aload_n rX11_image_24 rfl ?_
        refine ty_getR rX11_image_25 f_X11_16 rfl h0 (hp_11_1 h0).1 ?_
        refine tq_iload_n rX11_image_28 rfl ?_
        obtain ⟨g4, hf⟩ := tq_chk hf
        have g4r := hq_110 (hp_11_1 h0).2.1 (tq_bl (n := 3) rfl (by decide) g4)
        refine ty_aald (v := 3) rX11_image_29 (hp_11_1 h0).2.1 (by decide) (hp_11_1 h0).2.2 rfl (by decide) g4 g4r.1 ?_
        refine tq_aload_n rX11_image_30 rfl ?_
        refine ty_getR rX11_image_31 f_X11_10 rfl h0 (hp_11_0 h0).1 ?_
        obtain ⟨p5, e5, hf⟩ := Option.bind_eq_some_iff.mp hf
        refine ty_callVV ([.ref (tq_rg a0 0)]) ([]) rX11_image_34 l_X11_375 moX0_take mvX0_take g4r.2 rfl rfl (Nat.le_of_ble_eq_true rfl) ⟨rfl, rfl⟩ (CX0_take g4r.2 (hp_11_0 h0).2.1 e5) ?_
        refine tq_aload_n rX11_image_37 rfl ?_
        refine ty_getR rX11_image_38 f_X11_20 rfl h0 (hp_11_2 h0).1 ?_
        refine tq_iload_n rX11_image_41 rfl ?_
        refine tq_iconst (1 : Int32) rX11_image_42 (by decide) ?_
        obtain ⟨g6, hf⟩ := tq_chk hf
        refine ty_zast (v := 3) rX11_image_43 (hp_11_2 h0).2.1 (hp_11_2 h0).2.2 rfl (by decide) g6 (by decide) ?_
        refine tq_iconst (1 : Int32) rX11_image_44 (by decide) ?_
        refine ty_zret (ty := .boolean) rX11_image_45 rfl rfl rfl ?_
        have hf := Option.some.inj hf
        subst hf
        exact ⟨rfl, rfl, rfl⟩
      · rw [if_neg c3] at hf
        exact tq_forget _ (tq_le_u (tq_le_u tq_le_n)) (FX11_image_j22_x   hf ⟨rfl, rfl, rfl⟩)

abbrev mX11_again : tq_M := (yX11_again, cX11_again, 2, (Option.some Jvm.ClassFile.FieldType.boolean), 0, 0)
theorem rX11_again_0 : tq_D cX11_again 0 (.iload_n 1) 1 1 := ⟨by decide +kernel, rfl⟩
theorem rX11_again_1 : tq_J cX11_again 1 (.ifCond .lt) 31 4 := ⟨30, by decide +kernel, by decide, rfl⟩
theorem rX11_again_4 : tq_D cX11_again 4 (.iload_n 1) 1 5 := ⟨by decide +kernel, rfl⟩
theorem rX11_again_5 : tq_D cX11_again 5 (.aload_n 0) 1 6 := ⟨by decide +kernel, rfl⟩
theorem rX11_again_6 : tq_D cX11_again 6 (.getfield 16) 3 9 := ⟨by decide +kernel, rfl⟩
theorem rX11_again_9 : tq_D cX11_again 9 (.arraylength) 1 10 := ⟨by decide +kernel, rfl⟩
theorem rX11_again_10 : tq_J cX11_again 10 (.if_icmp .ge) 31 13 := ⟨21, by decide +kernel, by decide, rfl⟩
theorem rX11_again_13 : tq_D cX11_again 13 (.iload_n 1) 1 14 := ⟨by decide +kernel, rfl⟩
theorem rX11_again_14 : tq_D cX11_again 14 (.aload_n 0) 1 15 := ⟨by decide +kernel, rfl⟩
theorem rX11_again_15 : tq_D cX11_again 15 (.getfield 20) 3 18 := ⟨by decide +kernel, rfl⟩
theorem rX11_again_18 : tq_D cX11_again 18 (.arraylength) 1 19 := ⟨by decide +kernel, rfl⟩
theorem rX11_again_19 : tq_J cX11_again 19 (.if_icmp .ge) 31 22 := ⟨12, by decide +kernel, by decide, rfl⟩
theorem rX11_again_22 : tq_D cX11_again 22 (.aload_n 0) 1 23 := ⟨by decide +kernel, rfl⟩
theorem rX11_again_23 : tq_D cX11_again 23 (.getfield 20) 3 26 := ⟨by decide +kernel, rfl⟩
theorem rX11_again_26 : tq_D cX11_again 26 (.iload_n 1) 1 27 := ⟨by decide +kernel, rfl⟩
theorem rX11_again_27 : tq_D cX11_again 27 (.baload) 1 28 := ⟨by decide +kernel, rfl⟩
theorem rX11_again_28 : tq_J cX11_again 28 (.ifCond .ne) 33 31 := ⟨5, by decide +kernel, by decide, rfl⟩
theorem rX11_again_31 : tq_D cX11_again 31 (.iconst 0) 1 32 := ⟨by decide +kernel, rfl⟩
theorem rX11_again_32 : decode cX11_again 32 = .ok (.ireturn, 1) := by decide +kernel
theorem rX11_again_33 : tq_D cX11_again 33 (.aload_n 0) 1 34 := ⟨by decide +kernel, rfl⟩
theorem rX11_again_34 : tq_D cX11_again 34 (.getfield 10) 3 37 := ⟨by decide +kernel, rfl⟩
theorem rX11_again_37 : tq_D cX11_again 37 (.aload_n 0) 1 38 := ⟨by decide +kernel, rfl⟩
theorem rX11_again_38 : tq_D cX11_again 38 (.getfield 16) 3 41 := ⟨by decide +kernel, rfl⟩
theorem rX11_again_41 : tq_D cX11_again 41 (.iload_n 1) 1 42 := ⟨by decide +kernel, rfl⟩
theorem rX11_again_42 : tq_D cX11_again 42 (.aaload) 1 43 := ⟨by decide +kernel, rfl⟩
theorem rX11_again_43 : tq_D cX11_again 43 (.invokevirtual 375) 3 46 := ⟨by decide +kernel, rfl⟩
theorem rX11_again_46 : tq_D cX11_again 46 (.iconst 1) 1 47 := ⟨by decide +kernel, rfl⟩
theorem rX11_again_47 : decode cX11_again 47 = .ok (.ireturn, 1) := by decide +kernel
noncomputable def FX11_again_j31 (I : tq_PI) (L : tq_PL)  : Option (Bool × tq_PI × tq_PL) :=
  some (false, I, L)
noncomputable def FX11_again (I : tq_PI) (L : tq_PL) (a0 : Nat) (a1 : Int32) : Option (Bool × tq_PI × tq_PL) :=
  (if a1 < 0 then (FX11_again_j31 I L ) else (if (3 : Int32) ≤ a1 then (FX11_again_j31 I L ) else (if (3 : Int32) ≤ a1 then (FX11_again_j31 I L ) else (if 0 ≤ a1 ∧ a1 < 3 then (if (I (tq_rg a0 2) a1.toNatClampNeg) = 0 then (FX11_again_j31 I L ) else (if 0 ≤ a1 ∧ a1 < 3 then ((FX0_take I L ((tq_rg a0 0)) ((tq_rg (tq_rg a0 1) a1.toNatClampNeg))).bind fun p7 => some (true, p7.1, p7.2)) else none)) else none))))
set_option maxRecDepth 100000 in
set_option maxHeartbeats 4000000 in
theorem FX11_again_j31_x {S : Nat × (Nat → Int32)} {d : Nat} {I : tq_PI} {L : tq_PL}   {q0 : Option Value → tq_PI → tq_PL → Prop} {out : Bool × tq_PI × tq_PL} (hf : FX11_again_j31 I L = some out) (hk : q0 (some (.int (tq_b out.1))) out.2.1 out.2.2) : tq_X S mX11_again (d + 3) tq_k0 31 ([tq_u, tq_u]) ([]) (tq_st I L) (tq_Q q0) := by
  unfold FX11_again_j31 at hf
  refine tq_iconst (0 : Int32) rX11_again_31 (by decide) ?_
  refine ty_zret (ty := .boolean) rX11_again_32 rfl rfl rfl ?_
  have hf := Option.some.inj hf
  subst hf
  exact hk

set_option maxRecDepth 100000 in
set_option maxHeartbeats 4000000 in
theorem CX11_again {S : Nat × (Nat → Int32)} {d : Nat} {I : tq_PI} {L : tq_PL} {a0 : Nat} {a1 : Int32} (h0 : tq_sh0 a0 = 11) {out : Bool × tq_PI × tq_PL} (hf : FX11_again I L a0 a1 = some out) : tq_K S mX11_again (d + 3) [.ref a0, .int a1] I L (tq_one2 (some (.int (tq_b out.1))) out.2.1 out.2.2) := by
  unfold FX11_again at hf
  refine tq_K_of (by decide) (Nat.le_of_ble_eq_true rfl) (ls := [.ref a0, .int a1]) rfl ?_
  refine tq_iload_n rX11_again_0 rfl ?_
  refine tq_if_lt rX11_again_1 (fun c1 => ?_) (fun c1 => ?_)
  · rw [if_pos c1] at hf
    exact tq_forget _ (tq_le_u (tq_le_u tq_le_n)) (FX11_again_j31_x   hf ⟨rfl, rfl, rfl⟩)
  · rw [if_neg c1] at hf
    refine tq_iload_n rX11_again_4 rfl ?_
    refine tq_aload_n rX11_again_5 rfl ?_
    refine ty_getR rX11_again_6 f_X11_16 rfl h0 (hp_11_1 h0).1 ?_
    refine ty_alen (v := 3) rX11_again_9 (hp_11_1 h0).2.1 (by decide) (hp_11_1 h0).2.2 rfl ?_
    refine tq_icmp_ge rX11_again_10 (fun c2 => ?_) (fun c2 => ?_)
    · rw [if_pos c2] at hf
      exact tq_forget _ (tq_le_u (tq_le_u tq_le_n)) (FX11_again_j31_x   hf ⟨rfl, rfl, rfl⟩)
    · rw [if_neg c2] at hf
      refine tq_iload_n rX11_again_13 rfl ?_
      refine tq_aload_n rX11_again_14 rfl ?_
      refine ty_getR rX11_again_15 f_X11_20 rfl h0 (hp_11_2 h0).1 ?_
      refine ty_alen (v := 3) rX11_again_18 (hp_11_2 h0).2.1 (by decide) (hp_11_2 h0).2.2 rfl ?_
      refine tq_icmp_ge rX11_again_19 (fun c3 => ?_) (fun c3 => ?_)
      · rw [if_pos c3] at hf
        exact tq_forget _ (tq_le_u (tq_le_u tq_le_n)) (FX11_again_j31_x   hf ⟨rfl, rfl, rfl⟩)
      · rw [if_neg c3] at hf
        refine tq_aload_n rX11_again_22 rfl ?_
        refine ty_getR rX11_again_23 f_X11_20 rfl h0 (hp_11_2 h0).1 ?_
        refine tq_iload_n rX11_again_26 rfl ?_
        obtain ⟨g4, hf⟩ := tq_chk hf
        refine ty_zald (v := 3) rX11_again_27 (hp_11_2 h0).2.1 (hp_11_2 h0).2.2 rfl (by decide) g4 ?_
        refine tq_if_ne rX11_again_28 (fun c5 => ?_) (fun c5 => ?_)
        · rw [if_neg c5] at hf
          refine tq_aload_n rX11_again_33 rfl ?_
          refine ty_getR rX11_again_34 f_X11_10 rfl h0 (hp_11_0 h0).1 ?_
          refine tq_aload_n rX11_again_37 rfl ?_
          refine ty_getR rX11_again_38 f_X11_16 rfl h0 (hp_11_1 h0).1 ?_
          refine tq_iload_n rX11_again_41 rfl ?_
          obtain ⟨g6, hf⟩ := tq_chk hf
          have g6r := hq_110 (hp_11_1 h0).2.1 (tq_bl (n := 3) rfl (by decide) g6)
          refine ty_aald (v := 3) rX11_again_42 (hp_11_1 h0).2.1 (by decide) (hp_11_1 h0).2.2 rfl (by decide) g6 g6r.1 ?_
          obtain ⟨p7, e7, hf⟩ := Option.bind_eq_some_iff.mp hf
          refine ty_callVV ([.ref (tq_rg (tq_rg a0 1) a1.toNatClampNeg)]) ([]) rX11_again_43 l_X11_375 moX0_take mvX0_take (hp_11_0 h0).2.1 rfl rfl (Nat.le_of_ble_eq_true rfl) ⟨rfl, rfl⟩ (CX0_take (hp_11_0 h0).2.1 g6r.2 e7) ?_
          refine tq_iconst (1 : Int32) rX11_again_46 (by decide) ?_
          refine ty_zret (ty := .boolean) rX11_again_47 rfl rfl rfl ?_
          have hf := Option.some.inj hf
          subst hf
          exact ⟨rfl, rfl, rfl⟩
        · rw [if_pos c5] at hf
          exact tq_forget _ (tq_le_u (tq_le_u tq_le_n)) (FX11_again_j31_x   hf ⟨rfl, rfl, rfl⟩)

abbrev mX12_isIn : tq_M := (yX12_isIn, cX12_isIn, 3, (Option.some Jvm.ClassFile.FieldType.boolean), 0, 0)
theorem rX12_isIn_0 : tq_D cX12_isIn 0 (.iload_n 0) 1 1 := ⟨by decide +kernel, rfl⟩
theorem rX12_isIn_1 : tq_D cX12_isIn 1 (.iload_n 1) 1 2 := ⟨by decide +kernel, rfl⟩
theorem rX12_isIn_2 : tq_J cX12_isIn 2 (.if_icmp .lt) 14 5 := ⟨12, by decide +kernel, by decide, rfl⟩
theorem rX12_isIn_5 : tq_D cX12_isIn 5 (.iload_n 0) 1 6 := ⟨by decide +kernel, rfl⟩
theorem rX12_isIn_6 : tq_D cX12_isIn 6 (.iload_n 2) 1 7 := ⟨by decide +kernel, rfl⟩
theorem rX12_isIn_7 : tq_J cX12_isIn 7 (.if_icmp .gt) 14 10 := ⟨7, by decide +kernel, by decide, rfl⟩
theorem rX12_isIn_10 : tq_D cX12_isIn 10 (.iconst 1) 1 11 := ⟨by decide +kernel, rfl⟩
theorem rX12_isIn_11 : tq_J cX12_isIn 11 .goto 15 14 := ⟨4, by decide +kernel, by decide, rfl⟩
theorem rX12_isIn_14 : tq_D cX12_isIn 14 (.iconst 0) 1 15 := ⟨by decide +kernel, rfl⟩
theorem rX12_isIn_15 : decode cX12_isIn 15 = .ok (.ireturn, 1) := by decide +kernel
noncomputable def FX12_isIn_j14 (I : tq_PI) (L : tq_PL)  : Bool :=
  false
noncomputable def FX12_isIn (I : tq_PI) (L : tq_PL) (a0 : Int32) (a1 : Int32) (a2 : Int32) : Bool :=
  (if a0 < a1 then (FX12_isIn_j14 I L ) else (if a2 < a0 then (FX12_isIn_j14 I L ) else true))
set_option maxRecDepth 100000 in
set_option maxHeartbeats 4000000 in
theorem FX12_isIn_j14_x {S : Nat × (Nat → Int32)} {d : Nat} {I : tq_PI} {L : tq_PL}   {q0 : Option Value → tq_PI → tq_PL → Prop} {out : Bool} (hf : FX12_isIn_j14 I L = out) (hk : q0 (some (.int (tq_b out))) I L) : tq_X S mX12_isIn d tq_k0 14 ([tq_u, tq_u, tq_u]) ([]) (tq_st I L) (tq_Q q0) := by
  unfold FX12_isIn_j14 at hf
  refine tq_iconst (0 : Int32) rX12_isIn_14 (by decide) ?_
  refine ty_zret (ty := .boolean) rX12_isIn_15 rfl rfl rfl ?_
  subst hf
  exact hk

set_option maxRecDepth 100000 in
set_option maxHeartbeats 4000000 in
theorem CX12_isIn {S : Nat × (Nat → Int32)} {d : Nat} {I : tq_PI} {L : tq_PL} {a0 : Int32} {a1 : Int32} {a2 : Int32}  {out : Bool} (hf : FX12_isIn I L a0 a1 a2 = out) : tq_K S mX12_isIn d [.int a0, .int a1, .int a2] I L (tq_one2 (some (.int (tq_b out))) I L) := by
  unfold FX12_isIn at hf
  refine tq_K_of (by decide) (Nat.le_of_ble_eq_true rfl) (ls := [.int a0, .int a1, .int a2]) rfl ?_
  refine tq_iload_n rX12_isIn_0 rfl ?_
  refine tq_iload_n rX12_isIn_1 rfl ?_
  refine tq_icmp_lt rX12_isIn_2 (fun c1 => ?_) (fun c1 => ?_)
  · rw [if_pos c1] at hf
    exact tq_forget _ (tq_le_u (tq_le_u (tq_le_u tq_le_n))) (FX12_isIn_j14_x   hf ⟨rfl, rfl, rfl⟩)
  · rw [if_neg c1] at hf
    refine tq_iload_n rX12_isIn_5 rfl ?_
    refine tq_iload_n rX12_isIn_6 rfl ?_
    refine tq_icmp_gt rX12_isIn_7 (fun c2 => ?_) (fun c2 => ?_)
    · rw [if_pos c2] at hf
      exact tq_forget _ (tq_le_u (tq_le_u (tq_le_u tq_le_n))) (FX12_isIn_j14_x   hf ⟨rfl, rfl, rfl⟩)
    · rw [if_neg c2] at hf
      refine tq_iconst (1 : Int32) rX12_isIn_10 (by decide) ?_
      refine tq_goto rX12_isIn_11 ?_
      refine ty_zret (ty := .boolean) rX12_isIn_15 rfl rfl rfl ?_
      subst hf
      exact ⟨rfl, rfl, rfl⟩

abbrev mX12_feed : tq_M := (yX12_feed, cX12_feed, 8, (Option.some Jvm.ClassFile.FieldType.int), 0, 0)
theorem f_X12_7 : tq_fok RX12 7 12 0 := ⟨by decide, by decide, Or.inl (tq_sg6 _ (List.mem_of_getElem? (i := 73) rfl))⟩
theorem rX12_feed_0 : tq_D cX12_feed 0 (.aload_n 0) 1 1 := ⟨by decide +kernel, rfl⟩
theorem rX12_feed_1 : tq_D cX12_feed 1 (.getfield 7) 3 4 := ⟨by decide +kernel, rfl⟩
theorem rX12_feed_4 : tq_D cX12_feed 4 (.iconst 4) 1 5 := ⟨by decide +kernel, rfl⟩
theorem rX12_feed_5 : tq_D cX12_feed 5 (.iaload) 1 6 := ⟨by decide +kernel, rfl⟩
theorem rX12_feed_6 : tq_D cX12_feed 6 (.bipush 20) 2 8 := ⟨by decide +kernel, rfl⟩
theorem rX12_feed_8 : tq_D cX12_feed 8 (.iadd) 1 9 := ⟨by decide +kernel, rfl⟩
theorem rX12_feed_9 : tq_D cX12_feed 9 (.sipush 600) 3 12 := ⟨by decide +kernel, rfl⟩
theorem rX12_feed_12 : tq_J cX12_feed 12 (.if_icmp .le) 17 15 := ⟨5, by decide +kernel, by decide, rfl⟩
theorem rX12_feed_15 : tq_D cX12_feed 15 (.iconst (-1)) 1 16 := ⟨by decide +kernel, rfl⟩
theorem rX12_feed_16 : decode cX12_feed 16 = .ok (.ireturn, 1) := by decide +kernel
theorem rX12_feed_17 : tq_D cX12_feed 17 (.iconst 0) 1 18 := ⟨by decide +kernel, rfl⟩
theorem rX12_feed_18 : tq_D cX12_feed 18 (.istore 6) 2 20 := ⟨by decide +kernel, rfl⟩
theorem rX12_feed_20 : tq_D cX12_feed 20 (.iload 6) 2 22 := ⟨by decide +kernel, rfl⟩
theorem rX12_feed_22 : tq_D cX12_feed 22 (.bipush 20) 2 24 := ⟨by decide +kernel, rfl⟩
theorem rX12_feed_24 : tq_J cX12_feed 24 (.if_icmp .ge) 122 27 := ⟨98, by decide +kernel, by decide, rfl⟩
theorem rX12_feed_27 : tq_D cX12_feed 27 (.iload 6) 2 29 := ⟨by decide +kernel, rfl⟩
theorem rX12_feed_29 : tq_D cX12_feed 29 (.iconst 4) 1 30 := ⟨by decide +kernel, rfl⟩
theorem rX12_feed_30 : tq_J cX12_feed 30 (.if_icmp .ge) 37 33 := ⟨7, by decide +kernel, by decide, rfl⟩
theorem rX12_feed_33 : tq_D cX12_feed 33 (.iload_n 1) 1 34 := ⟨by decide +kernel, rfl⟩
theorem rX12_feed_34 : tq_J cX12_feed 34 .goto 73 37 := ⟨39, by decide +kernel, by decide, rfl⟩
theorem rX12_feed_37 : tq_D cX12_feed 37 (.iload 6) 2 39 := ⟨by decide +kernel, rfl⟩
theorem rX12_feed_39 : tq_D cX12_feed 39 (.bipush 8) 2 41 := ⟨by decide +kernel, rfl⟩
theorem rX12_feed_41 : tq_J cX12_feed 41 (.if_icmp .ge) 48 44 := ⟨7, by decide +kernel, by decide, rfl⟩
theorem rX12_feed_44 : tq_D cX12_feed 44 (.iload_n 2) 1 45 := ⟨by decide +kernel, rfl⟩
theorem rX12_feed_45 : tq_J cX12_feed 45 .goto 73 48 := ⟨28, by decide +kernel, by decide, rfl⟩
theorem rX12_feed_48 : tq_D cX12_feed 48 (.iload 6) 2 50 := ⟨by decide +kernel, rfl⟩
theorem rX12_feed_50 : tq_D cX12_feed 50 (.bipush 12) 2 52 := ⟨by decide +kernel, rfl⟩
theorem rX12_feed_52 : tq_J cX12_feed 52 (.if_icmp .ge) 59 55 := ⟨7, by decide +kernel, by decide, rfl⟩
theorem rX12_feed_55 : tq_D cX12_feed 55 (.iload_n 3) 1 56 := ⟨by decide +kernel, rfl⟩
theorem rX12_feed_56 : tq_J cX12_feed 56 .goto 73 59 := ⟨17, by decide +kernel, by decide, rfl⟩
theorem rX12_feed_59 : tq_D cX12_feed 59 (.iload 6) 2 61 := ⟨by decide +kernel, rfl⟩
theorem rX12_feed_61 : tq_D cX12_feed 61 (.bipush 16) 2 63 := ⟨by decide +kernel, rfl⟩
theorem rX12_feed_63 : tq_J cX12_feed 63 (.if_icmp .ge) 71 66 := ⟨8, by decide +kernel, by decide, rfl⟩
theorem rX12_feed_66 : tq_D cX12_feed 66 (.iload 4) 2 68 := ⟨by decide +kernel, rfl⟩
theorem rX12_feed_68 : tq_J cX12_feed 68 .goto 73 71 := ⟨5, by decide +kernel, by decide, rfl⟩
theorem rX12_feed_71 : tq_D cX12_feed 71 (.iload 5) 2 73 := ⟨by decide +kernel, rfl⟩
theorem rX12_feed_73 : tq_D cX12_feed 73 (.istore 7) 2 75 := ⟨by decide +kernel, rfl⟩
theorem rX12_feed_75 : tq_D cX12_feed 75 (.aload_n 0) 1 76 := ⟨by decide +kernel, rfl⟩
theorem rX12_feed_76 : tq_D cX12_feed 76 (.getfield 7) 3 79 := ⟨by decide +kernel, rfl⟩
theorem rX12_feed_79 : tq_D cX12_feed 79 (.bipush 10) 2 81 := ⟨by decide +kernel, rfl⟩
theorem rX12_feed_81 : tq_D cX12_feed 81 (.aload_n 0) 1 82 := ⟨by decide +kernel, rfl⟩
theorem rX12_feed_82 : tq_D cX12_feed 82 (.getfield 7) 3 85 := ⟨by decide +kernel, rfl⟩
theorem rX12_feed_85 : tq_D cX12_feed 85 (.iconst 4) 1 86 := ⟨by decide +kernel, rfl⟩
theorem rX12_feed_86 : tq_D cX12_feed 86 (.iaload) 1 87 := ⟨by decide +kernel, rfl⟩
theorem rX12_feed_87 : tq_D cX12_feed 87 (.iadd) 1 88 := ⟨by decide +kernel, rfl⟩
theorem rX12_feed_88 : tq_D cX12_feed 88 (.iload 7) 2 90 := ⟨by decide +kernel, rfl⟩
theorem rX12_feed_90 : tq_D cX12_feed 90 (.bipush 24) 2 92 := ⟨by decide +kernel, rfl⟩
theorem rX12_feed_92 : tq_D cX12_feed 92 (.bipush 8) 2 94 := ⟨by decide +kernel, rfl⟩
theorem rX12_feed_94 : tq_D cX12_feed 94 (.iload 6) 2 96 := ⟨by decide +kernel, rfl⟩
theorem rX12_feed_96 : tq_D cX12_feed 96 (.iconst 4) 1 97 := ⟨by decide +kernel, rfl⟩
theorem rX12_feed_97 : tq_D cX12_feed 97 (.irem) 1 98 := ⟨by decide +kernel, rfl⟩
theorem rX12_feed_98 : tq_D cX12_feed 98 (.imul) 1 99 := ⟨by decide +kernel, rfl⟩
theorem rX12_feed_99 : tq_D cX12_feed 99 (.isub) 1 100 := ⟨by decide +kernel, rfl⟩
theorem rX12_feed_100 : tq_D cX12_feed 100 (.ishr) 1 101 := ⟨by decide +kernel, rfl⟩
theorem rX12_feed_101 : tq_D cX12_feed 101 (.sipush 255) 3 104 := ⟨by decide +kernel, rfl⟩
theorem rX12_feed_104 : tq_D cX12_feed 104 (.iand) 1 105 := ⟨by decide +kernel, rfl⟩
theorem rX12_feed_105 : tq_D cX12_feed 105 (.iastore) 1 106 := ⟨by decide +kernel, rfl⟩
theorem rX12_feed_106 : tq_D cX12_feed 106 (.aload_n 0) 1 107 := ⟨by decide +kernel, rfl⟩
theorem rX12_feed_107 : tq_D cX12_feed 107 (.getfield 7) 3 110 := ⟨by decide +kernel, rfl⟩
theorem rX12_feed_110 : tq_D cX12_feed 110 (.iconst 4) 1 111 := ⟨by decide +kernel, rfl⟩
theorem rX12_feed_111 : tq_D cX12_feed 111 (.dup2) 1 112 := ⟨by decide +kernel, rfl⟩
theorem rX12_feed_112 : tq_D cX12_feed 112 (.iaload) 1 113 := ⟨by decide +kernel, rfl⟩
theorem rX12_feed_113 : tq_D cX12_feed 113 (.iconst 1) 1 114 := ⟨by decide +kernel, rfl⟩
theorem rX12_feed_114 : tq_D cX12_feed 114 (.iadd) 1 115 := ⟨by decide +kernel, rfl⟩
theorem rX12_feed_115 : tq_D cX12_feed 115 (.iastore) 1 116 := ⟨by decide +kernel, rfl⟩
theorem rX12_feed_116 : tq_D cX12_feed 116 (.iinc 6 1) 3 119 := ⟨by decide +kernel, rfl⟩
theorem rX12_feed_119 : tq_J cX12_feed 119 .goto 20 122 := ⟨(-99), by decide +kernel, by decide, rfl⟩
theorem rX12_feed_122 : tq_D cX12_feed 122 (.aload_n 0) 1 123 := ⟨by decide +kernel, rfl⟩
theorem rX12_feed_123 : tq_D cX12_feed 123 (.getfield 7) 3 126 := ⟨by decide +kernel, rfl⟩
theorem rX12_feed_126 : tq_D cX12_feed 126 (.iconst 4) 1 127 := ⟨by decide +kernel, rfl⟩
theorem rX12_feed_127 : tq_D cX12_feed 127 (.iaload) 1 128 := ⟨by decide +kernel, rfl⟩
theorem rX12_feed_128 : decode cX12_feed 128 = .ok (.ireturn, 1) := by decide +kernel
noncomputable def FX12_feed_j73L20 (I : tq_PI) (L : tq_PL) (a0 : Nat) (a1 : Int32) (a2 : Int32) (a3 : Int32) (a4 : Int32) (a5 : Int32) (a6 : Int32) (b0 : Int32) : Option ((Int32 × tq_PI) ⊕ (tq_PI)) :=
  (if 0 ≤ (4 : Int32) ∧ (4 : Int32) < 4016 then (if ¬ (4 : Int32) = 0 then (if 0 ≤ ((10 : Int32) + (I (tq_rg a0 0) ((4 : Int32)).toNatClampNeg)) ∧ ((10 : Int32) + (I (tq_rg a0 0) ((4 : Int32)).toNatClampNeg)) < 4016 then (if 0 ≤ (4 : Int32) ∧ (4 : Int32) < 4016 then (if 0 ≤ (4 : Int32) ∧ (4 : Int32) < 4016 then some (.inl ((a6 + 1), (tq_up2 (tq_up2 I (tq_rg a0 0) (((10 : Int32) + (I (tq_rg a0 0) ((4 : Int32)).toNatClampNeg))).toNatClampNeg ((b0 >>> (((24 : Int32) - ((8 : Int32) * (a6 - a6 / (4 : Int32) * (4 : Int32)))) &&& 31)) &&& (255 : Int32))) (tq_rg a0 0) ((4 : Int32)).toNatClampNeg ((((tq_up2 I (tq_rg a0 0) (((10 : Int32) + (I (tq_rg a0 0) ((4 : Int32)).toNatClampNeg))).toNatClampNeg ((b0 >>> (((24 : Int32) - ((8 : Int32) * (a6 - a6 / (4 : Int32) * (4 : Int32)))) &&& 31)) &&& (255 : Int32)))) (tq_rg a0 0) ((4 : Int32)).toNatClampNeg) + (1 : Int32))))) else none) else none) else none) else none) else none)
noncomputable def FX12_feed_s20 (I : tq_PI) (L : tq_PL) (a0 : Nat) (a1 : Int32) (a2 : Int32) (a3 : Int32) (a4 : Int32) (a5 : Int32) (a6 : Int32) : Option ((Int32 × tq_PI) ⊕ (tq_PI)) :=
  (if (20 : Int32) ≤ a6 then some (.inr I) else (if (4 : Int32) ≤ a6 then (if (8 : Int32) ≤ a6 then (if (12 : Int32) ≤ a6 then (if (16 : Int32) ≤ a6 then (FX12_feed_j73L20 I L a0 a1 a2 a3 a4 a5 a6 a5) else (FX12_feed_j73L20 I L a0 a1 a2 a3 a4 a5 a6 a4)) else (FX12_feed_j73L20 I L a0 a1 a2 a3 a4 a5 a6 a3)) else (FX12_feed_j73L20 I L a0 a1 a2 a3 a4 a5 a6 a2)) else (FX12_feed_j73L20 I L a0 a1 a2 a3 a4 a5 a6 a1)))
noncomputable def FX12_feed (I : tq_PI) (L : tq_PL) (a0 : Nat) (a1 : Int32) (a2 : Int32) (a3 : Int32) (a4 : Int32) (a5 : Int32) : Option (Int32 × tq_PI) :=
  (if 0 ≤ (4 : Int32) ∧ (4 : Int32) < 4016 then (if ((I (tq_rg a0 0) ((4 : Int32)).toNatClampNeg) + (20 : Int32)) ≤ (600 : Int32) then ((tq_it (fun p : Int32 × tq_PI => FX12_feed_s20 p.2 L a0 a1 a2 a3 a4 a5 p.1) tq_N ((0 : Int32), I)).bind fun p13 => (if 0 ≤ (4 : Int32) ∧ (4 : Int32) < 4016 then some ((p13 (tq_rg a0 0) ((4 : Int32)).toNatClampNeg), p13) else none)) else some ((-1 : Int32), I)) else none)
set_option maxRecDepth 100000 in
set_option maxHeartbeats 4000000 in
theorem FX12_feed_j73L20_x {S : Nat × (Nat → Int32)} {d : Nat} {I : tq_PI} {L : tq_PL} {a0 : Nat} {a1 : Int32} {a2 : Int32} {a3 : Int32} {a4 : Int32} {a5 : Int32} {a6 : Int32} {b0 : Int32} (h0 : tq_sh0 a0 = 12) {q0 : Option Value → tq_PI → tq_PL → Prop} {out : (Int32 × tq_PI) ⊕ (tq_PI)} (hf : FX12_feed_j73L20 I L a0 a1 a2 a3 a4 a5 a6 b0 = some out) (hk : Sum.elim (fun p : Int32 × tq_PI => tq_X S mX12_feed d tq_k0 20 ([.ref a0, .int a1, .int a2, .int a3, .int a4, .int a5, .int p.1, tq_u]) [] (tq_st p.2 L) (tq_Q q0)) (fun p : tq_PI => tq_X S mX12_feed d tq_k0 122 ([.ref a0, tq_u, tq_u, tq_u, tq_u, tq_u, tq_u, tq_u]) [] (tq_st p L) (tq_Q q0)) out) : tq_X S mX12_feed d tq_k0 73 ([.ref a0, .int a1, .int a2, .int a3, .int a4, .int a5, .int a6, tq_u]) ([.int b0]) (tq_st I L) (tq_Q q0) := by
  unfold FX12_feed_j73L20 at hf
  refine tq_istore ([.ref a0, .int a1, .int a2, .int a3, .int a4, .int a5, .int a6, .int b0]) rX12_feed_73 (Nat.le_of_ble_eq_true rfl) rfl ?_
  refine tq_aload_n rX12_feed_75 rfl ?_
  refine ty_getR rX12_feed_76 f_X12_7 rfl h0 (hp_12_0 h0).1 ?_
  refine tq_bipush (10 : Int32) rX12_feed_79 (by decide) ?_
  refine tq_aload_n rX12_feed_81 rfl ?_
  refine ty_getR rX12_feed_82 f_X12_7 rfl h0 (hp_12_0 h0).1 ?_
  refine tq_iconst (4 : Int32) rX12_feed_85 (by decide) ?_
  obtain ⟨g8, hf⟩ := tq_chk hf
  refine ty_iald (v := 4016) rX12_feed_86 (hp_12_0 h0).2.1 (hp_12_0 h0).2.2 rfl (by decide) g8 ?_
  refine tq_iadd rX12_feed_87 ?_
  refine tq_iload rX12_feed_88 rfl ?_
  refine tq_bipush (24 : Int32) rX12_feed_90 (by decide) ?_
  refine tq_bipush (8 : Int32) rX12_feed_92 (by decide) ?_
  refine tq_iload rX12_feed_94 rfl ?_
  refine tq_iconst (4 : Int32) rX12_feed_96 (by decide) ?_
  obtain ⟨g9, hf⟩ := tq_chk hf
  refine tq_irem rX12_feed_97 g9 ?_
  refine tq_imul rX12_feed_98 ?_
  refine tq_isub rX12_feed_99 ?_
  refine tq_ishr rX12_feed_100 ?_
  refine tq_sipush (255 : Int32) rX12_feed_101 (by decide) ?_
  refine tq_iand rX12_feed_104 ?_
  obtain ⟨g10, hf⟩ := tq_chk hf
  refine ty_iast (v := 4016) rX12_feed_105 (hp_12_0 h0).2.1 (hp_12_0 h0).2.2 rfl (by decide) g10 ?_
  refine tq_aload_n rX12_feed_106 rfl ?_
  refine ty_getR rX12_feed_107 f_X12_7 rfl h0 (hp_12_0 h0).1 ?_
  refine tq_iconst (4 : Int32) rX12_feed_110 (by decide) ?_
  refine tq_dup2 rX12_feed_111 rfl rfl ?_
  obtain ⟨g11, hf⟩ := tq_chk hf
  refine ty_iald (v := 4016) rX12_feed_112 (hp_12_0 h0).2.1 (hp_12_0 h0).2.2 rfl (by decide) g11 ?_
  refine tq_iconst (1 : Int32) rX12_feed_113 (by decide) ?_
  refine tq_iadd rX12_feed_114 ?_
  obtain ⟨g12, hf⟩ := tq_chk hf
  refine ty_iast (v := 4016) rX12_feed_115 (hp_12_0 h0).2.1 (hp_12_0 h0).2.2 rfl (by decide) g12 ?_
  refine tq_iinc (a6 + 1) ([.ref a0, .int a1, .int a2, .int a3, .int a4, .int a5, .int (a6 + 1), .int b0]) rX12_feed_116 rfl (tq_inc (by decide)) (Nat.le_of_ble_eq_true rfl) rfl ?_
  refine tq_goto rX12_feed_119 ?_
  have hf := Option.some.inj hf
  subst hf
  exact tq_forget _ (tq_le_s (tq_le_s (tq_le_s (tq_le_s (tq_le_s (tq_le_s (tq_le_s (tq_le_u tq_le_n)))))))) hk

set_option maxRecDepth 100000 in
set_option maxHeartbeats 4000000 in
theorem FX12_feed_s20_x {S : Nat × (Nat → Int32)} {d : Nat} {I : tq_PI} {L : tq_PL} {a0 : Nat} {a1 : Int32} {a2 : Int32} {a3 : Int32} {a4 : Int32} {a5 : Int32} {a6 : Int32} (h0 : tq_sh0 a0 = 12) {q0 : Option Value → tq_PI → tq_PL → Prop} {out : (Int32 × tq_PI) ⊕ (tq_PI)} (hf : FX12_feed_s20 I L a0 a1 a2 a3 a4 a5 a6 = some out) (hk : Sum.elim (fun p : Int32 × tq_PI => tq_X S mX12_feed d tq_k0 20 ([.ref a0, .int a1, .int a2, .int a3, .int a4, .int a5, .int p.1, tq_u]) [] (tq_st p.2 L) (tq_Q q0)) (fun p : tq_PI => tq_X S mX12_feed d tq_k0 122 ([.ref a0, tq_u, tq_u, tq_u, tq_u, tq_u, tq_u, tq_u]) [] (tq_st p L) (tq_Q q0)) out) : tq_X S mX12_feed d tq_k0 20 ([.ref a0, .int a1, .int a2, .int a3, .int a4, .int a5, .int a6, tq_u]) [] (tq_st I L) (tq_Q q0) := by
  unfold FX12_feed_s20 at hf
  refine tq_iload rX12_feed_20 rfl ?_
  refine tq_bipush (20 : Int32) rX12_feed_22 (by decide) ?_
  refine tq_icmp_ge rX12_feed_24 (fun c3 => ?_) (fun c3 => ?_)
  · rw [if_pos c3] at hf
    have hf := Option.some.inj hf
    subst hf
    exact tq_forget _ (tq_le_s (tq_le_u (tq_le_u (tq_le_u (tq_le_u (tq_le_u (tq_le_u (tq_le_u tq_le_n)))))))) hk
  · rw [if_neg c3] at hf
    refine tq_iload rX12_feed_27 rfl ?_
    refine tq_iconst (4 : Int32) rX12_feed_29 (by decide) ?_
    refine tq_icmp_ge rX12_feed_30 (fun c4 => ?_) (fun c4 => ?_)
    · rw [if_pos c4] at hf
      refine tq_iload rX12_feed_37 rfl ?_
      refine tq_bipush (8 : Int32) rX12_feed_39 (by decide) ?_
      refine tq_icmp_ge rX12_feed_41 (fun c5 => ?_) (fun c5 => ?_)
      · rw [if_pos c5] at hf
        refine tq_iload rX12_feed_48 rfl ?_
        refine tq_bipush (12 : Int32) rX12_feed_50 (by decide) ?_
        refine tq_icmp_ge rX12_feed_52 (fun c6 => ?_) (fun c6 => ?_)
        · rw [if_pos c6] at hf
          refine tq_iload rX12_feed_59 rfl ?_
          refine tq_bipush (16 : Int32) rX12_feed_61 (by decide) ?_
          refine tq_icmp_ge rX12_feed_63 (fun c7 => ?_) (fun c7 => ?_)
          · rw [if_pos c7] at hf
            refine tq_iload rX12_feed_71 rfl ?_
            exact tq_forget _ (tq_le_s (tq_le_s (tq_le_s (tq_le_s (tq_le_s (tq_le_s (tq_le_s (tq_le_u tq_le_n)))))))) (FX12_feed_j73L20_x  h0 hf hk)
          · rw [if_neg c7] at hf
            refine tq_iload rX12_feed_66 rfl ?_
            refine tq_goto rX12_feed_68 ?_
            exact tq_forget _ (tq_le_s (tq_le_s (tq_le_s (tq_le_s (tq_le_s (tq_le_s (tq_le_s (tq_le_u tq_le_n)))))))) (FX12_feed_j73L20_x  h0 hf hk)
        · rw [if_neg c6] at hf
          refine tq_iload_n rX12_feed_55 rfl ?_
          refine tq_goto rX12_feed_56 ?_
          exact tq_forget _ (tq_le_s (tq_le_s (tq_le_s (tq_le_s (tq_le_s (tq_le_s (tq_le_s (tq_le_u tq_le_n)))))))) (FX12_feed_j73L20_x  h0 hf hk)
      · rw [if_neg c5] at hf
        refine tq_iload_n rX12_feed_44 rfl ?_
        refine tq_goto rX12_feed_45 ?_
        exact tq_forget _ (tq_le_s (tq_le_s (tq_le_s (tq_le_s (tq_le_s (tq_le_s (tq_le_s (tq_le_u tq_le_n)))))))) (FX12_feed_j73L20_x  h0 hf hk)
    · rw [if_neg c4] at hf
      refine tq_iload_n rX12_feed_33 rfl ?_
      refine tq_goto rX12_feed_34 ?_
      exact tq_forget _ (tq_le_s (tq_le_s (tq_le_s (tq_le_s (tq_le_s (tq_le_s (tq_le_s (tq_le_u tq_le_n)))))))) (FX12_feed_j73L20_x  h0 hf hk)

set_option maxRecDepth 100000 in
set_option maxHeartbeats 4000000 in
theorem CX12_feed {S : Nat × (Nat → Int32)} {d : Nat} {I : tq_PI} {L : tq_PL} {a0 : Nat} {a1 : Int32} {a2 : Int32} {a3 : Int32} {a4 : Int32} {a5 : Int32} (h0 : tq_sh0 a0 = 12) {out : Int32 × tq_PI} (hf : FX12_feed I L a0 a1 a2 a3 a4 a5 = some out) : tq_K S mX12_feed d [.ref a0, .int a1, .int a2, .int a3, .int a4, .int a5] I L (tq_one2 (some (.int out.1)) out.2 L) := by
  unfold FX12_feed at hf
  refine tq_K_of (by decide) (Nat.le_of_ble_eq_true rfl) (ls := [.ref a0, .int a1, .int a2, .int a3, .int a4, .int a5, tq_u, tq_u]) rfl ?_
  refine tq_aload_n rX12_feed_0 rfl ?_
  refine ty_getR rX12_feed_1 f_X12_7 rfl h0 (hp_12_0 h0).1 ?_
  refine tq_iconst (4 : Int32) rX12_feed_4 (by decide) ?_
  obtain ⟨g1, hf⟩ := tq_chk hf
  refine ty_iald (v := 4016) rX12_feed_5 (hp_12_0 h0).2.1 (hp_12_0 h0).2.2 rfl (by decide) g1 ?_
  refine tq_bipush (20 : Int32) rX12_feed_6 (by decide) ?_
  refine tq_iadd rX12_feed_8 ?_
  refine tq_sipush (600 : Int32) rX12_feed_9 (by decide) ?_
  refine tq_icmp_le rX12_feed_12 (fun c2 => ?_) (fun c2 => ?_)
  · rw [if_pos c2] at hf
    refine tq_iconst (0 : Int32) rX12_feed_17 (by decide) ?_
    refine tq_istore ([.ref a0, .int a1, .int a2, .int a3, .int a4, .int a5, .int (0 : Int32), tq_u]) rX12_feed_18 (Nat.le_of_ble_eq_true rfl) rfl ?_
    obtain ⟨p13, e13, hf⟩ := Option.bind_eq_some_iff.mp hf
    refine tq_forget _ (tq_le_s (tq_le_s (tq_le_s (tq_le_s (tq_le_s (tq_le_s (tq_le_s (tq_le_u tq_le_n)))))))) ?_
    refine tq_it_elim (P := fun p : Int32 × tq_PI => tq_X S mX12_feed d tq_k0 20 ([.ref a0, .int a1, .int a2, .int a3, .int a4, .int a5, .int p.1, tq_u]) [] (tq_st p.2 L) (tq_Q (tq_one2 (some (.int out.1)) out.2 L))) (R := fun p : tq_PI => tq_X S mX12_feed d tq_k0 122 ([.ref a0, tq_u, tq_u, tq_u, tq_u, tq_u, tq_u, tq_u]) [] (tq_st p L) (tq_Q (tq_one2 (some (.int out.1)) out.2 L))) (fun p o hp hk => FX12_feed_s20_x  h0 hp hk) _ (((0 : Int32), I)) _ e13 ?_
    show tq_X _ _ _ _ _ _ _ _ _
    refine tq_aload_n rX12_feed_122 rfl ?_
    refine ty_getR rX12_feed_123 f_X12_7 rfl h0 (hp_12_0 h0).1 ?_
    refine tq_iconst (4 : Int32) rX12_feed_126 (by decide) ?_
    obtain ⟨g14, hf⟩ := tq_chk hf
    refine ty_iald (v := 4016) rX12_feed_127 (hp_12_0 h0).2.1 (hp_12_0 h0).2.2 rfl (by decide) g14 ?_
    refine ty_iret rX12_feed_128 rfl rfl ?_
    have hf := Option.some.inj hf
    subst hf
    exact ⟨rfl, rfl, rfl⟩
  · rw [if_neg c2] at hf
    refine tq_iconst (-1 : Int32) rX12_feed_15 (by decide) ?_
    refine ty_iret rX12_feed_16 rfl rfl ?_
    have hf := Option.some.inj hf
    subst hf
    exact ⟨rfl, rfl, rfl⟩

abbrev mX12_end : tq_M := (yX12_end, cX12_end, 2, (Option.some Jvm.ClassFile.FieldType.int), 0, 0)
theorem rX12_end_0 : tq_D cX12_end 0 (.iload_n 1) 1 1 := ⟨by decide +kernel, rfl⟩
theorem rX12_end_1 : tq_J cX12_end 1 (.ifCond .lt) 14 4 := ⟨13, by decide +kernel, by decide, rfl⟩
theorem rX12_end_4 : tq_D cX12_end 4 (.iload_n 1) 1 5 := ⟨by decide +kernel, rfl⟩
theorem rX12_end_5 : tq_D cX12_end 5 (.aload_n 0) 1 6 := ⟨by decide +kernel, rfl⟩
theorem rX12_end_6 : tq_D cX12_end 6 (.getfield 7) 3 9 := ⟨by decide +kernel, rfl⟩
theorem rX12_end_9 : tq_D cX12_end 9 (.iconst 4) 1 10 := ⟨by decide +kernel, rfl⟩
theorem rX12_end_10 : tq_D cX12_end 10 (.iaload) 1 11 := ⟨by decide +kernel, rfl⟩
theorem rX12_end_11 : tq_J cX12_end 11 (.if_icmp .le) 16 14 := ⟨5, by decide +kernel, by decide, rfl⟩
theorem rX12_end_14 : tq_D cX12_end 14 (.iconst (-1)) 1 15 := ⟨by decide +kernel, rfl⟩
theorem rX12_end_15 : decode cX12_end 15 = .ok (.ireturn, 1) := by decide +kernel
theorem rX12_end_16 : tq_D cX12_end 16 (.aload_n 0) 1 17 := ⟨by decide +kernel, rfl⟩
theorem rX12_end_17 : tq_D cX12_end 17 (.getfield 7) 3 20 := ⟨by decide +kernel, rfl⟩
theorem rX12_end_20 : tq_D cX12_end 20 (.iconst 4) 1 21 := ⟨by decide +kernel, rfl⟩
theorem rX12_end_21 : tq_D cX12_end 21 (.iload_n 1) 1 22 := ⟨by decide +kernel, rfl⟩
theorem rX12_end_22 : tq_D cX12_end 22 (.iastore) 1 23 := ⟨by decide +kernel, rfl⟩
theorem rX12_end_23 : tq_D cX12_end 23 (.iload_n 1) 1 24 := ⟨by decide +kernel, rfl⟩
theorem rX12_end_24 : decode cX12_end 24 = .ok (.ireturn, 1) := by decide +kernel
noncomputable def FX12_end_j14 (I : tq_PI) (L : tq_PL)  : Option (Int32 × tq_PI) :=
  some ((-1 : Int32), I)
noncomputable def FX12_end (I : tq_PI) (L : tq_PL) (a0 : Nat) (a1 : Int32) : Option (Int32 × tq_PI) :=
  (if a1 < 0 then (FX12_end_j14 I L ) else (if 0 ≤ (4 : Int32) ∧ (4 : Int32) < 4016 then (if a1 ≤ (I (tq_rg a0 0) ((4 : Int32)).toNatClampNeg) then (if 0 ≤ (4 : Int32) ∧ (4 : Int32) < 4016 then some (a1, (tq_up2 I (tq_rg a0 0) ((4 : Int32)).toNatClampNeg a1)) else none) else (FX12_end_j14 I L )) else none))
set_option maxRecDepth 100000 in
set_option maxHeartbeats 4000000 in
theorem FX12_end_j14_x {S : Nat × (Nat → Int32)} {d : Nat} {I : tq_PI} {L : tq_PL}   {q0 : Option Value → tq_PI → tq_PL → Prop} {out : Int32 × tq_PI} (hf : FX12_end_j14 I L = some out) (hk : q0 (some (.int out.1)) out.2 L) : tq_X S mX12_end d tq_k0 14 ([tq_u, tq_u]) ([]) (tq_st I L) (tq_Q q0) := by
  unfold FX12_end_j14 at hf
  refine tq_iconst (-1 : Int32) rX12_end_14 (by decide) ?_
  refine ty_iret rX12_end_15 rfl rfl ?_
  have hf := Option.some.inj hf
  subst hf
  exact hk

set_option maxRecDepth 100000 in
set_option maxHeartbeats 4000000 in
theorem CX12_end {S : Nat × (Nat → Int32)} {d : Nat} {I : tq_PI} {L : tq_PL} {a0 : Nat} {a1 : Int32} (h0 : tq_sh0 a0 = 12) {out : Int32 × tq_PI} (hf : FX12_end I L a0 a1 = some out) : tq_K S mX12_end d [.ref a0, .int a1] I L (tq_one2 (some (.int out.1)) out.2 L) := by
  unfold FX12_end at hf
  refine tq_K_of (by decide) (Nat.le_of_ble_eq_true rfl) (ls := [.ref a0, .int a1]) rfl ?_
  refine tq_iload_n rX12_end_0 rfl ?_
  refine tq_if_lt rX12_end_1 (fun c1 => ?_) (fun c1 => ?_)
  · rw [if_pos c1] at hf
    exact tq_forget _ (tq_le_u (tq_le_u tq_le_n)) (FX12_end_j14_x   hf ⟨rfl, rfl, rfl⟩)
  · rw [if_neg c1] at hf
    refine tq_iload_n rX12_end_4 rfl ?_
    refine tq_aload_n rX12_end_5 rfl ?_
    refine ty_getR rX12_end_6 f_X12_7 rfl h0 (hp_12_0 h0).1 ?_
    refine tq_iconst (4 : Int32) rX12_end_9 (by decide) ?_
    obtain ⟨g2, hf⟩ := tq_chk hf
    refine ty_iald (v := 4016) rX12_end_10 (hp_12_0 h0).2.1 (hp_12_0 h0).2.2 rfl (by decide) g2 ?_
    refine tq_icmp_le rX12_end_11 (fun c3 => ?_) (fun c3 => ?_)
    · rw [if_pos c3] at hf
      refine tq_aload_n rX12_end_16 rfl ?_
      refine ty_getR rX12_end_17 f_X12_7 rfl h0 (hp_12_0 h0).1 ?_
      refine tq_iconst (4 : Int32) rX12_end_20 (by decide) ?_
      refine tq_iload_n rX12_end_21 rfl ?_
      obtain ⟨g4, hf⟩ := tq_chk hf
      refine ty_iast (v := 4016) rX12_end_22 (hp_12_0 h0).2.1 (hp_12_0 h0).2.2 rfl (by decide) g4 ?_
      refine tq_iload_n rX12_end_23 rfl ?_
      refine ty_iret rX12_end_24 rfl rfl ?_
      have hf := Option.some.inj hf
      subst hf
      exact ⟨rfl, rfl, rfl⟩
    · rw [if_neg c3] at hf
      exact tq_forget _ (tq_le_u (tq_le_u tq_le_n)) (FX12_end_j14_x   hf ⟨rfl, rfl, rfl⟩)

abbrev mX12_byteAt : tq_M := (yX12_byteAt, cX12_byteAt, 2, (Option.some Jvm.ClassFile.FieldType.int), 0, 0)
theorem f_X12_63 : tq_fok RX12 63 12 2 := ⟨by decide, by decide, Or.inl (tq_sg6 _ (List.mem_of_getElem? (i := 75) rfl))⟩
theorem rX12_byteAt_0 : tq_D cX12_byteAt 0 (.iload_n 1) 1 1 := ⟨by decide +kernel, rfl⟩
theorem rX12_byteAt_1 : tq_D cX12_byteAt 1 (.aload_n 0) 1 2 := ⟨by decide +kernel, rfl⟩
theorem rX12_byteAt_2 : tq_D cX12_byteAt 2 (.getfield 63) 3 5 := ⟨by decide +kernel, rfl⟩
theorem rX12_byteAt_5 : tq_J cX12_byteAt 5 (.if_icmp .ge) 20 8 := ⟨15, by decide +kernel, by decide, rfl⟩
theorem rX12_byteAt_8 : tq_D cX12_byteAt 8 (.aload_n 0) 1 9 := ⟨by decide +kernel, rfl⟩
theorem rX12_byteAt_9 : tq_D cX12_byteAt 9 (.getfield 7) 3 12 := ⟨by decide +kernel, rfl⟩
theorem rX12_byteAt_12 : tq_D cX12_byteAt 12 (.bipush 10) 2 14 := ⟨by decide +kernel, rfl⟩
theorem rX12_byteAt_14 : tq_D cX12_byteAt 14 (.iload_n 1) 1 15 := ⟨by decide +kernel, rfl⟩
theorem rX12_byteAt_15 : tq_D cX12_byteAt 15 (.iadd) 1 16 := ⟨by decide +kernel, rfl⟩
theorem rX12_byteAt_16 : tq_D cX12_byteAt 16 (.iaload) 1 17 := ⟨by decide +kernel, rfl⟩
theorem rX12_byteAt_17 : tq_J cX12_byteAt 17 .goto 21 20 := ⟨4, by decide +kernel, by decide, rfl⟩
theorem rX12_byteAt_20 : tq_D cX12_byteAt 20 (.iconst (-1)) 1 21 := ⟨by decide +kernel, rfl⟩
theorem rX12_byteAt_21 : decode cX12_byteAt 21 = .ok (.ireturn, 1) := by decide +kernel
noncomputable def FX12_byteAt (I : tq_PI) (L : tq_PL) (a0 : Nat) (a1 : Int32) : Option (Int32) :=
  (if (I a0 2) ≤ a1 then some (-1 : Int32) else (if 0 ≤ ((10 : Int32) + a1) ∧ ((10 : Int32) + a1) < 4016 then some (I (tq_rg a0 0) (((10 : Int32) + a1)).toNatClampNeg) else none))
set_option maxRecDepth 100000 in
set_option maxHeartbeats 4000000 in
theorem CX12_byteAt {S : Nat × (Nat → Int32)} {d : Nat} {I : tq_PI} {L : tq_PL} {a0 : Nat} {a1 : Int32} (h0 : tq_sh0 a0 = 12) {out : Int32} (hf : FX12_byteAt I L a0 a1 = some out) : tq_K S mX12_byteAt d [.ref a0, .int a1] I L (tq_one2 (some (.int out)) I L) := by
  unfold FX12_byteAt at hf
  refine tq_K_of (by decide) (Nat.le_of_ble_eq_true rfl) (ls := [.ref a0, .int a1]) rfl ?_
  refine tq_iload_n rX12_byteAt_0 rfl ?_
  refine tq_aload_n rX12_byteAt_1 rfl ?_
  refine ty_getI rX12_byteAt_2 f_X12_63 rfl h0 ?_
  refine tq_icmp_ge rX12_byteAt_5 (fun c1 => ?_) (fun c1 => ?_)
  · rw [if_pos c1] at hf
    refine tq_iconst (-1 : Int32) rX12_byteAt_20 (by decide) ?_
    refine ty_iret rX12_byteAt_21 rfl rfl ?_
    have hf := Option.some.inj hf
    subst hf
    exact ⟨rfl, rfl, rfl⟩
  · rw [if_neg c1] at hf
    refine tq_aload_n rX12_byteAt_8 rfl ?_
    refine ty_getR rX12_byteAt_9 f_X12_7 rfl h0 (hp_12_0 h0).1 ?_
    refine tq_bipush (10 : Int32) rX12_byteAt_12 (by decide) ?_
    refine tq_iload_n rX12_byteAt_14 rfl ?_
    refine tq_iadd rX12_byteAt_15 ?_
    obtain ⟨g2, hf⟩ := tq_chk hf
    refine ty_iald (v := 4016) rX12_byteAt_16 (hp_12_0 h0).2.1 (hp_12_0 h0).2.2 rfl (by decide) g2 ?_
    refine tq_goto rX12_byteAt_17 ?_
    refine ty_iret rX12_byteAt_21 rfl rfl ?_
    have hf := Option.some.inj hf
    subst hf
    exact ⟨rfl, rfl, rfl⟩

abbrev mX12_isLetter : tq_M := (yX12_isLetter, cX12_isLetter, 1, (Option.some Jvm.ClassFile.FieldType.boolean), 0, 0)
theorem rX12_isLetter_0 : tq_D cX12_isLetter 0 (.iload_n 0) 1 1 := ⟨by decide +kernel, rfl⟩
theorem rX12_isLetter_1 : tq_D cX12_isLetter 1 (.bipush 97) 2 3 := ⟨by decide +kernel, rfl⟩
theorem rX12_isLetter_3 : tq_J cX12_isLetter 3 (.if_icmp .lt) 16 6 := ⟨13, by decide +kernel, by decide, rfl⟩
theorem rX12_isLetter_6 : tq_D cX12_isLetter 6 (.iload_n 0) 1 7 := ⟨by decide +kernel, rfl⟩
theorem rX12_isLetter_7 : tq_D cX12_isLetter 7 (.bipush 122) 2 9 := ⟨by decide +kernel, rfl⟩
theorem rX12_isLetter_9 : tq_J cX12_isLetter 9 (.if_icmp .gt) 16 12 := ⟨7, by decide +kernel, by decide, rfl⟩
theorem rX12_isLetter_12 : tq_D cX12_isLetter 12 (.iconst 1) 1 13 := ⟨by decide +kernel, rfl⟩
theorem rX12_isLetter_13 : tq_J cX12_isLetter 13 .goto 17 16 := ⟨4, by decide +kernel, by decide, rfl⟩
theorem rX12_isLetter_16 : tq_D cX12_isLetter 16 (.iconst 0) 1 17 := ⟨by decide +kernel, rfl⟩
theorem rX12_isLetter_17 : decode cX12_isLetter 17 = .ok (.ireturn, 1) := by decide +kernel
noncomputable def FX12_isLetter_j16 (I : tq_PI) (L : tq_PL)  : Bool :=
  false
noncomputable def FX12_isLetter (I : tq_PI) (L : tq_PL) (a0 : Int32) : Bool :=
  (if a0 < (97 : Int32) then (FX12_isLetter_j16 I L ) else (if (122 : Int32) < a0 then (FX12_isLetter_j16 I L ) else true))
set_option maxRecDepth 100000 in
set_option maxHeartbeats 4000000 in
theorem FX12_isLetter_j16_x {S : Nat × (Nat → Int32)} {d : Nat} {I : tq_PI} {L : tq_PL}   {q0 : Option Value → tq_PI → tq_PL → Prop} {out : Bool} (hf : FX12_isLetter_j16 I L = out) (hk : q0 (some (.int (tq_b out))) I L) : tq_X S mX12_isLetter d tq_k0 16 ([tq_u]) ([]) (tq_st I L) (tq_Q q0) := by
  unfold FX12_isLetter_j16 at hf
  refine tq_iconst (0 : Int32) rX12_isLetter_16 (by decide) ?_
  refine ty_zret (ty := .boolean) rX12_isLetter_17 rfl rfl rfl ?_
  subst hf
  exact hk

set_option maxRecDepth 100000 in
set_option maxHeartbeats 4000000 in
theorem CX12_isLetter {S : Nat × (Nat → Int32)} {d : Nat} {I : tq_PI} {L : tq_PL} {a0 : Int32}  {out : Bool} (hf : FX12_isLetter I L a0 = out) : tq_K S mX12_isLetter d [.int a0] I L (tq_one2 (some (.int (tq_b out))) I L) := by
  unfold FX12_isLetter at hf
  refine tq_K_of (by decide) (Nat.le_of_ble_eq_true rfl) (ls := [.int a0]) rfl ?_
  refine tq_iload_n rX12_isLetter_0 rfl ?_
  refine tq_bipush (97 : Int32) rX12_isLetter_1 (by decide) ?_
  refine tq_icmp_lt rX12_isLetter_3 (fun c1 => ?_) (fun c1 => ?_)
  · rw [if_pos c1] at hf
    exact tq_forget _ (tq_le_u tq_le_n) (FX12_isLetter_j16_x   hf ⟨rfl, rfl, rfl⟩)
  · rw [if_neg c1] at hf
    refine tq_iload_n rX12_isLetter_6 rfl ?_
    refine tq_bipush (122 : Int32) rX12_isLetter_7 (by decide) ?_
    refine tq_icmp_gt rX12_isLetter_9 (fun c2 => ?_) (fun c2 => ?_)
    · rw [if_pos c2] at hf
      exact tq_forget _ (tq_le_u tq_le_n) (FX12_isLetter_j16_x   hf ⟨rfl, rfl, rfl⟩)
    · rw [if_neg c2] at hf
      refine tq_iconst (1 : Int32) rX12_isLetter_12 (by decide) ?_
      refine tq_goto rX12_isLetter_13 ?_
      refine ty_zret (ty := .boolean) rX12_isLetter_17 rfl rfl rfl ?_
      subst hf
      exact ⟨rfl, rfl, rfl⟩

abbrev mX12_isDigit : tq_M := (yX12_isDigit, cX12_isDigit, 1, (Option.some Jvm.ClassFile.FieldType.boolean), 0, 0)
theorem rX12_isDigit_0 : tq_D cX12_isDigit 0 (.iload_n 0) 1 1 := ⟨by decide +kernel, rfl⟩
theorem rX12_isDigit_1 : tq_D cX12_isDigit 1 (.bipush 48) 2 3 := ⟨by decide +kernel, rfl⟩
theorem rX12_isDigit_3 : tq_J cX12_isDigit 3 (.if_icmp .lt) 16 6 := ⟨13, by decide +kernel, by decide, rfl⟩
theorem rX12_isDigit_6 : tq_D cX12_isDigit 6 (.iload_n 0) 1 7 := ⟨by decide +kernel, rfl⟩
theorem rX12_isDigit_7 : tq_D cX12_isDigit 7 (.bipush 57) 2 9 := ⟨by decide +kernel, rfl⟩
theorem rX12_isDigit_9 : tq_J cX12_isDigit 9 (.if_icmp .gt) 16 12 := ⟨7, by decide +kernel, by decide, rfl⟩
theorem rX12_isDigit_12 : tq_D cX12_isDigit 12 (.iconst 1) 1 13 := ⟨by decide +kernel, rfl⟩
theorem rX12_isDigit_13 : tq_J cX12_isDigit 13 .goto 17 16 := ⟨4, by decide +kernel, by decide, rfl⟩
theorem rX12_isDigit_16 : tq_D cX12_isDigit 16 (.iconst 0) 1 17 := ⟨by decide +kernel, rfl⟩
theorem rX12_isDigit_17 : decode cX12_isDigit 17 = .ok (.ireturn, 1) := by decide +kernel
noncomputable def FX12_isDigit_j16 (I : tq_PI) (L : tq_PL)  : Bool :=
  false
noncomputable def FX12_isDigit (I : tq_PI) (L : tq_PL) (a0 : Int32) : Bool :=
  (if a0 < (48 : Int32) then (FX12_isDigit_j16 I L ) else (if (57 : Int32) < a0 then (FX12_isDigit_j16 I L ) else true))
set_option maxRecDepth 100000 in
set_option maxHeartbeats 4000000 in
theorem FX12_isDigit_j16_x {S : Nat × (Nat → Int32)} {d : Nat} {I : tq_PI} {L : tq_PL}   {q0 : Option Value → tq_PI → tq_PL → Prop} {out : Bool} (hf : FX12_isDigit_j16 I L = out) (hk : q0 (some (.int (tq_b out))) I L) : tq_X S mX12_isDigit d tq_k0 16 ([tq_u]) ([]) (tq_st I L) (tq_Q q0) := by
  unfold FX12_isDigit_j16 at hf
  refine tq_iconst (0 : Int32) rX12_isDigit_16 (by decide) ?_
  refine ty_zret (ty := .boolean) rX12_isDigit_17 rfl rfl rfl ?_
  subst hf
  exact hk

set_option maxRecDepth 100000 in
set_option maxHeartbeats 4000000 in
theorem CX12_isDigit {S : Nat × (Nat → Int32)} {d : Nat} {I : tq_PI} {L : tq_PL} {a0 : Int32}  {out : Bool} (hf : FX12_isDigit I L a0 = out) : tq_K S mX12_isDigit d [.int a0] I L (tq_one2 (some (.int (tq_b out))) I L) := by
  unfold FX12_isDigit at hf
  refine tq_K_of (by decide) (Nat.le_of_ble_eq_true rfl) (ls := [.int a0]) rfl ?_
  refine tq_iload_n rX12_isDigit_0 rfl ?_
  refine tq_bipush (48 : Int32) rX12_isDigit_1 (by decide) ?_
  refine tq_icmp_lt rX12_isDigit_3 (fun c1 => ?_) (fun c1 => ?_)
  · rw [if_pos c1] at hf
    exact tq_forget _ (tq_le_u tq_le_n) (FX12_isDigit_j16_x   hf ⟨rfl, rfl, rfl⟩)
  · rw [if_neg c1] at hf
    refine tq_iload_n rX12_isDigit_6 rfl ?_
    refine tq_bipush (57 : Int32) rX12_isDigit_7 (by decide) ?_
    refine tq_icmp_gt rX12_isDigit_9 (fun c2 => ?_) (fun c2 => ?_)
    · rw [if_pos c2] at hf
      exact tq_forget _ (tq_le_u tq_le_n) (FX12_isDigit_j16_x   hf ⟨rfl, rfl, rfl⟩)
    · rw [if_neg c2] at hf
      refine tq_iconst (1 : Int32) rX12_isDigit_12 (by decide) ?_
      refine tq_goto rX12_isDigit_13 ?_
      refine ty_zret (ty := .boolean) rX12_isDigit_17 rfl rfl rfl ?_
      subst hf
      exact ⟨rfl, rfl, rfl⟩

abbrev mX12_four : tq_M := (yX12_four, cX12_four, 4, (Option.some Jvm.ClassFile.FieldType.long), 0, 0)
theorem rX12_four_0 : tq_D cX12_four 0 (.iload_n 0) 1 1 := ⟨by decide +kernel, rfl⟩
theorem rX12_four_1 : tq_D cX12_four 1 (.bipush 32) 2 3 := ⟨by decide +kernel, rfl⟩
theorem rX12_four_3 : tq_D cX12_four 3 (.imul) 1 4 := ⟨by decide +kernel, rfl⟩
theorem rX12_four_4 : tq_D cX12_four 4 (.iload_n 1) 1 5 := ⟨by decide +kernel, rfl⟩
theorem rX12_four_5 : tq_D cX12_four 5 (.iadd) 1 6 := ⟨by decide +kernel, rfl⟩
theorem rX12_four_6 : tq_D cX12_four 6 (.bipush 32) 2 8 := ⟨by decide +kernel, rfl⟩
theorem rX12_four_8 : tq_D cX12_four 8 (.imul) 1 9 := ⟨by decide +kernel, rfl⟩
theorem rX12_four_9 : tq_D cX12_four 9 (.iload_n 2) 1 10 := ⟨by decide +kernel, rfl⟩
theorem rX12_four_10 : tq_D cX12_four 10 (.iadd) 1 11 := ⟨by decide +kernel, rfl⟩
theorem rX12_four_11 : tq_D cX12_four 11 (.bipush 32) 2 13 := ⟨by decide +kernel, rfl⟩
theorem rX12_four_13 : tq_D cX12_four 13 (.imul) 1 14 := ⟨by decide +kernel, rfl⟩
theorem rX12_four_14 : tq_D cX12_four 14 (.iload_n 3) 1 15 := ⟨by decide +kernel, rfl⟩
theorem rX12_four_15 : tq_D cX12_four 15 (.iadd) 1 16 := ⟨by decide +kernel, rfl⟩
theorem rX12_four_16 : tq_D cX12_four 16 (.i2l) 1 17 := ⟨by decide +kernel, rfl⟩
theorem rX12_four_17 : decode cX12_four 17 = .ok (.lreturn, 1) := by decide +kernel
noncomputable def FX12_four (I : tq_PI) (L : tq_PL) (a0 : Int32) (a1 : Int32) (a2 : Int32) (a3 : Int32) : Int64 :=
  (Int32.toInt64 ((((((a0 * (32 : Int32)) + a1) * (32 : Int32)) + a2) * (32 : Int32)) + a3))
set_option maxRecDepth 100000 in
set_option maxHeartbeats 4000000 in
theorem CX12_four {S : Nat × (Nat → Int32)} {d : Nat} {I : tq_PI} {L : tq_PL} {a0 : Int32} {a1 : Int32} {a2 : Int32} {a3 : Int32}  {out : Int64} (hf : FX12_four I L a0 a1 a2 a3 = out) : tq_K S mX12_four d [.int a0, .int a1, .int a2, .int a3] I L (tq_one2 (some (.long out)) I L) := by
  unfold FX12_four at hf
  refine tq_K_of (by decide) (Nat.le_of_ble_eq_true rfl) (ls := [.int a0, .int a1, .int a2, .int a3]) rfl ?_
  refine tq_iload_n rX12_four_0 rfl ?_
  refine tq_bipush (32 : Int32) rX12_four_1 (by decide) ?_
  refine tq_imul rX12_four_3 ?_
  refine tq_iload_n rX12_four_4 rfl ?_
  refine tq_iadd rX12_four_5 ?_
  refine tq_bipush (32 : Int32) rX12_four_6 (by decide) ?_
  refine tq_imul rX12_four_8 ?_
  refine tq_iload_n rX12_four_9 rfl ?_
  refine tq_iadd rX12_four_10 ?_
  refine tq_bipush (32 : Int32) rX12_four_11 (by decide) ?_
  refine tq_imul rX12_four_13 ?_
  refine tq_iload_n rX12_four_14 rfl ?_
  refine tq_iadd rX12_four_15 ?_
  refine tq_i2l rX12_four_16 ?_
  refine ty_lret rX12_four_17 rfl rfl ?_
  subst hf
  exact ⟨rfl, rfl, rfl⟩

abbrev mX12_eight : tq_M := (yX12_eight, cX12_eight, 8, (Option.some Jvm.ClassFile.FieldType.long), 0, 0)
theorem moX12_four : tq_mok mX12_four 4 := ⟨tq_sg1 _ (List.mem_of_getElem? (i := 13) rfl), tq_sg6 _ (List.mem_of_getElem? (i := 232) rfl), ⟨by decide, by decide, by decide +kernel⟩, by decide⟩
theorem msX12_four : Cond.static mX12_four.1 ∈ lw_tbl := tq_sg6 _ (List.mem_of_getElem? (i := 231) rfl)
theorem k_X12_71 : Cond.constantLong RX12 71 (1048576) ∈ lw_tbl := tq_sg6 _ (List.mem_of_getElem? (i := 236) rfl)
theorem l_X12_67 : tq_lok RX12 67 mX12_four.1 := Or.inl (tq_sg6 _ (List.mem_of_getElem? (i := 230) rfl))
theorem rX12_eight_0 : tq_D cX12_eight 0 (.iload_n 0) 1 1 := ⟨by decide +kernel, rfl⟩
theorem rX12_eight_1 : tq_D cX12_eight 1 (.iload_n 1) 1 2 := ⟨by decide +kernel, rfl⟩
theorem rX12_eight_2 : tq_D cX12_eight 2 (.iload_n 2) 1 3 := ⟨by decide +kernel, rfl⟩
theorem rX12_eight_3 : tq_D cX12_eight 3 (.iload_n 3) 1 4 := ⟨by decide +kernel, rfl⟩
theorem rX12_eight_4 : tq_D cX12_eight 4 (.invokestatic 67) 3 7 := ⟨by decide +kernel, rfl⟩
theorem rX12_eight_7 : tq_D cX12_eight 7 (.ldc2_w 71) 3 10 := ⟨by decide +kernel, rfl⟩
theorem rX12_eight_10 : tq_D cX12_eight 10 (.lmul) 1 11 := ⟨by decide +kernel, rfl⟩
theorem rX12_eight_11 : tq_D cX12_eight 11 (.iload 4) 2 13 := ⟨by decide +kernel, rfl⟩
theorem rX12_eight_13 : tq_D cX12_eight 13 (.iload 5) 2 15 := ⟨by decide +kernel, rfl⟩
theorem rX12_eight_15 : tq_D cX12_eight 15 (.iload 6) 2 17 := ⟨by decide +kernel, rfl⟩
theorem rX12_eight_17 : tq_D cX12_eight 17 (.iload 7) 2 19 := ⟨by decide +kernel, rfl⟩
theorem rX12_eight_19 : tq_D cX12_eight 19 (.invokestatic 67) 3 22 := ⟨by decide +kernel, rfl⟩
theorem rX12_eight_22 : tq_D cX12_eight 22 (.ladd) 1 23 := ⟨by decide +kernel, rfl⟩
theorem rX12_eight_23 : decode cX12_eight 23 = .ok (.lreturn, 1) := by decide +kernel
noncomputable def FX12_eight (I : tq_PI) (L : tq_PL) (a0 : Int32) (a1 : Int32) (a2 : Int32) (a3 : Int32) (a4 : Int32) (a5 : Int32) (a6 : Int32) (a7 : Int32) : Int64 :=
  (tq_let (FX12_four I L a0 a1 a2 a3) fun p1 => (tq_let (FX12_four I L a4 a5 a6 a7) fun p2 => ((p1 * (1048576 : Int64)) + p2)))
set_option maxRecDepth 100000 in
set_option maxHeartbeats 4000000 in
theorem CX12_eight {S : Nat × (Nat → Int32)} {d : Nat} {I : tq_PI} {L : tq_PL} {a0 : Int32} {a1 : Int32} {a2 : Int32} {a3 : Int32} {a4 : Int32} {a5 : Int32} {a6 : Int32} {a7 : Int32}  {out : Int64} (hf : FX12_eight I L a0 a1 a2 a3 a4 a5 a6 a7 = out) : tq_K S mX12_eight (d + 1) [.int a0, .int a1, .int a2, .int a3, .int a4, .int a5, .int a6, .int a7] I L (tq_one2 (some (.long out)) I L) := by
  unfold FX12_eight at hf
  refine tq_K_of (by decide) (Nat.le_of_ble_eq_true rfl) (ls := [.int a0, .int a1, .int a2, .int a3, .int a4, .int a5, .int a6, .int a7]) rfl ?_
  refine tq_iload_n rX12_eight_0 rfl ?_
  refine tq_iload_n rX12_eight_1 rfl ?_
  refine tq_iload_n rX12_eight_2 rfl ?_
  refine tq_iload_n rX12_eight_3 rfl ?_
  obtain ⟨p1, e1, hf⟩ := tq_let_elim hf
  refine ty_callSJ p1 ([.int a0, .int a1, .int a2, .int a3]) ([]) rX12_eight_4 l_X12_67 moX12_four msX12_four rfl rfl (Nat.le_of_ble_eq_true rfl) ⟨rfl, rfl⟩ (CX12_four  e1) ?_
  refine tq_ldc2 rX12_eight_7 (k_X12_71) ?_
  refine tq_lmul rX12_eight_10 ?_
  refine tq_iload rX12_eight_11 rfl ?_
  refine tq_iload rX12_eight_13 rfl ?_
  refine tq_iload rX12_eight_15 rfl ?_
  refine tq_iload rX12_eight_17 rfl ?_
  obtain ⟨p2, e2, hf⟩ := tq_let_elim hf
  refine ty_callSJ p2 ([.int a4, .int a5, .int a6, .int a7]) ([.long (p1 * (1048576 : Int64))]) rX12_eight_19 l_X12_67 moX12_four msX12_four rfl rfl (Nat.le_of_ble_eq_true rfl) ⟨rfl, rfl⟩ (CX12_four  e2) ?_
  refine tq_ladd rX12_eight_22 ?_
  refine ty_lret rX12_eight_23 rfl rfl ?_
  subst hf
  exact ⟨rfl, rfl, rfl⟩

abbrev mX12_wordOf : tq_M := (yX12_wordOf, cX12_wordOf, 2, (Option.some Jvm.ClassFile.FieldType.int), 0, 0)
theorem moX12_eight : tq_mok mX12_eight 8 := ⟨tq_sg1 _ (List.mem_of_getElem? (i := 13) rfl), tq_sg6 _ (List.mem_of_getElem? (i := 235) rfl), ⟨by decide, by decide, by decide +kernel⟩, by decide⟩
theorem msX12_eight : Cond.static mX12_eight.1 ∈ lw_tbl := tq_sg6 _ (List.mem_of_getElem? (i := 234) rfl)
theorem l_X12_73 : tq_lok RX12 73 mX12_eight.1 := Or.inl (tq_sg6 _ (List.mem_of_getElem? (i := 233) rfl))
theorem rX12_wordOf_0 : tq_D cX12_wordOf 0 (.lload_n 0) 1 1 := ⟨by decide +kernel, rfl⟩
theorem rX12_wordOf_1 : tq_D cX12_wordOf 1 (.bipush 19) 2 3 := ⟨by decide +kernel, rfl⟩
theorem rX12_wordOf_3 : tq_D cX12_wordOf 3 (.bipush 9) 2 5 := ⟨by decide +kernel, rfl⟩
theorem rX12_wordOf_5 : tq_D cX12_wordOf 5 (.bipush 26) 2 7 := ⟨by decide +kernel, rfl⟩
theorem rX12_wordOf_7 : tq_D cX12_wordOf 7 (.iconst 5) 1 8 := ⟨by decide +kernel, rfl⟩
theorem rX12_wordOf_8 : tq_D cX12_wordOf 8 (.invokestatic 67) 3 11 := ⟨by decide +kernel, rfl⟩
theorem rX12_wordOf_11 : tq_D cX12_wordOf 11 (.lcmp) 1 12 := ⟨by decide +kernel, rfl⟩
theorem rX12_wordOf_12 : tq_J cX12_wordOf 12 (.ifCond .ne) 17 15 := ⟨5, by decide +kernel, by decide, rfl⟩
theorem rX12_wordOf_15 : tq_D cX12_wordOf 15 (.iconst 1) 1 16 := ⟨by decide +kernel, rfl⟩
theorem rX12_wordOf_16 : decode cX12_wordOf 16 = .ok (.ireturn, 1) := by decide +kernel
theorem rX12_wordOf_17 : tq_D cX12_wordOf 17 (.lload_n 0) 1 18 := ⟨by decide +kernel, rfl⟩
theorem rX12_wordOf_18 : tq_D cX12_wordOf 18 (.iconst 0) 1 19 := ⟨by decide +kernel, rfl⟩
theorem rX12_wordOf_19 : tq_D cX12_wordOf 19 (.iconst 1) 1 20 := ⟨by decide +kernel, rfl⟩
theorem rX12_wordOf_20 : tq_D cX12_wordOf 20 (.bipush 9) 2 22 := ⟨by decide +kernel, rfl⟩
theorem rX12_wordOf_22 : tq_D cX12_wordOf 22 (.bipush 18) 2 24 := ⟨by decide +kernel, rfl⟩
theorem rX12_wordOf_24 : tq_D cX12_wordOf 24 (.invokestatic 67) 3 27 := ⟨by decide +kernel, rfl⟩
theorem rX12_wordOf_27 : tq_D cX12_wordOf 27 (.lcmp) 1 28 := ⟨by decide +kernel, rfl⟩
theorem rX12_wordOf_28 : tq_J cX12_wordOf 28 (.ifCond .ne) 33 31 := ⟨5, by decide +kernel, by decide, rfl⟩
theorem rX12_wordOf_31 : tq_D cX12_wordOf 31 (.iconst 2) 1 32 := ⟨by decide +kernel, rfl⟩
theorem rX12_wordOf_32 : decode cX12_wordOf 32 = .ok (.ireturn, 1) := by decide +kernel
theorem rX12_wordOf_33 : tq_D cX12_wordOf 33 (.lload_n 0) 1 34 := ⟨by decide +kernel, rfl⟩
theorem rX12_wordOf_34 : tq_D cX12_wordOf 34 (.iconst 0) 1 35 := ⟨by decide +kernel, rfl⟩
theorem rX12_wordOf_35 : tq_D cX12_wordOf 35 (.iconst 0) 1 36 := ⟨by decide +kernel, rfl⟩
theorem rX12_wordOf_36 : tq_D cX12_wordOf 36 (.iconst 0) 1 37 := ⟨by decide +kernel, rfl⟩
theorem rX12_wordOf_37 : tq_D cX12_wordOf 37 (.iconst 3) 1 38 := ⟨by decide +kernel, rfl⟩
theorem rX12_wordOf_38 : tq_D cX12_wordOf 38 (.bipush 8) 2 40 := ⟨by decide +kernel, rfl⟩
theorem rX12_wordOf_40 : tq_D cX12_wordOf 40 (.iconst 1) 1 41 := ⟨by decide +kernel, rfl⟩
theorem rX12_wordOf_41 : tq_D cX12_wordOf 41 (.bipush 12) 2 43 := ⟨by decide +kernel, rfl⟩
theorem rX12_wordOf_43 : tq_D cX12_wordOf 43 (.bipush 11) 2 45 := ⟨by decide +kernel, rfl⟩
theorem rX12_wordOf_45 : tq_D cX12_wordOf 45 (.invokestatic 73) 3 48 := ⟨by decide +kernel, rfl⟩
theorem rX12_wordOf_48 : tq_D cX12_wordOf 48 (.lcmp) 1 49 := ⟨by decide +kernel, rfl⟩
theorem rX12_wordOf_49 : tq_J cX12_wordOf 49 (.ifCond .ne) 54 52 := ⟨5, by decide +kernel, by decide, rfl⟩
theorem rX12_wordOf_52 : tq_D cX12_wordOf 52 (.iconst 3) 1 53 := ⟨by decide +kernel, rfl⟩
theorem rX12_wordOf_53 : decode cX12_wordOf 53 = .ok (.ireturn, 1) := by decide +kernel
theorem rX12_wordOf_54 : tq_D cX12_wordOf 54 (.lload_n 0) 1 55 := ⟨by decide +kernel, rfl⟩
theorem rX12_wordOf_55 : tq_D cX12_wordOf 55 (.iconst 0) 1 56 := ⟨by decide +kernel, rfl⟩
theorem rX12_wordOf_56 : tq_D cX12_wordOf 56 (.iconst 0) 1 57 := ⟨by decide +kernel, rfl⟩
theorem rX12_wordOf_57 : tq_D cX12_wordOf 57 (.bipush 13) 2 59 := ⟨by decide +kernel, rfl⟩
theorem rX12_wordOf_59 : tq_D cX12_wordOf 59 (.iconst 1) 1 60 := ⟨by decide +kernel, rfl⟩
theorem rX12_wordOf_60 : tq_D cX12_wordOf 60 (.bipush 18) 2 62 := ⟨by decide +kernel, rfl⟩
theorem rX12_wordOf_62 : tq_D cX12_wordOf 62 (.iconst 2) 1 63 := ⟨by decide +kernel, rfl⟩
theorem rX12_wordOf_63 : tq_D cX12_wordOf 63 (.bipush 12) 2 65 := ⟨by decide +kernel, rfl⟩
theorem rX12_wordOf_65 : tq_D cX12_wordOf 65 (.iconst 5) 1 66 := ⟨by decide +kernel, rfl⟩
theorem rX12_wordOf_66 : tq_D cX12_wordOf 66 (.invokestatic 73) 3 69 := ⟨by decide +kernel, rfl⟩
theorem rX12_wordOf_69 : tq_D cX12_wordOf 69 (.lcmp) 1 70 := ⟨by decide +kernel, rfl⟩
theorem rX12_wordOf_70 : tq_J cX12_wordOf 70 (.ifCond .ne) 75 73 := ⟨5, by decide +kernel, by decide, rfl⟩
theorem rX12_wordOf_73 : tq_D cX12_wordOf 73 (.iconst 4) 1 74 := ⟨by decide +kernel, rfl⟩
theorem rX12_wordOf_74 : decode cX12_wordOf 74 = .ok (.ireturn, 1) := by decide +kernel
theorem rX12_wordOf_75 : tq_D cX12_wordOf 75 (.lload_n 0) 1 76 := ⟨by decide +kernel, rfl⟩
theorem rX12_wordOf_76 : tq_D cX12_wordOf 76 (.iconst 0) 1 77 := ⟨by decide +kernel, rfl⟩
theorem rX12_wordOf_77 : tq_D cX12_wordOf 77 (.bipush 7) 2 79 := ⟨by decide +kernel, rfl⟩
theorem rX12_wordOf_79 : tq_D cX12_wordOf 79 (.bipush 18) 2 81 := ⟨by decide +kernel, rfl⟩
theorem rX12_wordOf_81 : tq_D cX12_wordOf 81 (.iconst 1) 1 82 := ⟨by decide +kernel, rfl⟩
theorem rX12_wordOf_82 : tq_D cX12_wordOf 82 (.bipush 14) 2 84 := ⟨by decide +kernel, rfl⟩
theorem rX12_wordOf_84 : tq_D cX12_wordOf 84 (.bipush 9) 2 86 := ⟨by decide +kernel, rfl⟩
theorem rX12_wordOf_86 : tq_D cX12_wordOf 86 (.bipush 20) 2 88 := ⟨by decide +kernel, rfl⟩
theorem rX12_wordOf_88 : tq_D cX12_wordOf 88 (.iconst 5) 1 89 := ⟨by decide +kernel, rfl⟩
theorem rX12_wordOf_89 : tq_D cX12_wordOf 89 (.invokestatic 73) 3 92 := ⟨by decide +kernel, rfl⟩
theorem rX12_wordOf_92 : tq_D cX12_wordOf 92 (.lcmp) 1 93 := ⟨by decide +kernel, rfl⟩
theorem rX12_wordOf_93 : tq_J cX12_wordOf 93 (.ifCond .ne) 98 96 := ⟨5, by decide +kernel, by decide, rfl⟩
theorem rX12_wordOf_96 : tq_D cX12_wordOf 96 (.iconst 5) 1 97 := ⟨by decide +kernel, rfl⟩
theorem rX12_wordOf_97 : decode cX12_wordOf 97 = .ok (.ireturn, 1) := by decide +kernel
theorem rX12_wordOf_98 : tq_D cX12_wordOf 98 (.lload_n 0) 1 99 := ⟨by decide +kernel, rfl⟩
theorem rX12_wordOf_99 : tq_D cX12_wordOf 99 (.bipush 16) 2 101 := ⟨by decide +kernel, rfl⟩
theorem rX12_wordOf_101 : tq_D cX12_wordOf 101 (.bipush 18) 2 103 := ⟨by decide +kernel, rfl⟩
theorem rX12_wordOf_103 : tq_D cX12_wordOf 103 (.bipush 15) 2 105 := ⟨by decide +kernel, rfl⟩
theorem rX12_wordOf_105 : tq_D cX12_wordOf 105 (.bipush 16) 2 107 := ⟨by decide +kernel, rfl⟩
theorem rX12_wordOf_107 : tq_D cX12_wordOf 107 (.invokestatic 67) 3 110 := ⟨by decide +kernel, rfl⟩
theorem rX12_wordOf_110 : tq_D cX12_wordOf 110 (.lcmp) 1 111 := ⟨by decide +kernel, rfl⟩
theorem rX12_wordOf_111 : tq_J cX12_wordOf 111 (.ifCond .ne) 117 114 := ⟨6, by decide +kernel, by decide, rfl⟩
theorem rX12_wordOf_114 : tq_D cX12_wordOf 114 (.bipush 6) 2 116 := ⟨by decide +kernel, rfl⟩
theorem rX12_wordOf_116 : decode cX12_wordOf 116 = .ok (.ireturn, 1) := by decide +kernel
theorem rX12_wordOf_117 : tq_D cX12_wordOf 117 (.lload_n 0) 1 118 := ⟨by decide +kernel, rfl⟩
theorem rX12_wordOf_118 : tq_D cX12_wordOf 118 (.iconst 0) 1 119 := ⟨by decide +kernel, rfl⟩
theorem rX12_wordOf_119 : tq_D cX12_wordOf 119 (.iconst 0) 1 120 := ⟨by decide +kernel, rfl⟩
theorem rX12_wordOf_120 : tq_D cX12_wordOf 120 (.iconst 0) 1 121 := ⟨by decide +kernel, rfl⟩
theorem rX12_wordOf_121 : tq_D cX12_wordOf 121 (.bipush 14) 2 123 := ⟨by decide +kernel, rfl⟩
theorem rX12_wordOf_123 : tq_D cX12_wordOf 123 (.bipush 15) 2 125 := ⟨by decide +kernel, rfl⟩
theorem rX12_wordOf_125 : tq_D cX12_wordOf 125 (.bipush 18) 2 127 := ⟨by decide +kernel, rfl⟩
theorem rX12_wordOf_127 : tq_D cX12_wordOf 127 (.bipush 20) 2 129 := ⟨by decide +kernel, rfl⟩
theorem rX12_wordOf_129 : tq_D cX12_wordOf 129 (.bipush 8) 2 131 := ⟨by decide +kernel, rfl⟩
theorem rX12_wordOf_131 : tq_D cX12_wordOf 131 (.invokestatic 73) 3 134 := ⟨by decide +kernel, rfl⟩
theorem rX12_wordOf_134 : tq_D cX12_wordOf 134 (.lcmp) 1 135 := ⟨by decide +kernel, rfl⟩
theorem rX12_wordOf_135 : tq_J cX12_wordOf 135 (.ifCond .ne) 141 138 := ⟨6, by decide +kernel, by decide, rfl⟩
theorem rX12_wordOf_138 : tq_D cX12_wordOf 138 (.bipush 7) 2 140 := ⟨by decide +kernel, rfl⟩
theorem rX12_wordOf_140 : decode cX12_wordOf 140 = .ok (.ireturn, 1) := by decide +kernel
theorem rX12_wordOf_141 : tq_D cX12_wordOf 141 (.lload_n 0) 1 142 := ⟨by decide +kernel, rfl⟩
theorem rX12_wordOf_142 : tq_D cX12_wordOf 142 (.iconst 0) 1 143 := ⟨by decide +kernel, rfl⟩
theorem rX12_wordOf_143 : tq_D cX12_wordOf 143 (.iconst 0) 1 144 := ⟨by decide +kernel, rfl⟩
theorem rX12_wordOf_144 : tq_D cX12_wordOf 144 (.iconst 0) 1 145 := ⟨by decide +kernel, rfl⟩
theorem rX12_wordOf_145 : tq_D cX12_wordOf 145 (.bipush 19) 2 147 := ⟨by decide +kernel, rfl⟩
theorem rX12_wordOf_147 : tq_D cX12_wordOf 147 (.bipush 15) 2 149 := ⟨by decide +kernel, rfl⟩
theorem rX12_wordOf_149 : tq_D cX12_wordOf 149 (.bipush 21) 2 151 := ⟨by decide +kernel, rfl⟩
theorem rX12_wordOf_151 : tq_D cX12_wordOf 151 (.bipush 20) 2 153 := ⟨by decide +kernel, rfl⟩
theorem rX12_wordOf_153 : tq_D cX12_wordOf 153 (.bipush 8) 2 155 := ⟨by decide +kernel, rfl⟩
theorem rX12_wordOf_155 : tq_D cX12_wordOf 155 (.invokestatic 73) 3 158 := ⟨by decide +kernel, rfl⟩
theorem rX12_wordOf_158 : tq_D cX12_wordOf 158 (.lcmp) 1 159 := ⟨by decide +kernel, rfl⟩
theorem rX12_wordOf_159 : tq_J cX12_wordOf 159 (.ifCond .ne) 165 162 := ⟨6, by decide +kernel, by decide, rfl⟩
theorem rX12_wordOf_162 : tq_D cX12_wordOf 162 (.bipush 8) 2 164 := ⟨by decide +kernel, rfl⟩
theorem rX12_wordOf_164 : decode cX12_wordOf 164 = .ok (.ireturn, 1) := by decide +kernel
theorem rX12_wordOf_165 : tq_D cX12_wordOf 165 (.lload_n 0) 1 166 := ⟨by decide +kernel, rfl⟩
theorem rX12_wordOf_166 : tq_D cX12_wordOf 166 (.iconst 0) 1 167 := ⟨by decide +kernel, rfl⟩
theorem rX12_wordOf_167 : tq_D cX12_wordOf 167 (.iconst 0) 1 168 := ⟨by decide +kernel, rfl⟩
theorem rX12_wordOf_168 : tq_D cX12_wordOf 168 (.iconst 0) 1 169 := ⟨by decide +kernel, rfl⟩
theorem rX12_wordOf_169 : tq_D cX12_wordOf 169 (.bipush 11) 2 171 := ⟨by decide +kernel, rfl⟩
theorem rX12_wordOf_171 : tq_D cX12_wordOf 171 (.bipush 14) 2 173 := ⟨by decide +kernel, rfl⟩
theorem rX12_wordOf_173 : tq_D cX12_wordOf 173 (.bipush 15) 2 175 := ⟨by decide +kernel, rfl⟩
theorem rX12_wordOf_175 : tq_D cX12_wordOf 175 (.iconst 3) 1 176 := ⟨by decide +kernel, rfl⟩
theorem rX12_wordOf_176 : tq_D cX12_wordOf 176 (.bipush 11) 2 178 := ⟨by decide +kernel, rfl⟩
theorem rX12_wordOf_178 : tq_D cX12_wordOf 178 (.invokestatic 73) 3 181 := ⟨by decide +kernel, rfl⟩
theorem rX12_wordOf_181 : tq_D cX12_wordOf 181 (.lcmp) 1 182 := ⟨by decide +kernel, rfl⟩
theorem rX12_wordOf_182 : tq_J cX12_wordOf 182 (.ifCond .ne) 188 185 := ⟨6, by decide +kernel, by decide, rfl⟩
theorem rX12_wordOf_185 : tq_D cX12_wordOf 185 (.bipush 9) 2 187 := ⟨by decide +kernel, rfl⟩
theorem rX12_wordOf_187 : decode cX12_wordOf 187 = .ok (.ireturn, 1) := by decide +kernel
theorem rX12_wordOf_188 : tq_D cX12_wordOf 188 (.lload_n 0) 1 189 := ⟨by decide +kernel, rfl⟩
theorem rX12_wordOf_189 : tq_D cX12_wordOf 189 (.iconst 0) 1 190 := ⟨by decide +kernel, rfl⟩
theorem rX12_wordOf_190 : tq_D cX12_wordOf 190 (.iconst 0) 1 191 := ⟨by decide +kernel, rfl⟩
theorem rX12_wordOf_191 : tq_D cX12_wordOf 191 (.iconst 0) 1 192 := ⟨by decide +kernel, rfl⟩
theorem rX12_wordOf_192 : tq_D cX12_wordOf 192 (.bipush 8) 2 194 := ⟨by decide +kernel, rfl⟩
theorem rX12_wordOf_194 : tq_D cX12_wordOf 194 (.iconst 5) 1 195 := ⟨by decide +kernel, rfl⟩
theorem rX12_wordOf_195 : tq_D cX12_wordOf 195 (.iconst 1) 1 196 := ⟨by decide +kernel, rfl⟩
theorem rX12_wordOf_196 : tq_D cX12_wordOf 196 (.bipush 18) 2 198 := ⟨by decide +kernel, rfl⟩
theorem rX12_wordOf_198 : tq_D cX12_wordOf 198 (.iconst 4) 1 199 := ⟨by decide +kernel, rfl⟩
theorem rX12_wordOf_199 : tq_D cX12_wordOf 199 (.invokestatic 73) 3 202 := ⟨by decide +kernel, rfl⟩
theorem rX12_wordOf_202 : tq_D cX12_wordOf 202 (.lcmp) 1 203 := ⟨by decide +kernel, rfl⟩
theorem rX12_wordOf_203 : tq_J cX12_wordOf 203 (.ifCond .ne) 209 206 := ⟨6, by decide +kernel, by decide, rfl⟩
theorem rX12_wordOf_206 : tq_D cX12_wordOf 206 (.bipush 10) 2 208 := ⟨by decide +kernel, rfl⟩
theorem rX12_wordOf_208 : decode cX12_wordOf 208 = .ok (.ireturn, 1) := by decide +kernel
theorem rX12_wordOf_209 : tq_D cX12_wordOf 209 (.lload_n 0) 1 210 := ⟨by decide +kernel, rfl⟩
theorem rX12_wordOf_210 : tq_D cX12_wordOf 210 (.bipush 23) 2 212 := ⟨by decide +kernel, rfl⟩
theorem rX12_wordOf_212 : tq_D cX12_wordOf 212 (.bipush 15) 2 214 := ⟨by decide +kernel, rfl⟩
theorem rX12_wordOf_214 : tq_D cX12_wordOf 214 (.bipush 18) 2 216 := ⟨by decide +kernel, rfl⟩
theorem rX12_wordOf_216 : tq_D cX12_wordOf 216 (.iconst 4) 1 217 := ⟨by decide +kernel, rfl⟩
theorem rX12_wordOf_217 : tq_D cX12_wordOf 217 (.invokestatic 67) 3 220 := ⟨by decide +kernel, rfl⟩
theorem rX12_wordOf_220 : tq_D cX12_wordOf 220 (.lcmp) 1 221 := ⟨by decide +kernel, rfl⟩
theorem rX12_wordOf_221 : tq_J cX12_wordOf 221 (.ifCond .ne) 229 224 := ⟨8, by decide +kernel, by decide, rfl⟩
theorem rX12_wordOf_224 : tq_D cX12_wordOf 224 (.bipush 11) 2 226 := ⟨by decide +kernel, rfl⟩
theorem rX12_wordOf_226 : tq_J cX12_wordOf 226 .goto 231 229 := ⟨5, by decide +kernel, by decide, rfl⟩
theorem rX12_wordOf_229 : tq_D cX12_wordOf 229 (.bipush 99) 2 231 := ⟨by decide +kernel, rfl⟩
theorem rX12_wordOf_231 : decode cX12_wordOf 231 = .ok (.ireturn, 1) := by decide +kernel
noncomputable def FX12_wordOf (I : tq_PI) (L : tq_PL) (a0 : Int64) : Int32 :=
  (tq_let (FX12_four I L ((19 : Int32)) ((9 : Int32)) ((26 : Int32)) ((5 : Int32))) fun p1 => (if (lg_cmp a0 p1) = 0 then (1 : Int32) else (tq_let (FX12_four I L ((0 : Int32)) ((1 : Int32)) ((9 : Int32)) ((18 : Int32))) fun p3 => (if (lg_cmp a0 p3) = 0 then (2 : Int32) else (tq_let (FX12_eight I L ((0 : Int32)) ((0 : Int32)) ((0 : Int32)) ((3 : Int32)) ((8 : Int32)) ((1 : Int32)) ((12 : Int32)) ((11 : Int32))) fun p5 => (if (lg_cmp a0 p5) = 0 then (3 : Int32) else (tq_let (FX12_eight I L ((0 : Int32)) ((0 : Int32)) ((13 : Int32)) ((1 : Int32)) ((18 : Int32)) ((2 : Int32)) ((12 : Int32)) ((5 : Int32))) fun p7 => (if (lg_cmp a0 p7) = 0 then (4 : Int32) else (tq_let (FX12_eight I L ((0 : Int32)) ((7 : Int32)) ((18 : Int32)) ((1 : Int32)) ((14 : Int32)) ((9 : Int32)) ((20 : Int32)) ((5 : Int32))) fun p9 => (if (lg_cmp a0 p9) = 0 then (5 : Int32) else (tq_let (FX12_four I L ((16 : Int32)) ((18 : Int32)) ((15 : Int32)) ((16 : Int32))) fun p11 => (if (lg_cmp a0 p11) = 0 then (6 : Int32) else (tq_let (FX12_eight I L ((0 : Int32)) ((0 : Int32)) ((0 : Int32)) ((14 : Int32)) ((15 : Int32)) ((18 : Int32)) ((20 : Int32)) ((8 : Int32))) fun p13 => (if (lg_cmp a0 p13) = 0 then (7 : Int32) else (tq_let (FX12_eight I L ((0 : Int32)) ((0 : Int32)) ((0 : Int32)) ((19 : Int32)) ((15 : Int32)) ((21 : Int32)) ((20 : Int32)) ((8 : Int32))) fun p15 => (if (lg_cmp a0 p15) = 0 then (8 : Int32) else (tq_let (FX12_eight I L ((0 : Int32)) ((0 : Int32)) ((0 : Int32)) ((11 : Int32)) ((14 : Int32)) ((15 : Int32)) ((3 : Int32)) ((11 : Int32))) fun p17 => (if (lg_cmp a0 p17) = 0 then (9 : Int32) else (tq_let (FX12_eight I L ((0 : Int32)) ((0 : Int32)) ((0 : Int32)) ((8 : Int32)) ((5 : Int32)) ((1 : Int32)) ((18 : Int32)) ((4 : Int32))) fun p19 => (if (lg_cmp a0 p19) = 0 then (10 : Int32) else (tq_let (FX12_four I L ((23 : Int32)) ((15 : Int32)) ((18 : Int32)) ((4 : Int32))) fun p21 => (if (lg_cmp a0 p21) = 0 then (11 : Int32) else (99 : Int32)))))))))))))))))))))))
set_option maxRecDepth 100000 in
set_option maxHeartbeats 4000000 in
theorem CX12_wordOf {S : Nat × (Nat → Int32)} {d : Nat} {I : tq_PI} {L : tq_PL} {a0 : Int64}  {out : Int32} (hf : FX12_wordOf I L a0 = out) : tq_K S mX12_wordOf (d + 2) [.long a0] I L (tq_one2 (some (.int out)) I L) := by
  unfold FX12_wordOf at hf
  refine tq_K_of (by decide) (Nat.le_of_ble_eq_true rfl) (ls := [.long a0, tq_u]) rfl ?_
  refine tq_lload_n rX12_wordOf_0 rfl ?_
  refine tq_bipush (19 : Int32) rX12_wordOf_1 (by decide) ?_
  refine tq_bipush (9 : Int32) rX12_wordOf_3 (by decide) ?_
  refine tq_bipush (26 : Int32) rX12_wordOf_5 (by decide) ?_
  refine tq_iconst (5 : Int32) rX12_wordOf_7 (by decide) ?_
  obtain ⟨p1, e1, hf⟩ := tq_let_elim hf
  refine ty_callSJ p1 ([.int (19 : Int32), .int (9 : Int32), .int (26 : Int32), .int (5 : Int32)]) ([.long a0]) rX12_wordOf_8 l_X12_67 moX12_four msX12_four rfl rfl (Nat.le_of_ble_eq_true rfl) ⟨rfl, rfl⟩ (CX12_four  e1) ?_
  refine tq_lcmp rX12_wordOf_11 ?_
  refine tq_if_ne rX12_wordOf_12 (fun c2 => ?_) (fun c2 => ?_)
  · rw [if_neg c2] at hf
    refine tq_lload_n rX12_wordOf_17 rfl ?_
    refine tq_iconst (0 : Int32) rX12_wordOf_18 (by decide) ?_
    refine tq_iconst (1 : Int32) rX12_wordOf_19 (by decide) ?_
    refine tq_bipush (9 : Int32) rX12_wordOf_20 (by decide) ?_
    refine tq_bipush (18 : Int32) rX12_wordOf_22 (by decide) ?_
    obtain ⟨p3, e3, hf⟩ := tq_let_elim hf
    refine ty_callSJ p3 ([.int (0 : Int32), .int (1 : Int32), .int (9 : Int32), .int (18 : Int32)]) ([.long a0]) rX12_wordOf_24 l_X12_67 moX12_four msX12_four rfl rfl (Nat.le_of_ble_eq_true rfl) ⟨rfl, rfl⟩ (CX12_four  e3) ?_
    refine tq_lcmp rX12_wordOf_27 ?_
    refine tq_if_ne rX12_wordOf_28 (fun c4 => ?_) (fun c4 => ?_)
    · rw [if_neg c4] at hf
      refine tq_lload_n rX12_wordOf_33 rfl ?_
      refine tq_iconst (0 : Int32) rX12_wordOf_34 (by decide) ?_
      refine tq_iconst (0 : Int32) rX12_wordOf_35 (by decide) ?_
      refine tq_iconst (0 : Int32) rX12_wordOf_36 (by decide) ?_
      refine tq_iconst (3 : Int32) rX12_wordOf_37 (by decide) ?_
      refine tq_bipush (8 : Int32) rX12_wordOf_38 (by decide) ?_
      refine tq_iconst (1 : Int32) rX12_wordOf_40 (by decide) ?_
      refine tq_bipush (12 : Int32) rX12_wordOf_41 (by decide) ?_
      refine tq_bipush (11 : Int32) rX12_wordOf_43 (by decide) ?_
      obtain ⟨p5, e5, hf⟩ := tq_let_elim hf
      refine ty_callSJ p5 ([.int (0 : Int32), .int (0 : Int32), .int (0 : Int32), .int (3 : Int32), .int (8 : Int32), .int (1 : Int32), .int (12 : Int32), .int (11 : Int32)]) ([.long a0]) rX12_wordOf_45 l_X12_73 moX12_eight msX12_eight rfl rfl (Nat.le_of_ble_eq_true rfl) ⟨rfl, rfl⟩ (CX12_eight  e5) ?_
      refine tq_lcmp rX12_wordOf_48 ?_
      refine tq_if_ne rX12_wordOf_49 (fun c6 => ?_) (fun c6 => ?_)
      · rw [if_neg c6] at hf
        refine tq_lload_n rX12_wordOf_54 rfl ?_
        refine tq_iconst (0 : Int32) rX12_wordOf_55 (by decide) ?_
        refine tq_iconst (0 : Int32) rX12_wordOf_56 (by decide) ?_
        refine tq_bipush (13 : Int32) rX12_wordOf_57 (by decide) ?_
        refine tq_iconst (1 : Int32) rX12_wordOf_59 (by decide) ?_
        refine tq_bipush (18 : Int32) rX12_wordOf_60 (by decide) ?_
        refine tq_iconst (2 : Int32) rX12_wordOf_62 (by decide) ?_
        refine tq_bipush (12 : Int32) rX12_wordOf_63 (by decide) ?_
        refine tq_iconst (5 : Int32) rX12_wordOf_65 (by decide) ?_
        obtain ⟨p7, e7, hf⟩ := tq_let_elim hf
        refine ty_callSJ p7 ([.int (0 : Int32), .int (0 : Int32), .int (13 : Int32), .int (1 : Int32), .int (18 : Int32), .int (2 : Int32), .int (12 : Int32), .int (5 : Int32)]) ([.long a0]) rX12_wordOf_66 l_X12_73 moX12_eight msX12_eight rfl rfl (Nat.le_of_ble_eq_true rfl) ⟨rfl, rfl⟩ (CX12_eight  e7) ?_
        refine tq_lcmp rX12_wordOf_69 ?_
        refine tq_if_ne rX12_wordOf_70 (fun c8 => ?_) (fun c8 => ?_)
        · rw [if_neg c8] at hf
          refine tq_lload_n rX12_wordOf_75 rfl ?_
          refine tq_iconst (0 : Int32) rX12_wordOf_76 (by decide) ?_
          refine tq_bipush (7 : Int32) rX12_wordOf_77 (by decide) ?_
          refine tq_bipush (18 : Int32) rX12_wordOf_79 (by decide) ?_
          refine tq_iconst (1 : Int32) rX12_wordOf_81 (by decide) ?_
          refine tq_bipush (14 : Int32) rX12_wordOf_82 (by decide) ?_
          refine tq_bipush (9 : Int32) rX12_wordOf_84 (by decide) ?_
          refine tq_bipush (20 : Int32) rX12_wordOf_86 (by decide) ?_
          refine tq_iconst (5 : Int32) rX12_wordOf_88 (by decide) ?_
          obtain ⟨p9, e9, hf⟩ := tq_let_elim hf
          refine ty_callSJ p9 ([.int (0 : Int32), .int (7 : Int32), .int (18 : Int32), .int (1 : Int32), .int (14 : Int32), .int (9 : Int32), .int (20 : Int32), .int (5 : Int32)]) ([.long a0]) rX12_wordOf_89 l_X12_73 moX12_eight msX12_eight rfl rfl (Nat.le_of_ble_eq_true rfl) ⟨rfl, rfl⟩ (CX12_eight  e9) ?_
          refine tq_lcmp rX12_wordOf_92 ?_
          refine tq_if_ne rX12_wordOf_93 (fun c10 => ?_) (fun c10 => ?_)
          · rw [if_neg c10] at hf
            refine tq_lload_n rX12_wordOf_98 rfl ?_
            refine tq_bipush (16 : Int32) rX12_wordOf_99 (by decide) ?_
            refine tq_bipush (18 : Int32) rX12_wordOf_101 (by decide) ?_
            refine tq_bipush (15 : Int32) rX12_wordOf_103 (by decide) ?_
            refine tq_bipush (16 : Int32) rX12_wordOf_105 (by decide) ?_
            obtain ⟨p11, e11, hf⟩ := tq_let_elim hf
            refine ty_callSJ p11 ([.int (16 : Int32), .int (18 : Int32), .int (15 : Int32), .int (16 : Int32)]) ([.long a0]) rX12_wordOf_107 l_X12_67 moX12_four msX12_four rfl rfl (Nat.le_of_ble_eq_true rfl) ⟨rfl, rfl⟩ (CX12_four  e11) ?_
            refine tq_lcmp rX12_wordOf_110 ?_
            refine tq_if_ne rX12_wordOf_111 (fun c12 => ?_) (fun c12 => ?_)
            · rw [if_neg c12] at hf
              refine tq_lload_n rX12_wordOf_117 rfl ?_
              refine tq_iconst (0 : Int32) rX12_wordOf_118 (by decide) ?_
              refine tq_iconst (0 : Int32) rX12_wordOf_119 (by decide) ?_
              refine tq_iconst (0 : Int32) rX12_wordOf_120 (by decide) ?_
              refine tq_bipush (14 : Int32) rX12_wordOf_121 (by decide) ?_
              refine tq_bipush (15 : Int32) rX12_wordOf_123 (by decide) ?_
              refine tq_bipush (18 : Int32) rX12_wordOf_125 (by decide) ?_
              refine tq_bipush (20 : Int32) rX12_wordOf_127 (by decide) ?_
              refine tq_bipush (8 : Int32) rX12_wordOf_129 (by decide) ?_
              obtain ⟨p13, e13, hf⟩ := tq_let_elim hf
              refine ty_callSJ p13 ([.int (0 : Int32), .int (0 : Int32), .int (0 : Int32), .int (14 : Int32), .int (15 : Int32), .int (18 : Int32), .int (20 : Int32), .int (8 : Int32)]) ([.long a0]) rX12_wordOf_131 l_X12_73 moX12_eight msX12_eight rfl rfl (Nat.le_of_ble_eq_true rfl) ⟨rfl, rfl⟩ (CX12_eight  e13) ?_
              refine tq_lcmp rX12_wordOf_134 ?_
              refine tq_if_ne rX12_wordOf_135 (fun c14 => ?_) (fun c14 => ?_)
              · rw [if_neg c14] at hf
                refine tq_lload_n rX12_wordOf_141 rfl ?_
                refine tq_iconst (0 : Int32) rX12_wordOf_142 (by decide) ?_
                refine tq_iconst (0 : Int32) rX12_wordOf_143 (by decide) ?_
                refine tq_iconst (0 : Int32) rX12_wordOf_144 (by decide) ?_
                refine tq_bipush (19 : Int32) rX12_wordOf_145 (by decide) ?_
                refine tq_bipush (15 : Int32) rX12_wordOf_147 (by decide) ?_
                refine tq_bipush (21 : Int32) rX12_wordOf_149 (by decide) ?_
                refine tq_bipush (20 : Int32) rX12_wordOf_151 (by decide) ?_
                refine tq_bipush (8 : Int32) rX12_wordOf_153 (by decide) ?_
                obtain ⟨p15, e15, hf⟩ := tq_let_elim hf
                refine ty_callSJ p15 ([.int (0 : Int32), .int (0 : Int32), .int (0 : Int32), .int (19 : Int32), .int (15 : Int32), .int (21 : Int32), .int (20 : Int32), .int (8 : Int32)]) ([.long a0]) rX12_wordOf_155 l_X12_73 moX12_eight msX12_eight rfl rfl (Nat.le_of_ble_eq_true rfl) ⟨rfl, rfl⟩ (CX12_eight  e15) ?_
                refine tq_lcmp rX12_wordOf_158 ?_
                refine tq_if_ne rX12_wordOf_159 (fun c16 => ?_) (fun c16 => ?_)
                · rw [if_neg c16] at hf
                  refine tq_lload_n rX12_wordOf_165 rfl ?_
                  refine tq_iconst (0 : Int32) rX12_wordOf_166 (by decide) ?_
                  refine tq_iconst (0 : Int32) rX12_wordOf_167 (by decide) ?_
                  refine tq_iconst (0 : Int32) rX12_wordOf_168 (by decide) ?_
                  refine tq_bipush (11 : Int32) rX12_wordOf_169 (by decide) ?_
                  refine tq_bipush (14 : Int32) rX12_wordOf_171 (by decide) ?_
                  refine tq_bipush (15 : Int32) rX12_wordOf_173 (by decide) ?_
                  refine tq_iconst (3 : Int32) rX12_wordOf_175 (by decide) ?_
                  refine tq_bipush (11 : Int32) rX12_wordOf_176 (by decide) ?_
                  obtain ⟨p17, e17, hf⟩ := tq_let_elim hf
                  refine ty_callSJ p17 ([.int (0 : Int32), .int (0 : Int32), .int (0 : Int32), .int (11 : Int32), .int (14 : Int32), .int (15 : Int32), .int (3 : Int32), .int (11 : Int32)]) ([.long a0]) rX12_wordOf_178 l_X12_73 moX12_eight msX12_eight rfl rfl (Nat.le_of_ble_eq_true rfl) ⟨rfl, rfl⟩ (CX12_eight  e17) ?_
                  refine tq_lcmp rX12_wordOf_181 ?_
                  refine tq_if_ne rX12_wordOf_182 (fun c18 => ?_) (fun c18 => ?_)
                  · rw [if_neg c18] at hf
                    refine tq_lload_n rX12_wordOf_188 rfl ?_
                    refine tq_iconst (0 : Int32) rX12_wordOf_189 (by decide) ?_
                    refine tq_iconst (0 : Int32) rX12_wordOf_190 (by decide) ?_
                    refine tq_iconst (0 : Int32) rX12_wordOf_191 (by decide) ?_
                    refine tq_bipush (8 : Int32) rX12_wordOf_192 (by decide) ?_
                    refine tq_iconst (5 : Int32) rX12_wordOf_194 (by decide) ?_
                    refine tq_iconst (1 : Int32) rX12_wordOf_195 (by decide) ?_
                    refine tq_bipush (18 : Int32) rX12_wordOf_196 (by decide) ?_
                    refine tq_iconst (4 : Int32) rX12_wordOf_198 (by decide) ?_
                    obtain ⟨p19, e19, hf⟩ := tq_let_elim hf
                    refine ty_callSJ p19 ([.int (0 : Int32), .int (0 : Int32), .int (0 : Int32), .int (8 : Int32), .int (5 : Int32), .int (1 : Int32), .int (18 : Int32), .int (4 : Int32)]) ([.long a0]) rX12_wordOf_199 l_X12_73 moX12_eight msX12_eight rfl rfl (Nat.le_of_ble_eq_true rfl) ⟨rfl, rfl⟩ (CX12_eight  e19) ?_
                    refine tq_lcmp rX12_wordOf_202 ?_
                    refine tq_if_ne rX12_wordOf_203 (fun c20 => ?_) (fun c20 => ?_)
                    · rw [if_neg c20] at hf
                      refine tq_lload_n rX12_wordOf_209 rfl ?_
                      refine tq_bipush (23 : Int32) rX12_wordOf_210 (by decide) ?_
                      refine tq_bipush (15 : Int32) rX12_wordOf_212 (by decide) ?_
                      refine tq_bipush (18 : Int32) rX12_wordOf_214 (by decide) ?_
                      refine tq_iconst (4 : Int32) rX12_wordOf_216 (by decide) ?_
                      obtain ⟨p21, e21, hf⟩ := tq_let_elim hf
                      refine ty_callSJ p21 ([.int (23 : Int32), .int (15 : Int32), .int (18 : Int32), .int (4 : Int32)]) ([.long a0]) rX12_wordOf_217 l_X12_67 moX12_four msX12_four rfl rfl (Nat.le_of_ble_eq_true rfl) ⟨rfl, rfl⟩ (CX12_four  e21) ?_
                      refine tq_lcmp rX12_wordOf_220 ?_
                      refine tq_if_ne rX12_wordOf_221 (fun c22 => ?_) (fun c22 => ?_)
                      · rw [if_neg c22] at hf
                        refine tq_bipush (99 : Int32) rX12_wordOf_229 (by decide) ?_
                        refine ty_iret rX12_wordOf_231 rfl rfl ?_
                        subst hf
                        exact ⟨rfl, rfl, rfl⟩
                      · rw [if_pos c22] at hf
                        refine tq_bipush (11 : Int32) rX12_wordOf_224 (by decide) ?_
                        refine tq_goto rX12_wordOf_226 ?_
                        refine ty_iret rX12_wordOf_231 rfl rfl ?_
                        subst hf
                        exact ⟨rfl, rfl, rfl⟩
                    · rw [if_pos c20] at hf
                      refine tq_bipush (10 : Int32) rX12_wordOf_206 (by decide) ?_
                      refine ty_iret rX12_wordOf_208 rfl rfl ?_
                      subst hf
                      exact ⟨rfl, rfl, rfl⟩
                  · rw [if_pos c18] at hf
                    refine tq_bipush (9 : Int32) rX12_wordOf_185 (by decide) ?_
                    refine ty_iret rX12_wordOf_187 rfl rfl ?_
                    subst hf
                    exact ⟨rfl, rfl, rfl⟩
                · rw [if_pos c16] at hf
                  refine tq_bipush (8 : Int32) rX12_wordOf_162 (by decide) ?_
                  refine ty_iret rX12_wordOf_164 rfl rfl ?_
                  subst hf
                  exact ⟨rfl, rfl, rfl⟩
              · rw [if_pos c14] at hf
                refine tq_bipush (7 : Int32) rX12_wordOf_138 (by decide) ?_
                refine ty_iret rX12_wordOf_140 rfl rfl ?_
                subst hf
                exact ⟨rfl, rfl, rfl⟩
            · rw [if_pos c12] at hf
              refine tq_bipush (6 : Int32) rX12_wordOf_114 (by decide) ?_
              refine ty_iret rX12_wordOf_116 rfl rfl ?_
              subst hf
              exact ⟨rfl, rfl, rfl⟩
          · rw [if_pos c10] at hf
            refine tq_iconst (5 : Int32) rX12_wordOf_96 (by decide) ?_
            refine ty_iret rX12_wordOf_97 rfl rfl ?_
            subst hf
            exact ⟨rfl, rfl, rfl⟩
        · rw [if_pos c8] at hf
          refine tq_iconst (4 : Int32) rX12_wordOf_73 (by decide) ?_
          refine ty_iret rX12_wordOf_74 rfl rfl ?_
          subst hf
          exact ⟨rfl, rfl, rfl⟩
      · rw [if_pos c6] at hf
        refine tq_iconst (3 : Int32) rX12_wordOf_52 (by decide) ?_
        refine ty_iret rX12_wordOf_53 rfl rfl ?_
        subst hf
        exact ⟨rfl, rfl, rfl⟩
    · rw [if_pos c4] at hf
      refine tq_iconst (2 : Int32) rX12_wordOf_31 (by decide) ?_
      refine ty_iret rX12_wordOf_32 rfl rfl ?_
      subst hf
      exact ⟨rfl, rfl, rfl⟩
  · rw [if_pos c2] at hf
    refine tq_iconst (1 : Int32) rX12_wordOf_15 (by decide) ?_
    refine ty_iret rX12_wordOf_16 rfl rfl ?_
    subst hf
    exact ⟨rfl, rfl, rfl⟩

abbrev mX12_advance : tq_M := (yX12_advance, cX12_advance, 4, (Option.none : Option Jvm.ClassFile.FieldType), 0, 0)
theorem moX12_byteAt : tq_mok mX12_byteAt 1 := ⟨tq_sg1 _ (List.mem_of_getElem? (i := 13) rfl), tq_sg6 _ (List.mem_of_getElem? (i := 221) rfl), ⟨by decide, by decide, by decide +kernel⟩, by decide⟩
theorem mvX12_byteAt : 12 < 13 ∧ (tq_cl 12).1 = mX12_byteAt.1.cls ∧ Cond.instanceMethod mX12_byteAt.1 ∈ lw_tbl ∧ Cond.selects mX12_byteAt.1.cls mX12_byteAt.1 mX12_byteAt.1 ∈ lw_tbl := ⟨by decide, rfl, tq_sg6 _ (List.mem_of_getElem? (i := 220) rfl), List.mem_append_left _ (List.mem_map.mpr ⟨_, List.mem_of_getElem? (i := 44) rfl, rfl⟩)⟩
theorem moX12_isDigit : tq_mok mX12_isDigit 1 := ⟨tq_sg1 _ (List.mem_of_getElem? (i := 13) rfl), tq_sg6 _ (List.mem_of_getElem? (i := 239) rfl), ⟨by decide, by decide, by decide +kernel⟩, by decide⟩
theorem msX12_isDigit : Cond.static mX12_isDigit.1 ∈ lw_tbl := tq_sg6 _ (List.mem_of_getElem? (i := 238) rfl)
theorem moX12_isLetter : tq_mok mX12_isLetter 1 := ⟨tq_sg1 _ (List.mem_of_getElem? (i := 13) rfl), tq_sg6 _ (List.mem_of_getElem? (i := 224) rfl), ⟨by decide, by decide, by decide +kernel⟩, by decide⟩
theorem msX12_isLetter : Cond.static mX12_isLetter.1 ∈ lw_tbl := tq_sg6 _ (List.mem_of_getElem? (i := 223) rfl)
theorem moX12_wordOf : tq_mok mX12_wordOf 1 := ⟨tq_sg1 _ (List.mem_of_getElem? (i := 13) rfl), tq_sg6 _ (List.mem_of_getElem? (i := 229) rfl), ⟨by decide, by decide, by decide +kernel⟩, by decide⟩
theorem msX12_wordOf : Cond.static mX12_wordOf.1 ∈ lw_tbl := tq_sg6 _ (List.mem_of_getElem? (i := 228) rfl)
theorem f_X12_102 : tq_fok RX12 102 12 7 := ⟨by decide, by decide, Or.inl (tq_sg6 _ (List.mem_of_getElem? (i := 80) rfl))⟩
theorem f_X12_108 : tq_fok RX12 108 12 6 := ⟨by decide, by decide, Or.inl (tq_sg6 _ (List.mem_of_getElem? (i := 79) rfl))⟩
theorem f_X12_77 : tq_fok RX12 77 12 3 := ⟨by decide, by decide, Or.inl (tq_sg6 _ (List.mem_of_getElem? (i := 76) rfl))⟩
theorem f_X12_84 : tq_fok RX12 84 12 4 := ⟨by decide, by decide, Or.inl (tq_sg6 _ (List.mem_of_getElem? (i := 77) rfl))⟩
theorem f_X12_87 : tq_fok RX12 87 12 5 := ⟨by decide, by decide, Or.inl (tq_sg6 _ (List.mem_of_getElem? (i := 78) rfl))⟩
theorem k_X12_94 : Cond.constantLong RX12 94 (32) ∈ lw_tbl := tq_sg6 _ (List.mem_of_getElem? (i := 225) rfl)
theorem k_X12_96 : Cond.constantLong RX12 96 (96) ∈ lw_tbl := tq_sg6 _ (List.mem_of_getElem? (i := 226) rfl)
theorem l_X12_105 : tq_lok RX12 105 mX12_isDigit.1 := Or.inl (tq_sg6 _ (List.mem_of_getElem? (i := 237) rfl))
theorem l_X12_80 : tq_lok RX12 80 mX12_byteAt.1 := Or.inl (tq_sg6 _ (List.mem_of_getElem? (i := 218) rfl))
theorem l_X12_90 : tq_lok RX12 90 mX12_isLetter.1 := Or.inl (tq_sg6 _ (List.mem_of_getElem? (i := 222) rfl))
theorem l_X12_98 : tq_lok RX12 98 mX12_wordOf.1 := Or.inl (tq_sg6 _ (List.mem_of_getElem? (i := 227) rfl))
theorem rX12_advance_0 : tq_D cX12_advance 0 (.aload_n 0) 1 1 := ⟨by decide +kernel, rfl⟩
theorem rX12_advance_1 : tq_D cX12_advance 1 (.aload_n 0) 1 2 := ⟨by decide +kernel, rfl⟩
theorem rX12_advance_2 : tq_D cX12_advance 2 (.getfield 77) 3 5 := ⟨by decide +kernel, rfl⟩
theorem rX12_advance_5 : tq_D cX12_advance 5 (.invokevirtual 80) 3 8 := ⟨by decide +kernel, rfl⟩
theorem rX12_advance_8 : tq_D cX12_advance 8 (.bipush 10) 2 10 := ⟨by decide +kernel, rfl⟩
theorem rX12_advance_10 : tq_J cX12_advance 10 (.if_icmp .eq) 26 13 := ⟨16, by decide +kernel, by decide, rfl⟩
theorem rX12_advance_13 : tq_D cX12_advance 13 (.aload_n 0) 1 14 := ⟨by decide +kernel, rfl⟩
theorem rX12_advance_14 : tq_D cX12_advance 14 (.aload_n 0) 1 15 := ⟨by decide +kernel, rfl⟩
theorem rX12_advance_15 : tq_D cX12_advance 15 (.getfield 77) 3 18 := ⟨by decide +kernel, rfl⟩
theorem rX12_advance_18 : tq_D cX12_advance 18 (.invokevirtual 80) 3 21 := ⟨by decide +kernel, rfl⟩
theorem rX12_advance_21 : tq_D cX12_advance 21 (.bipush 32) 2 23 := ⟨by decide +kernel, rfl⟩
theorem rX12_advance_23 : tq_J cX12_advance 23 (.if_icmp .ne) 39 26 := ⟨16, by decide +kernel, by decide, rfl⟩
theorem rX12_advance_26 : tq_D cX12_advance 26 (.aload_n 0) 1 27 := ⟨by decide +kernel, rfl⟩
theorem rX12_advance_27 : tq_D cX12_advance 27 (.dup) 1 28 := ⟨by decide +kernel, rfl⟩
theorem rX12_advance_28 : tq_D cX12_advance 28 (.getfield 77) 3 31 := ⟨by decide +kernel, rfl⟩
theorem rX12_advance_31 : tq_D cX12_advance 31 (.iconst 1) 1 32 := ⟨by decide +kernel, rfl⟩
theorem rX12_advance_32 : tq_D cX12_advance 32 (.iadd) 1 33 := ⟨by decide +kernel, rfl⟩
theorem rX12_advance_33 : tq_D cX12_advance 33 (.putfield 77) 3 36 := ⟨by decide +kernel, rfl⟩
theorem rX12_advance_36 : tq_J cX12_advance 36 .goto 0 39 := ⟨(-36), by decide +kernel, by decide, rfl⟩
theorem rX12_advance_39 : tq_D cX12_advance 39 (.aload_n 0) 1 40 := ⟨by decide +kernel, rfl⟩
theorem rX12_advance_40 : tq_D cX12_advance 40 (.aload_n 0) 1 41 := ⟨by decide +kernel, rfl⟩
theorem rX12_advance_41 : tq_D cX12_advance 41 (.getfield 77) 3 44 := ⟨by decide +kernel, rfl⟩
theorem rX12_advance_44 : tq_D cX12_advance 44 (.putfield 84) 3 47 := ⟨by decide +kernel, rfl⟩
theorem rX12_advance_47 : tq_D cX12_advance 47 (.aload_n 0) 1 48 := ⟨by decide +kernel, rfl⟩
theorem rX12_advance_48 : tq_D cX12_advance 48 (.aload_n 0) 1 49 := ⟨by decide +kernel, rfl⟩
theorem rX12_advance_49 : tq_D cX12_advance 49 (.getfield 77) 3 52 := ⟨by decide +kernel, rfl⟩
theorem rX12_advance_52 : tq_D cX12_advance 52 (.invokevirtual 80) 3 55 := ⟨by decide +kernel, rfl⟩
theorem rX12_advance_55 : tq_D cX12_advance 55 (.istore_n 1) 1 56 := ⟨by decide +kernel, rfl⟩
theorem rX12_advance_56 : tq_D cX12_advance 56 (.iload_n 1) 1 57 := ⟨by decide +kernel, rfl⟩
theorem rX12_advance_57 : tq_J cX12_advance 57 (.ifCond .ge) 68 60 := ⟨11, by decide +kernel, by decide, rfl⟩
theorem rX12_advance_60 : tq_D cX12_advance 60 (.aload_n 0) 1 61 := ⟨by decide +kernel, rfl⟩
theorem rX12_advance_61 : tq_D cX12_advance 61 (.iconst 0) 1 62 := ⟨by decide +kernel, rfl⟩
theorem rX12_advance_62 : tq_D cX12_advance 62 (.putfield 87) 3 65 := ⟨by decide +kernel, rfl⟩
theorem rX12_advance_65 : tq_J cX12_advance 65 .goto 311 68 := ⟨246, by decide +kernel, by decide, rfl⟩
theorem rX12_advance_68 : tq_D cX12_advance 68 (.iload_n 1) 1 69 := ⟨by decide +kernel, rfl⟩
theorem rX12_advance_69 : tq_D cX12_advance 69 (.invokestatic 90) 3 72 := ⟨by decide +kernel, rfl⟩
theorem rX12_advance_72 : tq_J cX12_advance 72 (.ifCond .eq) 186 75 := ⟨114, by decide +kernel, by decide, rfl⟩
theorem rX12_advance_75 : tq_D cX12_advance 75 (.lconst 0) 1 76 := ⟨by decide +kernel, rfl⟩
theorem rX12_advance_76 : tq_D cX12_advance 76 (.lstore_n 2) 1 77 := ⟨by decide +kernel, rfl⟩
theorem rX12_advance_77 : tq_D cX12_advance 77 (.aload_n 0) 1 78 := ⟨by decide +kernel, rfl⟩
theorem rX12_advance_78 : tq_D cX12_advance 78 (.aload_n 0) 1 79 := ⟨by decide +kernel, rfl⟩
theorem rX12_advance_79 : tq_D cX12_advance 79 (.getfield 77) 3 82 := ⟨by decide +kernel, rfl⟩
theorem rX12_advance_82 : tq_D cX12_advance 82 (.invokevirtual 80) 3 85 := ⟨by decide +kernel, rfl⟩
theorem rX12_advance_85 : tq_D cX12_advance 85 (.invokestatic 90) 3 88 := ⟨by decide +kernel, rfl⟩
theorem rX12_advance_88 : tq_J cX12_advance 88 (.ifCond .eq) 138 91 := ⟨50, by decide +kernel, by decide, rfl⟩
theorem rX12_advance_91 : tq_D cX12_advance 91 (.aload_n 0) 1 92 := ⟨by decide +kernel, rfl⟩
theorem rX12_advance_92 : tq_D cX12_advance 92 (.getfield 77) 3 95 := ⟨by decide +kernel, rfl⟩
theorem rX12_advance_95 : tq_D cX12_advance 95 (.aload_n 0) 1 96 := ⟨by decide +kernel, rfl⟩
theorem rX12_advance_96 : tq_D cX12_advance 96 (.getfield 84) 3 99 := ⟨by decide +kernel, rfl⟩
theorem rX12_advance_99 : tq_D cX12_advance 99 (.isub) 1 100 := ⟨by decide +kernel, rfl⟩
theorem rX12_advance_100 : tq_D cX12_advance 100 (.bipush 8) 2 102 := ⟨by decide +kernel, rfl⟩
theorem rX12_advance_102 : tq_J cX12_advance 102 (.if_icmp .ge) 125 105 := ⟨23, by decide +kernel, by decide, rfl⟩
theorem rX12_advance_105 : tq_D cX12_advance 105 (.ldc2_w 94) 3 108 := ⟨by decide +kernel, rfl⟩
theorem rX12_advance_108 : tq_D cX12_advance 108 (.lload_n 2) 1 109 := ⟨by decide +kernel, rfl⟩
theorem rX12_advance_109 : tq_D cX12_advance 109 (.lmul) 1 110 := ⟨by decide +kernel, rfl⟩
theorem rX12_advance_110 : tq_D cX12_advance 110 (.aload_n 0) 1 111 := ⟨by decide +kernel, rfl⟩
theorem rX12_advance_111 : tq_D cX12_advance 111 (.aload_n 0) 1 112 := ⟨by decide +kernel, rfl⟩
theorem rX12_advance_112 : tq_D cX12_advance 112 (.getfield 77) 3 115 := ⟨by decide +kernel, rfl⟩
theorem rX12_advance_115 : tq_D cX12_advance 115 (.invokevirtual 80) 3 118 := ⟨by decide +kernel, rfl⟩
theorem rX12_advance_118 : tq_D cX12_advance 118 (.i2l) 1 119 := ⟨by decide +kernel, rfl⟩
theorem rX12_advance_119 : tq_D cX12_advance 119 (.ladd) 1 120 := ⟨by decide +kernel, rfl⟩
theorem rX12_advance_120 : tq_D cX12_advance 120 (.ldc2_w 96) 3 123 := ⟨by decide +kernel, rfl⟩
theorem rX12_advance_123 : tq_D cX12_advance 123 (.lsub) 1 124 := ⟨by decide +kernel, rfl⟩
theorem rX12_advance_124 : tq_D cX12_advance 124 (.lstore_n 2) 1 125 := ⟨by decide +kernel, rfl⟩
theorem rX12_advance_125 : tq_D cX12_advance 125 (.aload_n 0) 1 126 := ⟨by decide +kernel, rfl⟩
theorem rX12_advance_126 : tq_D cX12_advance 126 (.dup) 1 127 := ⟨by decide +kernel, rfl⟩
theorem rX12_advance_127 : tq_D cX12_advance 127 (.getfield 77) 3 130 := ⟨by decide +kernel, rfl⟩
theorem rX12_advance_130 : tq_D cX12_advance 130 (.iconst 1) 1 131 := ⟨by decide +kernel, rfl⟩
theorem rX12_advance_131 : tq_D cX12_advance 131 (.iadd) 1 132 := ⟨by decide +kernel, rfl⟩
theorem rX12_advance_132 : tq_D cX12_advance 132 (.putfield 77) 3 135 := ⟨by decide +kernel, rfl⟩
theorem rX12_advance_135 : tq_J cX12_advance 135 .goto 77 138 := ⟨(-58), by decide +kernel, by decide, rfl⟩
theorem rX12_advance_138 : tq_D cX12_advance 138 (.aload_n 0) 1 139 := ⟨by decide +kernel, rfl⟩
theorem rX12_advance_139 : tq_D cX12_advance 139 (.aload_n 0) 1 140 := ⟨by decide +kernel, rfl⟩
theorem rX12_advance_140 : tq_D cX12_advance 140 (.getfield 77) 3 143 := ⟨by decide +kernel, rfl⟩
theorem rX12_advance_143 : tq_D cX12_advance 143 (.aload_n 0) 1 144 := ⟨by decide +kernel, rfl⟩
theorem rX12_advance_144 : tq_D cX12_advance 144 (.getfield 84) 3 147 := ⟨by decide +kernel, rfl⟩
theorem rX12_advance_147 : tq_D cX12_advance 147 (.isub) 1 148 := ⟨by decide +kernel, rfl⟩
theorem rX12_advance_148 : tq_D cX12_advance 148 (.bipush 8) 2 150 := ⟨by decide +kernel, rfl⟩
theorem rX12_advance_150 : tq_J cX12_advance 150 (.if_icmp .le) 158 153 := ⟨8, by decide +kernel, by decide, rfl⟩
theorem rX12_advance_153 : tq_D cX12_advance 153 (.bipush 99) 2 155 := ⟨by decide +kernel, rfl⟩
theorem rX12_advance_155 : tq_J cX12_advance 155 .goto 162 158 := ⟨7, by decide +kernel, by decide, rfl⟩
theorem rX12_advance_158 : tq_D cX12_advance 158 (.lload_n 2) 1 159 := ⟨by decide +kernel, rfl⟩
theorem rX12_advance_159 : tq_D cX12_advance 159 (.invokestatic 98) 3 162 := ⟨by decide +kernel, rfl⟩
theorem rX12_advance_162 : tq_D cX12_advance 162 (.putfield 102) 3 165 := ⟨by decide +kernel, rfl⟩
theorem rX12_advance_165 : tq_D cX12_advance 165 (.aload_n 0) 1 166 := ⟨by decide +kernel, rfl⟩
theorem rX12_advance_166 : tq_D cX12_advance 166 (.aload_n 0) 1 167 := ⟨by decide +kernel, rfl⟩
theorem rX12_advance_167 : tq_D cX12_advance 167 (.getfield 102) 3 170 := ⟨by decide +kernel, rfl⟩
theorem rX12_advance_170 : tq_D cX12_advance 170 (.bipush 99) 2 172 := ⟨by decide +kernel, rfl⟩
theorem rX12_advance_172 : tq_J cX12_advance 172 (.if_icmp .ne) 179 175 := ⟨7, by decide +kernel, by decide, rfl⟩
theorem rX12_advance_175 : tq_D cX12_advance 175 (.iconst 4) 1 176 := ⟨by decide +kernel, rfl⟩
theorem rX12_advance_176 : tq_J cX12_advance 176 .goto 180 179 := ⟨4, by decide +kernel, by decide, rfl⟩
theorem rX12_advance_179 : tq_D cX12_advance 179 (.iconst 3) 1 180 := ⟨by decide +kernel, rfl⟩
theorem rX12_advance_180 : tq_D cX12_advance 180 (.putfield 87) 3 183 := ⟨by decide +kernel, rfl⟩
theorem rX12_advance_183 : tq_J cX12_advance 183 .goto 311 186 := ⟨128, by decide +kernel, by decide, rfl⟩
theorem rX12_advance_186 : tq_D cX12_advance 186 (.iload_n 1) 1 187 := ⟨by decide +kernel, rfl⟩
theorem rX12_advance_187 : tq_D cX12_advance 187 (.invokestatic 105) 3 190 := ⟨by decide +kernel, rfl⟩
theorem rX12_advance_190 : tq_J cX12_advance 190 (.ifCond .eq) 286 193 := ⟨96, by decide +kernel, by decide, rfl⟩
theorem rX12_advance_193 : tq_D cX12_advance 193 (.aload_n 0) 1 194 := ⟨by decide +kernel, rfl⟩
theorem rX12_advance_194 : tq_D cX12_advance 194 (.iconst 0) 1 195 := ⟨by decide +kernel, rfl⟩
theorem rX12_advance_195 : tq_D cX12_advance 195 (.putfield 108) 3 198 := ⟨by decide +kernel, rfl⟩
theorem rX12_advance_198 : tq_D cX12_advance 198 (.aload_n 0) 1 199 := ⟨by decide +kernel, rfl⟩
theorem rX12_advance_199 : tq_D cX12_advance 199 (.aload_n 0) 1 200 := ⟨by decide +kernel, rfl⟩
theorem rX12_advance_200 : tq_D cX12_advance 200 (.getfield 77) 3 203 := ⟨by decide +kernel, rfl⟩
theorem rX12_advance_203 : tq_D cX12_advance 203 (.invokevirtual 80) 3 206 := ⟨by decide +kernel, rfl⟩
theorem rX12_advance_206 : tq_D cX12_advance 206 (.invokestatic 105) 3 209 := ⟨by decide +kernel, rfl⟩
theorem rX12_advance_209 : tq_J cX12_advance 209 (.ifCond .eq) 261 212 := ⟨52, by decide +kernel, by decide, rfl⟩
theorem rX12_advance_212 : tq_D cX12_advance 212 (.aload_n 0) 1 213 := ⟨by decide +kernel, rfl⟩
theorem rX12_advance_213 : tq_D cX12_advance 213 (.getfield 77) 3 216 := ⟨by decide +kernel, rfl⟩
theorem rX12_advance_216 : tq_D cX12_advance 216 (.aload_n 0) 1 217 := ⟨by decide +kernel, rfl⟩
theorem rX12_advance_217 : tq_D cX12_advance 217 (.getfield 84) 3 220 := ⟨by decide +kernel, rfl⟩
theorem rX12_advance_220 : tq_D cX12_advance 220 (.isub) 1 221 := ⟨by decide +kernel, rfl⟩
theorem rX12_advance_221 : tq_D cX12_advance 221 (.iconst 2) 1 222 := ⟨by decide +kernel, rfl⟩
theorem rX12_advance_222 : tq_J cX12_advance 222 (.if_icmp .ge) 248 225 := ⟨26, by decide +kernel, by decide, rfl⟩
theorem rX12_advance_225 : tq_D cX12_advance 225 (.aload_n 0) 1 226 := ⟨by decide +kernel, rfl⟩
theorem rX12_advance_226 : tq_D cX12_advance 226 (.bipush 10) 2 228 := ⟨by decide +kernel, rfl⟩
theorem rX12_advance_228 : tq_D cX12_advance 228 (.aload_n 0) 1 229 := ⟨by decide +kernel, rfl⟩
theorem rX12_advance_229 : tq_D cX12_advance 229 (.getfield 108) 3 232 := ⟨by decide +kernel, rfl⟩
theorem rX12_advance_232 : tq_D cX12_advance 232 (.imul) 1 233 := ⟨by decide +kernel, rfl⟩
theorem rX12_advance_233 : tq_D cX12_advance 233 (.aload_n 0) 1 234 := ⟨by decide +kernel, rfl⟩
theorem rX12_advance_234 : tq_D cX12_advance 234 (.aload_n 0) 1 235 := ⟨by decide +kernel, rfl⟩
theorem rX12_advance_235 : tq_D cX12_advance 235 (.getfield 77) 3 238 := ⟨by decide +kernel, rfl⟩
theorem rX12_advance_238 : tq_D cX12_advance 238 (.invokevirtual 80) 3 241 := ⟨by decide +kernel, rfl⟩
theorem rX12_advance_241 : tq_D cX12_advance 241 (.iadd) 1 242 := ⟨by decide +kernel, rfl⟩
theorem rX12_advance_242 : tq_D cX12_advance 242 (.bipush 48) 2 244 := ⟨by decide +kernel, rfl⟩
theorem rX12_advance_244 : tq_D cX12_advance 244 (.isub) 1 245 := ⟨by decide +kernel, rfl⟩
theorem rX12_advance_245 : tq_D cX12_advance 245 (.putfield 108) 3 248 := ⟨by decide +kernel, rfl⟩
theorem rX12_advance_248 : tq_D cX12_advance 248 (.aload_n 0) 1 249 := ⟨by decide +kernel, rfl⟩
theorem rX12_advance_249 : tq_D cX12_advance 249 (.dup) 1 250 := ⟨by decide +kernel, rfl⟩
theorem rX12_advance_250 : tq_D cX12_advance 250 (.getfield 77) 3 253 := ⟨by decide +kernel, rfl⟩
theorem rX12_advance_253 : tq_D cX12_advance 253 (.iconst 1) 1 254 := ⟨by decide +kernel, rfl⟩
theorem rX12_advance_254 : tq_D cX12_advance 254 (.iadd) 1 255 := ⟨by decide +kernel, rfl⟩
theorem rX12_advance_255 : tq_D cX12_advance 255 (.putfield 77) 3 258 := ⟨by decide +kernel, rfl⟩
theorem rX12_advance_258 : tq_J cX12_advance 258 .goto 198 261 := ⟨(-60), by decide +kernel, by decide, rfl⟩
theorem rX12_advance_261 : tq_D cX12_advance 261 (.aload_n 0) 1 262 := ⟨by decide +kernel, rfl⟩
theorem rX12_advance_262 : tq_D cX12_advance 262 (.aload_n 0) 1 263 := ⟨by decide +kernel, rfl⟩
theorem rX12_advance_263 : tq_D cX12_advance 263 (.getfield 77) 3 266 := ⟨by decide +kernel, rfl⟩
theorem rX12_advance_266 : tq_D cX12_advance 266 (.aload_n 0) 1 267 := ⟨by decide +kernel, rfl⟩
theorem rX12_advance_267 : tq_D cX12_advance 267 (.getfield 84) 3 270 := ⟨by decide +kernel, rfl⟩
theorem rX12_advance_270 : tq_D cX12_advance 270 (.isub) 1 271 := ⟨by decide +kernel, rfl⟩
theorem rX12_advance_271 : tq_D cX12_advance 271 (.iconst 2) 1 272 := ⟨by decide +kernel, rfl⟩
theorem rX12_advance_272 : tq_J cX12_advance 272 (.if_icmp .le) 279 275 := ⟨7, by decide +kernel, by decide, rfl⟩
theorem rX12_advance_275 : tq_D cX12_advance 275 (.iconst 4) 1 276 := ⟨by decide +kernel, rfl⟩
theorem rX12_advance_276 : tq_J cX12_advance 276 .goto 280 279 := ⟨4, by decide +kernel, by decide, rfl⟩
theorem rX12_advance_279 : tq_D cX12_advance 279 (.iconst 1) 1 280 := ⟨by decide +kernel, rfl⟩
theorem rX12_advance_280 : tq_D cX12_advance 280 (.putfield 87) 3 283 := ⟨by decide +kernel, rfl⟩
theorem rX12_advance_283 : tq_J cX12_advance 283 .goto 311 286 := ⟨28, by decide +kernel, by decide, rfl⟩
theorem rX12_advance_286 : tq_D cX12_advance 286 (.aload_n 0) 1 287 := ⟨by decide +kernel, rfl⟩
theorem rX12_advance_287 : tq_D cX12_advance 287 (.dup) 1 288 := ⟨by decide +kernel, rfl⟩
theorem rX12_advance_288 : tq_D cX12_advance 288 (.getfield 77) 3 291 := ⟨by decide +kernel, rfl⟩
theorem rX12_advance_291 : tq_D cX12_advance 291 (.iconst 1) 1 292 := ⟨by decide +kernel, rfl⟩
theorem rX12_advance_292 : tq_D cX12_advance 292 (.iadd) 1 293 := ⟨by decide +kernel, rfl⟩
theorem rX12_advance_293 : tq_D cX12_advance 293 (.putfield 77) 3 296 := ⟨by decide +kernel, rfl⟩
theorem rX12_advance_296 : tq_D cX12_advance 296 (.aload_n 0) 1 297 := ⟨by decide +kernel, rfl⟩
theorem rX12_advance_297 : tq_D cX12_advance 297 (.iload_n 1) 1 298 := ⟨by decide +kernel, rfl⟩
theorem rX12_advance_298 : tq_D cX12_advance 298 (.bipush 59) 2 300 := ⟨by decide +kernel, rfl⟩
theorem rX12_advance_300 : tq_J cX12_advance 300 (.if_icmp .ne) 307 303 := ⟨7, by decide +kernel, by decide, rfl⟩
theorem rX12_advance_303 : tq_D cX12_advance 303 (.iconst 2) 1 304 := ⟨by decide +kernel, rfl⟩
theorem rX12_advance_304 : tq_J cX12_advance 304 .goto 308 307 := ⟨4, by decide +kernel, by decide, rfl⟩
theorem rX12_advance_307 : tq_D cX12_advance 307 (.iconst 4) 1 308 := ⟨by decide +kernel, rfl⟩
theorem rX12_advance_308 : tq_D cX12_advance 308 (.putfield 87) 3 311 := ⟨by decide +kernel, rfl⟩
theorem rX12_advance_311 : decode cX12_advance 311 = .ok (.return_, 1) := by decide +kernel
noncomputable def FX12_advance_j26L0 (I : tq_PI) (L : tq_PL) (a0 : Nat) : Option ((tq_PI) ⊕ (tq_PI)) :=
  some (.inl (tq_up2 I a0 3 ((I a0 3) + (1 : Int32))))
noncomputable def FX12_advance_s0 (I : tq_PI) (L : tq_PL) (a0 : Nat) : Option ((tq_PI) ⊕ (tq_PI)) :=
  ((FX12_byteAt I L a0 ((I a0 3))).bind fun p1 => (if p1 = (10 : Int32) then (FX12_advance_j26L0 I L a0) else ((FX12_byteAt I L a0 ((I a0 3))).bind fun p3 => (if p3 = (32 : Int32) then (FX12_advance_j26L0 I L a0) else some (.inr I)))))
noncomputable def FX12_advance_j308 (I : tq_PI) (L : tq_PL) (b0 : Int32) (b1 : Nat) : Option (tq_PI) :=
  some (tq_up2 I b1 5 b0)
noncomputable def FX12_advance_j248L198 (I : tq_PI) (L : tq_PL) (a0 : Nat) : Option ((tq_PI) ⊕ (tq_PI)) :=
  some (.inl (tq_up2 I a0 3 ((I a0 3) + (1 : Int32))))
noncomputable def FX12_advance_s198 (I : tq_PI) (L : tq_PL) (a0 : Nat) : Option ((tq_PI) ⊕ (tq_PI)) :=
  ((FX12_byteAt I L a0 ((I a0 3))).bind fun p13 => (tq_let (FX12_isDigit I L p13) fun p14 => (if (tq_b p14) = 0 then some (.inr I) else (if (2 : Int32) ≤ ((I a0 3) - (I a0 4)) then (FX12_advance_j248L198 I L a0) else ((FX12_byteAt I L a0 ((I a0 3))).bind fun p17 => (FX12_advance_j248L198 ((tq_up2 I a0 6 ((((10 : Int32) * (I a0 6)) + p17) - (48 : Int32)))) L a0))))))
noncomputable def FX12_advance_j280 (I : tq_PI) (L : tq_PL) (b0 : Int32) (b1 : Nat) : Option (tq_PI) :=
  some (tq_up2 I b1 5 b0)
noncomputable def FX12_advance_j125L77 (I : tq_PI) (L : tq_PL) (a0 : Nat) (a2 : Int64) : Option ((Int64 × tq_PI) ⊕ (Int64 × tq_PI)) :=
  some (.inl (a2, (tq_up2 I a0 3 ((I a0 3) + (1 : Int32)))))
noncomputable def FX12_advance_s77 (I : tq_PI) (L : tq_PL) (a0 : Nat) (a2 : Int64) : Option ((Int64 × tq_PI) ⊕ (Int64 × tq_PI)) :=
  ((FX12_byteAt I L a0 ((I a0 3))).bind fun p20 => (tq_let (FX12_isLetter I L p20) fun p21 => (if (tq_b p21) = 0 then some (.inr (a2, I)) else (if (8 : Int32) ≤ ((I a0 3) - (I a0 4)) then (FX12_advance_j125L77 I L a0 a2) else ((FX12_byteAt I L a0 ((I a0 3))).bind fun p24 => (FX12_advance_j125L77 I L a0 (((((32 : Int64) * a2) + (Int32.toInt64 p24)) - (96 : Int64)))))))))
noncomputable def FX12_advance_j180 (I : tq_PI) (L : tq_PL) (b0 : Int32) (b1 : Nat) : Option (tq_PI) :=
  some (tq_up2 I b1 5 b0)
noncomputable def FX12_advance_j162 (I : tq_PI) (L : tq_PL) (a0 : Nat) (b0 : Int32) (b1 : Nat) : Option (tq_PI) :=
  (if (((tq_up2 I b1 7 b0)) a0 7) = (99 : Int32) then (FX12_advance_j180 ((tq_up2 I b1 7 b0)) L ((4 : Int32)) a0) else (FX12_advance_j180 ((tq_up2 I b1 7 b0)) L ((3 : Int32)) a0))
noncomputable def FX12_advance (I : tq_PI) (L : tq_PL) (a0 : Nat) : Option (tq_PI) :=
  ((tq_it (fun p : tq_PI => FX12_advance_s0 p L a0 ) tq_N I).bind fun p5 => ((FX12_byteAt ((tq_up2 p5 a0 4 (p5 a0 3))) L a0 ((((tq_up2 p5 a0 4 (p5 a0 3))) a0 3))).bind fun p6 => (if 0 ≤ p6 then (tq_let (FX12_isLetter ((tq_up2 p5 a0 4 (p5 a0 3))) L p6) fun p8 => (if (tq_b p8) = 0 then (tq_let (FX12_isDigit ((tq_up2 p5 a0 4 (p5 a0 3))) L p6) fun p10 => (if (tq_b p10) = 0 then (if p6 = (59 : Int32) then (FX12_advance_j308 ((tq_up2 (tq_up2 p5 a0 4 (p5 a0 3)) a0 3 ((((tq_up2 p5 a0 4 (p5 a0 3))) a0 3) + (1 : Int32)))) L ((2 : Int32)) a0) else (FX12_advance_j308 ((tq_up2 (tq_up2 p5 a0 4 (p5 a0 3)) a0 3 ((((tq_up2 p5 a0 4 (p5 a0 3))) a0 3) + (1 : Int32)))) L ((4 : Int32)) a0)) else ((tq_it (fun p : tq_PI => FX12_advance_s198 p L a0 ) tq_N (tq_up2 (tq_up2 p5 a0 4 (p5 a0 3)) a0 6 (0 : Int32))).bind fun p18 => (if ((p18 a0 3) - (p18 a0 4)) ≤ (2 : Int32) then (FX12_advance_j280 p18 L ((1 : Int32)) a0) else (FX12_advance_j280 p18 L ((4 : Int32)) a0))))) else ((tq_it (fun p : Int64 × tq_PI => FX12_advance_s77 p.2 L a0 p.1) tq_N ((0 : Int64), (tq_up2 p5 a0 4 (p5 a0 3)))).bind fun p25 => (if ((p25.2 a0 3) - (p25.2 a0 4)) ≤ (8 : Int32) then (tq_let (FX12_wordOf p25.2 L p25.1) fun p27 => (FX12_advance_j162 p25.2 L a0 p27 a0)) else (FX12_advance_j162 p25.2 L a0 ((99 : Int32)) a0))))) else some (tq_up2 (tq_up2 p5 a0 4 (p5 a0 3)) a0 5 (0 : Int32)))))
set_option maxRecDepth 100000 in
set_option maxHeartbeats 4000000 in
theorem FX12_advance_j26L0_x {S : Nat × (Nat → Int32)} {d : Nat} {I : tq_PI} {L : tq_PL} {a0 : Nat} (h0 : tq_sh0 a0 = 12) {q0 : Option Value → tq_PI → tq_PL → Prop} {out : (tq_PI) ⊕ (tq_PI)} (hf : FX12_advance_j26L0 I L a0 = some out) (hk : Sum.elim (fun p : tq_PI => tq_X S mX12_advance (d + 3) tq_k0 0 ([.ref a0, tq_u, tq_u, tq_u]) [] (tq_st p L) (tq_Q q0)) (fun p : tq_PI => tq_X S mX12_advance (d + 3) tq_k0 39 ([.ref a0, tq_u, tq_u, tq_u]) [] (tq_st p L) (tq_Q q0)) out) : tq_X S mX12_advance (d + 3) tq_k0 26 ([.ref a0, tq_u, tq_u, tq_u]) ([]) (tq_st I L) (tq_Q q0) := by
  unfold FX12_advance_j26L0 at hf
  refine tq_aload_n rX12_advance_26 rfl ?_
  refine tq_dup rX12_advance_27 rfl ?_
  refine ty_getI rX12_advance_28 f_X12_77 rfl h0 ?_
  refine tq_iconst (1 : Int32) rX12_advance_31 (by decide) ?_
  refine tq_iadd rX12_advance_32 ?_
  refine ty_putI rX12_advance_33 f_X12_77 rfl h0 rfl ?_
  refine tq_goto rX12_advance_36 ?_
  have hf := Option.some.inj hf
  subst hf
  exact tq_forget _ (tq_le_s (tq_le_u (tq_le_u (tq_le_u tq_le_n)))) hk

set_option maxRecDepth 100000 in
set_option maxHeartbeats 4000000 in
theorem FX12_advance_s0_x {S : Nat × (Nat → Int32)} {d : Nat} {I : tq_PI} {L : tq_PL} {a0 : Nat} (h0 : tq_sh0 a0 = 12) {q0 : Option Value → tq_PI → tq_PL → Prop} {out : (tq_PI) ⊕ (tq_PI)} (hf : FX12_advance_s0 I L a0 = some out) (hk : Sum.elim (fun p : tq_PI => tq_X S mX12_advance (d + 3) tq_k0 0 ([.ref a0, tq_u, tq_u, tq_u]) [] (tq_st p L) (tq_Q q0)) (fun p : tq_PI => tq_X S mX12_advance (d + 3) tq_k0 39 ([.ref a0, tq_u, tq_u, tq_u]) [] (tq_st p L) (tq_Q q0)) out) : tq_X S mX12_advance (d + 3) tq_k0 0 ([.ref a0, tq_u, tq_u, tq_u]) [] (tq_st I L) (tq_Q q0) := by
  unfold FX12_advance_s0 at hf
  refine tq_aload_n rX12_advance_0 rfl ?_
  refine tq_aload_n rX12_advance_1 rfl ?_
  refine ty_getI rX12_advance_2 f_X12_77 rfl h0 ?_
  obtain ⟨p1, e1, hf⟩ := Option.bind_eq_some_iff.mp hf
  refine ty_callVI p1 ([.int (I a0 3)]) ([]) rX12_advance_5 l_X12_80 moX12_byteAt mvX12_byteAt h0 rfl rfl (Nat.le_of_ble_eq_true rfl) ⟨rfl, rfl⟩ (CX12_byteAt h0 e1) ?_
  refine tq_bipush (10 : Int32) rX12_advance_8 (by decide) ?_
  refine tq_icmp_eq rX12_advance_10 (fun c2 => ?_) (fun c2 => ?_)
  · rw [if_pos c2] at hf
    exact tq_forget _ (tq_le_s (tq_le_u (tq_le_u (tq_le_u tq_le_n)))) (FX12_advance_j26L0_x  h0 hf hk)
  · rw [if_neg c2] at hf
    refine tq_aload_n rX12_advance_13 rfl ?_
    refine tq_aload_n rX12_advance_14 rfl ?_
    refine ty_getI rX12_advance_15 f_X12_77 rfl h0 ?_
    obtain ⟨p3, e3, hf⟩ := Option.bind_eq_some_iff.mp hf
    refine ty_callVI p3 ([.int (I a0 3)]) ([]) rX12_advance_18 l_X12_80 moX12_byteAt mvX12_byteAt h0 rfl rfl (Nat.le_of_ble_eq_true rfl) ⟨rfl, rfl⟩ (CX12_byteAt h0 e3) ?_
    refine tq_bipush (32 : Int32) rX12_advance_21 (by decide) ?_
    refine tq_icmp_ne rX12_advance_23 (fun c4 => ?_) (fun c4 => ?_)
    · rw [if_neg c4] at hf
      have hf := Option.some.inj hf
      subst hf
      exact tq_forget _ (tq_le_s (tq_le_u (tq_le_u (tq_le_u tq_le_n)))) hk
    · rw [if_pos c4] at hf
      exact tq_forget _ (tq_le_s (tq_le_u (tq_le_u (tq_le_u tq_le_n)))) (FX12_advance_j26L0_x  h0 hf hk)

set_option maxRecDepth 100000 in
set_option maxHeartbeats 4000000 in
theorem FX12_advance_j308_x {S : Nat × (Nat → Int32)} {d : Nat} {I : tq_PI} {L : tq_PL} {b0 : Int32} {b1 : Nat} (k1 : tq_sh0 b1 = 12) {q0 : Option Value → tq_PI → tq_PL → Prop} {out : tq_PI} (hf : FX12_advance_j308 I L b0 b1 = some out) (hk : q0 none out L) : tq_X S mX12_advance (d + 3) tq_k0 308 ([tq_u, tq_u, tq_u, tq_u]) ([.int b0, .ref b1]) (tq_st I L) (tq_Q q0) := by
  unfold FX12_advance_j308 at hf
  refine ty_putI rX12_advance_308 f_X12_87 rfl k1 rfl ?_
  refine ty_vret rX12_advance_311 rfl rfl ?_
  have hf := Option.some.inj hf
  subst hf
  exact hk

set_option maxRecDepth 100000 in
set_option maxHeartbeats 4000000 in
theorem FX12_advance_j248L198_x {S : Nat × (Nat → Int32)} {d : Nat} {I : tq_PI} {L : tq_PL} {a0 : Nat} (h0 : tq_sh0 a0 = 12) {q0 : Option Value → tq_PI → tq_PL → Prop} {out : (tq_PI) ⊕ (tq_PI)} (hf : FX12_advance_j248L198 I L a0 = some out) (hk : Sum.elim (fun p : tq_PI => tq_X S mX12_advance (d + 3) tq_k0 198 ([.ref a0, tq_u, tq_u, tq_u]) [] (tq_st p L) (tq_Q q0)) (fun p : tq_PI => tq_X S mX12_advance (d + 3) tq_k0 261 ([.ref a0, tq_u, tq_u, tq_u]) [] (tq_st p L) (tq_Q q0)) out) : tq_X S mX12_advance (d + 3) tq_k0 248 ([.ref a0, tq_u, tq_u, tq_u]) ([]) (tq_st I L) (tq_Q q0) := by
  unfold FX12_advance_j248L198 at hf
  refine tq_aload_n rX12_advance_248 rfl ?_
  refine tq_dup rX12_advance_249 rfl ?_
  refine ty_getI rX12_advance_250 f_X12_77 rfl h0 ?_
  refine tq_iconst (1 : Int32) rX12_advance_253 (by decide) ?_
  refine tq_iadd rX12_advance_254 ?_
  refine ty_putI rX12_advance_255 f_X12_77 rfl h0 rfl ?_
  refine tq_goto rX12_advance_258 ?_
  have hf := Option.some.inj hf
  subst hf
  exact tq_forget _ (tq_le_s (tq_le_u (tq_le_u (tq_le_u tq_le_n)))) hk

set_option maxRecDepth 100000 in
set_option maxHeartbeats 4000000 in
theorem FX12_advance_s198_x {S : Nat × (Nat → Int32)} {d : Nat} {I : tq_PI} {L : tq_PL} {a0 : Nat} (h0 : tq_sh0 a0 = 12) {q0 : Option Value → tq_PI → tq_PL → Prop} {out : (tq_PI) ⊕ (tq_PI)} (hf : FX12_advance_s198 I L a0 = some out) (hk : Sum.elim (fun p : tq_PI => tq_X S mX12_advance (d + 3) tq_k0 198 ([.ref a0, tq_u, tq_u, tq_u]) [] (tq_st p L) (tq_Q q0)) (fun p : tq_PI => tq_X S mX12_advance (d + 3) tq_k0 261 ([.ref a0, tq_u, tq_u, tq_u]) [] (tq_st p L) (tq_Q q0)) out) : tq_X S mX12_advance (d + 3) tq_k0 198 ([.ref a0, tq_u, tq_u, tq_u]) [] (tq_st I L) (tq_Q q0) := by
  unfold FX12_advance_s198 at hf
  refine tq_aload_n rX12_advance_198 rfl ?_
  refine tq_aload_n rX12_advance_199 rfl ?_
  refine ty_getI rX12_advance_200 f_X12_77 rfl h0 ?_
  obtain ⟨p13, e13, hf⟩ := Option.bind_eq_some_iff.mp hf
  refine ty_callVI p13 ([.int (I a0 3)]) ([]) rX12_advance_203 l_X12_80 moX12_byteAt mvX12_byteAt h0 rfl rfl (Nat.le_of_ble_eq_true rfl) ⟨rfl, rfl⟩ (CX12_byteAt h0 e13) ?_
  obtain ⟨p14, e14, hf⟩ := tq_let_elim hf
  refine ty_callSI (tq_b p14) ([.int p13]) ([]) rX12_advance_206 l_X12_105 moX12_isDigit msX12_isDigit rfl rfl (Nat.le_of_ble_eq_true rfl) ⟨rfl, rfl⟩ (CX12_isDigit  e14) ?_
  refine tq_if_eq rX12_advance_209 (fun c15 => ?_) (fun c15 => ?_)
  · rw [if_pos c15] at hf
    have hf := Option.some.inj hf
    subst hf
    exact tq_forget _ (tq_le_s (tq_le_u (tq_le_u (tq_le_u tq_le_n)))) hk
  · rw [if_neg c15] at hf
    refine tq_aload_n rX12_advance_212 rfl ?_
    refine ty_getI rX12_advance_213 f_X12_77 rfl h0 ?_
    refine tq_aload_n rX12_advance_216 rfl ?_
    refine ty_getI rX12_advance_217 f_X12_84 rfl h0 ?_
    refine tq_isub rX12_advance_220 ?_
    refine tq_iconst (2 : Int32) rX12_advance_221 (by decide) ?_
    refine tq_icmp_ge rX12_advance_222 (fun c16 => ?_) (fun c16 => ?_)
    · rw [if_pos c16] at hf
      exact tq_forget _ (tq_le_s (tq_le_u (tq_le_u (tq_le_u tq_le_n)))) (FX12_advance_j248L198_x  h0 hf hk)
    · rw [if_neg c16] at hf
      refine tq_aload_n rX12_advance_225 rfl ?_
      refine tq_bipush (10 : Int32) rX12_advance_226 (by decide) ?_
      refine tq_aload_n rX12_advance_228 rfl ?_
      refine ty_getI rX12_advance_229 f_X12_108 rfl h0 ?_
      refine tq_imul rX12_advance_232 ?_
      refine tq_aload_n rX12_advance_233 rfl ?_
      refine tq_aload_n rX12_advance_234 rfl ?_
      refine ty_getI rX12_advance_235 f_X12_77 rfl h0 ?_
      obtain ⟨p17, e17, hf⟩ := Option.bind_eq_some_iff.mp hf
      refine ty_callVI p17 ([.int (I a0 3)]) ([.int ((10 : Int32) * (I a0 6)), .ref a0]) rX12_advance_238 l_X12_80 moX12_byteAt mvX12_byteAt h0 rfl rfl (Nat.le_of_ble_eq_true rfl) ⟨rfl, rfl⟩ (CX12_byteAt h0 e17) ?_
      refine tq_iadd rX12_advance_241 ?_
      refine tq_bipush (48 : Int32) rX12_advance_242 (by decide) ?_
      refine tq_isub rX12_advance_244 ?_
      refine ty_putI rX12_advance_245 f_X12_108 rfl h0 rfl ?_
      exact tq_forget _ (tq_le_s (tq_le_u (tq_le_u (tq_le_u tq_le_n)))) (FX12_advance_j248L198_x  h0 hf hk)

set_option maxRecDepth 100000 in
set_option maxHeartbeats 4000000 in
theorem FX12_advance_j280_x {S : Nat × (Nat → Int32)} {d : Nat} {I : tq_PI} {L : tq_PL} {b0 : Int32} {b1 : Nat} (k1 : tq_sh0 b1 = 12) {q0 : Option Value → tq_PI → tq_PL → Prop} {out : tq_PI} (hf : FX12_advance_j280 I L b0 b1 = some out) (hk : q0 none out L) : tq_X S mX12_advance (d + 3) tq_k0 280 ([tq_u, tq_u, tq_u, tq_u]) ([.int b0, .ref b1]) (tq_st I L) (tq_Q q0) := by
  unfold FX12_advance_j280 at hf
  refine ty_putI rX12_advance_280 f_X12_87 rfl k1 rfl ?_
  refine tq_goto rX12_advance_283 ?_
  refine ty_vret rX12_advance_311 rfl rfl ?_
  have hf := Option.some.inj hf
  subst hf
  exact hk

set_option maxRecDepth 100000 in
set_option maxHeartbeats 4000000 in
theorem FX12_advance_j125L77_x {S : Nat × (Nat → Int32)} {d : Nat} {I : tq_PI} {L : tq_PL} {a0 : Nat} {a2 : Int64} (h0 : tq_sh0 a0 = 12) {q0 : Option Value → tq_PI → tq_PL → Prop} {out : (Int64 × tq_PI) ⊕ (Int64 × tq_PI)} (hf : FX12_advance_j125L77 I L a0 a2 = some out) (hk : Sum.elim (fun p : Int64 × tq_PI => tq_X S mX12_advance (d + 3) tq_k0 77 ([.ref a0, tq_u, .long p.1, tq_u]) [] (tq_st p.2 L) (tq_Q q0)) (fun p : Int64 × tq_PI => tq_X S mX12_advance (d + 3) tq_k0 138 ([.ref a0, tq_u, .long p.1, tq_u]) [] (tq_st p.2 L) (tq_Q q0)) out) : tq_X S mX12_advance (d + 3) tq_k0 125 ([.ref a0, tq_u, .long a2, tq_u]) ([]) (tq_st I L) (tq_Q q0) := by
  unfold FX12_advance_j125L77 at hf
  refine tq_aload_n rX12_advance_125 rfl ?_
  refine tq_dup rX12_advance_126 rfl ?_
  refine ty_getI rX12_advance_127 f_X12_77 rfl h0 ?_
  refine tq_iconst (1 : Int32) rX12_advance_130 (by decide) ?_
  refine tq_iadd rX12_advance_131 ?_
  refine ty_putI rX12_advance_132 f_X12_77 rfl h0 rfl ?_
  refine tq_goto rX12_advance_135 ?_
  have hf := Option.some.inj hf
  subst hf
  exact tq_forget _ (tq_le_s (tq_le_u (tq_le_s (tq_le_u tq_le_n)))) hk

set_option maxRecDepth 100000 in
set_option maxHeartbeats 4000000 in
theorem FX12_advance_s77_x {S : Nat × (Nat → Int32)} {d : Nat} {I : tq_PI} {L : tq_PL} {a0 : Nat} {a2 : Int64} (h0 : tq_sh0 a0 = 12) {q0 : Option Value → tq_PI → tq_PL → Prop} {out : (Int64 × tq_PI) ⊕ (Int64 × tq_PI)} (hf : FX12_advance_s77 I L a0 a2 = some out) (hk : Sum.elim (fun p : Int64 × tq_PI => tq_X S mX12_advance (d + 3) tq_k0 77 ([.ref a0, tq_u, .long p.1, tq_u]) [] (tq_st p.2 L) (tq_Q q0)) (fun p : Int64 × tq_PI => tq_X S mX12_advance (d + 3) tq_k0 138 ([.ref a0, tq_u, .long p.1, tq_u]) [] (tq_st p.2 L) (tq_Q q0)) out) : tq_X S mX12_advance (d + 3) tq_k0 77 ([.ref a0, tq_u, .long a2, tq_u]) [] (tq_st I L) (tq_Q q0) := by
  unfold FX12_advance_s77 at hf
  refine tq_aload_n rX12_advance_77 rfl ?_
  refine tq_aload_n rX12_advance_78 rfl ?_
  refine ty_getI rX12_advance_79 f_X12_77 rfl h0 ?_
  obtain ⟨p20, e20, hf⟩ := Option.bind_eq_some_iff.mp hf
  refine ty_callVI p20 ([.int (I a0 3)]) ([]) rX12_advance_82 l_X12_80 moX12_byteAt mvX12_byteAt h0 rfl rfl (Nat.le_of_ble_eq_true rfl) ⟨rfl, rfl⟩ (CX12_byteAt h0 e20) ?_
  obtain ⟨p21, e21, hf⟩ := tq_let_elim hf
  refine ty_callSI (tq_b p21) ([.int p20]) ([]) rX12_advance_85 l_X12_90 moX12_isLetter msX12_isLetter rfl rfl (Nat.le_of_ble_eq_true rfl) ⟨rfl, rfl⟩ (CX12_isLetter  e21) ?_
  refine tq_if_eq rX12_advance_88 (fun c22 => ?_) (fun c22 => ?_)
  · rw [if_pos c22] at hf
    have hf := Option.some.inj hf
    subst hf
    exact tq_forget _ (tq_le_s (tq_le_u (tq_le_s (tq_le_u tq_le_n)))) hk
  · rw [if_neg c22] at hf
    refine tq_aload_n rX12_advance_91 rfl ?_
    refine ty_getI rX12_advance_92 f_X12_77 rfl h0 ?_
    refine tq_aload_n rX12_advance_95 rfl ?_
    refine ty_getI rX12_advance_96 f_X12_84 rfl h0 ?_
    refine tq_isub rX12_advance_99 ?_
    refine tq_bipush (8 : Int32) rX12_advance_100 (by decide) ?_
    refine tq_icmp_ge rX12_advance_102 (fun c23 => ?_) (fun c23 => ?_)
    · rw [if_pos c23] at hf
      exact tq_forget _ (tq_le_s (tq_le_u (tq_le_s (tq_le_u tq_le_n)))) (FX12_advance_j125L77_x  h0 hf hk)
    · rw [if_neg c23] at hf
      refine tq_ldc2 rX12_advance_105 (k_X12_94) ?_
      refine tq_lload_n rX12_advance_108 rfl ?_
      refine tq_lmul rX12_advance_109 ?_
      refine tq_aload_n rX12_advance_110 rfl ?_
      refine tq_aload_n rX12_advance_111 rfl ?_
      refine ty_getI rX12_advance_112 f_X12_77 rfl h0 ?_
      obtain ⟨p24, e24, hf⟩ := Option.bind_eq_some_iff.mp hf
      refine ty_callVI p24 ([.int (I a0 3)]) ([.long ((32 : Int64) * a2)]) rX12_advance_115 l_X12_80 moX12_byteAt mvX12_byteAt h0 rfl rfl (Nat.le_of_ble_eq_true rfl) ⟨rfl, rfl⟩ (CX12_byteAt h0 e24) ?_
      refine tq_i2l rX12_advance_118 ?_
      refine tq_ladd rX12_advance_119 ?_
      refine tq_ldc2 rX12_advance_120 (k_X12_96) ?_
      refine tq_lsub rX12_advance_123 ?_
      refine tq_lstore_n ([.ref a0, tq_u, .long ((((32 : Int64) * a2) + (Int32.toInt64 p24)) - (96 : Int64)), tq_u]) rX12_advance_124 (Nat.le_of_ble_eq_true rfl) rfl ?_
      exact tq_forget _ (tq_le_s (tq_le_u (tq_le_s (tq_le_u tq_le_n)))) (FX12_advance_j125L77_x  h0 hf hk)

set_option maxRecDepth 100000 in
set_option maxHeartbeats 4000000 in
theorem FX12_advance_j180_x {S : Nat × (Nat → Int32)} {d : Nat} {I : tq_PI} {L : tq_PL} {b0 : Int32} {b1 : Nat} (k1 : tq_sh0 b1 = 12) {q0 : Option Value → tq_PI → tq_PL → Prop} {out : tq_PI} (hf : FX12_advance_j180 I L b0 b1 = some out) (hk : q0 none out L) : tq_X S mX12_advance (d + 3) tq_k0 180 ([tq_u, tq_u, tq_u, tq_u]) ([.int b0, .ref b1]) (tq_st I L) (tq_Q q0) := by
  unfold FX12_advance_j180 at hf
  refine ty_putI rX12_advance_180 f_X12_87 rfl k1 rfl ?_
  refine tq_goto rX12_advance_183 ?_
  refine ty_vret rX12_advance_311 rfl rfl ?_
  have hf := Option.some.inj hf
  subst hf
  exact hk

set_option maxRecDepth 100000 in
set_option maxHeartbeats 4000000 in
theorem FX12_advance_j162_x {S : Nat × (Nat → Int32)} {d : Nat} {I : tq_PI} {L : tq_PL} {a0 : Nat} {b0 : Int32} {b1 : Nat} (h0 : tq_sh0 a0 = 12) (k1 : tq_sh0 b1 = 12) {q0 : Option Value → tq_PI → tq_PL → Prop} {out : tq_PI} (hf : FX12_advance_j162 I L a0 b0 b1 = some out) (hk : q0 none out L) : tq_X S mX12_advance (d + 3) tq_k0 162 ([.ref a0, tq_u, tq_u, tq_u]) ([.int b0, .ref b1]) (tq_st I L) (tq_Q q0) := by
  unfold FX12_advance_j162 at hf
  refine ty_putI rX12_advance_162 f_X12_102 rfl k1 rfl ?_
  refine tq_aload_n rX12_advance_165 rfl ?_
  refine tq_aload_n rX12_advance_166 rfl ?_
  refine ty_getI rX12_advance_167 f_X12_102 rfl h0 ?_
  refine tq_bipush (99 : Int32) rX12_advance_170 (by decide) ?_
  refine tq_icmp_ne rX12_advance_172 (fun c28 => ?_) (fun c28 => ?_)
  · rw [if_neg c28] at hf
    refine tq_iconst (3 : Int32) rX12_advance_179 (by decide) ?_
    exact tq_forget _ (tq_le_u (tq_le_u (tq_le_u (tq_le_u tq_le_n)))) (FX12_advance_j180_x  h0 hf hk)
  · rw [if_pos c28] at hf
    refine tq_iconst (4 : Int32) rX12_advance_175 (by decide) ?_
    refine tq_goto rX12_advance_176 ?_
    exact tq_forget _ (tq_le_u (tq_le_u (tq_le_u (tq_le_u tq_le_n)))) (FX12_advance_j180_x  h0 hf hk)

set_option maxRecDepth 100000 in
set_option maxHeartbeats 4000000 in
theorem CX12_advance {S : Nat × (Nat → Int32)} {d : Nat} {I : tq_PI} {L : tq_PL} {a0 : Nat} (h0 : tq_sh0 a0 = 12) {out : tq_PI} (hf : FX12_advance I L a0 = some out) : tq_K S mX12_advance (d + 3) [.ref a0] I L (tq_one2 (none) out L) := by
  unfold FX12_advance at hf
  refine tq_K_of (by decide) (Nat.le_of_ble_eq_true rfl) (ls := [.ref a0, tq_u, tq_u, tq_u]) rfl ?_
  obtain ⟨p5, e5, hf⟩ := Option.bind_eq_some_iff.mp hf
  refine tq_forget _ (tq_le_s (tq_le_u (tq_le_u (tq_le_u tq_le_n)))) ?_
  refine tq_it_elim (P := fun p : tq_PI => tq_X S mX12_advance (d + 3) tq_k0 0 ([.ref a0, tq_u, tq_u, tq_u]) [] (tq_st p L) (tq_Q (tq_one2 (none) out L))) (R := fun p : tq_PI => tq_X S mX12_advance (d + 3) tq_k0 39 ([.ref a0, tq_u, tq_u, tq_u]) [] (tq_st p L) (tq_Q (tq_one2 (none) out L))) (fun p o hp hk => FX12_advance_s0_x  h0 hp hk) _ (I) _ e5 ?_
  show tq_X _ _ _ _ _ _ _ _ _
  refine tq_aload_n rX12_advance_39 rfl ?_
  refine tq_aload_n rX12_advance_40 rfl ?_
  refine ty_getI rX12_advance_41 f_X12_77 rfl h0 ?_
  refine ty_putI rX12_advance_44 f_X12_84 rfl h0 rfl ?_
  refine tq_aload_n rX12_advance_47 rfl ?_
  refine tq_aload_n rX12_advance_48 rfl ?_
  refine ty_getI rX12_advance_49 f_X12_77 rfl h0 ?_
  obtain ⟨p6, e6, hf⟩ := Option.bind_eq_some_iff.mp hf
  refine ty_callVI p6 ([.int (((tq_up2 p5 a0 4 (p5 a0 3))) a0 3)]) ([]) rX12_advance_52 l_X12_80 moX12_byteAt mvX12_byteAt h0 rfl rfl (Nat.le_of_ble_eq_true rfl) ⟨rfl, rfl⟩ (CX12_byteAt h0 e6) ?_
  refine tq_istore_n ([.ref a0, .int p6, tq_u, tq_u]) rX12_advance_55 (Nat.le_of_ble_eq_true rfl) rfl ?_
  refine tq_iload_n rX12_advance_56 rfl ?_
  refine tq_if_ge rX12_advance_57 (fun c7 => ?_) (fun c7 => ?_)
  · rw [if_pos c7] at hf
    refine tq_iload_n rX12_advance_68 rfl ?_
    obtain ⟨p8, e8, hf⟩ := tq_let_elim hf
    refine ty_callSI (tq_b p8) ([.int p6]) ([]) rX12_advance_69 l_X12_90 moX12_isLetter msX12_isLetter rfl rfl (Nat.le_of_ble_eq_true rfl) ⟨rfl, rfl⟩ (CX12_isLetter  e8) ?_
    refine tq_if_eq rX12_advance_72 (fun c9 => ?_) (fun c9 => ?_)
    · rw [if_pos c9] at hf
      refine tq_iload_n rX12_advance_186 rfl ?_
      obtain ⟨p10, e10, hf⟩ := tq_let_elim hf
      refine ty_callSI (tq_b p10) ([.int p6]) ([]) rX12_advance_187 l_X12_105 moX12_isDigit msX12_isDigit rfl rfl (Nat.le_of_ble_eq_true rfl) ⟨rfl, rfl⟩ (CX12_isDigit  e10) ?_
      refine tq_if_eq rX12_advance_190 (fun c11 => ?_) (fun c11 => ?_)
      · rw [if_pos c11] at hf
        refine tq_aload_n rX12_advance_286 rfl ?_
        refine tq_dup rX12_advance_287 rfl ?_
        refine ty_getI rX12_advance_288 f_X12_77 rfl h0 ?_
        refine tq_iconst (1 : Int32) rX12_advance_291 (by decide) ?_
        refine tq_iadd rX12_advance_292 ?_
        refine ty_putI rX12_advance_293 f_X12_77 rfl h0 rfl ?_
        refine tq_aload_n rX12_advance_296 rfl ?_
        refine tq_iload_n rX12_advance_297 rfl ?_
        refine tq_bipush (59 : Int32) rX12_advance_298 (by decide) ?_
        refine tq_icmp_ne rX12_advance_300 (fun c12 => ?_) (fun c12 => ?_)
        · rw [if_neg c12] at hf
          refine tq_iconst (4 : Int32) rX12_advance_307 (by decide) ?_
          exact tq_forget _ (tq_le_u (tq_le_u (tq_le_u (tq_le_u tq_le_n)))) (FX12_advance_j308_x  h0 hf ⟨rfl, rfl, rfl⟩)
        · rw [if_pos c12] at hf
          refine tq_iconst (2 : Int32) rX12_advance_303 (by decide) ?_
          refine tq_goto rX12_advance_304 ?_
          exact tq_forget _ (tq_le_u (tq_le_u (tq_le_u (tq_le_u tq_le_n)))) (FX12_advance_j308_x  h0 hf ⟨rfl, rfl, rfl⟩)
      · rw [if_neg c11] at hf
        refine tq_aload_n rX12_advance_193 rfl ?_
        refine tq_iconst (0 : Int32) rX12_advance_194 (by decide) ?_
        refine ty_putI rX12_advance_195 f_X12_108 rfl h0 rfl ?_
        obtain ⟨p18, e18, hf⟩ := Option.bind_eq_some_iff.mp hf
        refine tq_forget _ (tq_le_s (tq_le_u (tq_le_u (tq_le_u tq_le_n)))) ?_
        refine tq_it_elim (P := fun p : tq_PI => tq_X S mX12_advance (d + 3) tq_k0 198 ([.ref a0, tq_u, tq_u, tq_u]) [] (tq_st p L) (tq_Q (tq_one2 (none) out L))) (R := fun p : tq_PI => tq_X S mX12_advance (d + 3) tq_k0 261 ([.ref a0, tq_u, tq_u, tq_u]) [] (tq_st p L) (tq_Q (tq_one2 (none) out L))) (fun p o hp hk => FX12_advance_s198_x  h0 hp hk) _ ((tq_up2 (tq_up2 p5 a0 4 (p5 a0 3)) a0 6 (0 : Int32))) _ e18 ?_
        show tq_X _ _ _ _ _ _ _ _ _
        refine tq_aload_n rX12_advance_261 rfl ?_
        refine tq_aload_n rX12_advance_262 rfl ?_
        refine ty_getI rX12_advance_263 f_X12_77 rfl h0 ?_
        refine tq_aload_n rX12_advance_266 rfl ?_
        refine ty_getI rX12_advance_267 f_X12_84 rfl h0 ?_
        refine tq_isub rX12_advance_270 ?_
        refine tq_iconst (2 : Int32) rX12_advance_271 (by decide) ?_
        refine tq_icmp_le rX12_advance_272 (fun c19 => ?_) (fun c19 => ?_)
        · rw [if_pos c19] at hf
          refine tq_iconst (1 : Int32) rX12_advance_279 (by decide) ?_
          exact tq_forget _ (tq_le_u (tq_le_u (tq_le_u (tq_le_u tq_le_n)))) (FX12_advance_j280_x  h0 hf ⟨rfl, rfl, rfl⟩)
        · rw [if_neg c19] at hf
          refine tq_iconst (4 : Int32) rX12_advance_275 (by decide) ?_
          refine tq_goto rX12_advance_276 ?_
          exact tq_forget _ (tq_le_u (tq_le_u (tq_le_u (tq_le_u tq_le_n)))) (FX12_advance_j280_x  h0 hf ⟨rfl, rfl, rfl⟩)
    · rw [if_neg c9] at hf
      refine tq_lconst (0 : Int64) rX12_advance_75 (by decide) ?_
      refine tq_lstore_n ([.ref a0, .int p6, .long (0 : Int64), tq_u]) rX12_advance_76 (Nat.le_of_ble_eq_true rfl) rfl ?_
      obtain ⟨p25, e25, hf⟩ := Option.bind_eq_some_iff.mp hf
      refine tq_forget _ (tq_le_s (tq_le_u (tq_le_s (tq_le_u tq_le_n)))) ?_
      refine tq_it_elim (P := fun p : Int64 × tq_PI => tq_X S mX12_advance (d + 3) tq_k0 77 ([.ref a0, tq_u, .long p.1, tq_u]) [] (tq_st p.2 L) (tq_Q (tq_one2 (none) out L))) (R := fun p : Int64 × tq_PI => tq_X S mX12_advance (d + 3) tq_k0 138 ([.ref a0, tq_u, .long p.1, tq_u]) [] (tq_st p.2 L) (tq_Q (tq_one2 (none) out L))) (fun p o hp hk => FX12_advance_s77_x  h0 hp hk) _ (((0 : Int64), (tq_up2 p5 a0 4 (p5 a0 3)))) _ e25 ?_
      show tq_X _ _ _ _ _ _ _ _ _
      refine tq_aload_n rX12_advance_138 rfl ?_
      refine tq_aload_n rX12_advance_139 rfl ?_
      refine ty_getI rX12_advance_140 f_X12_77 rfl h0 ?_
      refine tq_aload_n rX12_advance_143 rfl ?_
      refine ty_getI rX12_advance_144 f_X12_84 rfl h0 ?_
      refine tq_isub rX12_advance_147 ?_
      refine tq_bipush (8 : Int32) rX12_advance_148 (by decide) ?_
      refine tq_icmp_le rX12_advance_150 (fun c26 => ?_) (fun c26 => ?_)
      · rw [if_pos c26] at hf
        refine tq_lload_n rX12_advance_158 rfl ?_
        obtain ⟨p27, e27, hf⟩ := tq_let_elim hf
        refine ty_callSI p27 ([.long p25.1]) ([.ref a0]) rX12_advance_159 l_X12_98 moX12_wordOf msX12_wordOf rfl rfl (Nat.le_of_ble_eq_true rfl) ⟨rfl, rfl⟩ (CX12_wordOf  e27) ?_
        exact tq_forget _ (tq_le_s (tq_le_u (tq_le_u (tq_le_u tq_le_n)))) (FX12_advance_j162_x  h0 h0 hf ⟨rfl, rfl, rfl⟩)
      · rw [if_neg c26] at hf
        refine tq_bipush (99 : Int32) rX12_advance_153 (by decide) ?_
        refine tq_goto rX12_advance_155 ?_
        exact tq_forget _ (tq_le_s (tq_le_u (tq_le_u (tq_le_u tq_le_n)))) (FX12_advance_j162_x  h0 h0 hf ⟨rfl, rfl, rfl⟩)
  · rw [if_neg c7] at hf
    refine tq_aload_n rX12_advance_60 rfl ?_
    refine tq_iconst (0 : Int32) rX12_advance_61 (by decide) ?_
    refine ty_putI rX12_advance_62 f_X12_87 rfl h0 rfl ?_
    refine tq_goto rX12_advance_65 ?_
    refine ty_vret rX12_advance_311 rfl rfl ?_
    have hf := Option.some.inj hf
    subst hf
    exact ⟨rfl, rfl, rfl⟩

abbrev mX12_ends : tq_M := (yX12_ends, cX12_ends, 1, (Option.none : Option Jvm.ClassFile.FieldType), 0, 0)
theorem f_X12_111 : tq_fok RX12 111 12 8 := ⟨by decide, by decide, Or.inl (tq_sg6 _ (List.mem_of_getElem? (i := 81) rfl))⟩
theorem rX12_ends_0 : tq_D cX12_ends 0 (.aload_n 0) 1 1 := ⟨by decide +kernel, rfl⟩
theorem rX12_ends_1 : tq_D cX12_ends 1 (.getfield 111) 3 4 := ⟨by decide +kernel, rfl⟩
theorem rX12_ends_4 : tq_J cX12_ends 4 (.ifCond .eq) 8 7 := ⟨4, by decide +kernel, by decide, rfl⟩
theorem rX12_ends_7 : decode cX12_ends 7 = .ok (.return_, 1) := by decide +kernel
theorem rX12_ends_8 : tq_D cX12_ends 8 (.aload_n 0) 1 9 := ⟨by decide +kernel, rfl⟩
theorem rX12_ends_9 : tq_D cX12_ends 9 (.iconst 1) 1 10 := ⟨by decide +kernel, rfl⟩
theorem rX12_ends_10 : tq_D cX12_ends 10 (.putfield 111) 3 13 := ⟨by decide +kernel, rfl⟩
theorem rX12_ends_13 : tq_D cX12_ends 13 (.aload_n 0) 1 14 := ⟨by decide +kernel, rfl⟩
theorem rX12_ends_14 : tq_D cX12_ends 14 (.getfield 7) 3 17 := ⟨by decide +kernel, rfl⟩
theorem rX12_ends_17 : tq_D cX12_ends 17 (.iconst 5) 1 18 := ⟨by decide +kernel, rfl⟩
theorem rX12_ends_18 : tq_D cX12_ends 18 (.iconst 1) 1 19 := ⟨by decide +kernel, rfl⟩
theorem rX12_ends_19 : tq_D cX12_ends 19 (.iastore) 1 20 := ⟨by decide +kernel, rfl⟩
theorem rX12_ends_20 : tq_D cX12_ends 20 (.aload_n 0) 1 21 := ⟨by decide +kernel, rfl⟩
theorem rX12_ends_21 : tq_D cX12_ends 21 (.getfield 7) 3 24 := ⟨by decide +kernel, rfl⟩
theorem rX12_ends_24 : tq_D cX12_ends 24 (.bipush 6) 2 26 := ⟨by decide +kernel, rfl⟩
theorem rX12_ends_26 : tq_D cX12_ends 26 (.aload_n 0) 1 27 := ⟨by decide +kernel, rfl⟩
theorem rX12_ends_27 : tq_D cX12_ends 27 (.getfield 84) 3 30 := ⟨by decide +kernel, rfl⟩
theorem rX12_ends_30 : tq_D cX12_ends 30 (.iastore) 1 31 := ⟨by decide +kernel, rfl⟩
theorem rX12_ends_31 : decode cX12_ends 31 = .ok (.return_, 1) := by decide +kernel
noncomputable def FX12_ends (I : tq_PI) (L : tq_PL) (a0 : Nat) : Option (tq_PI) :=
  (if (I a0 8) = 0 then (if 0 ≤ (5 : Int32) ∧ (5 : Int32) < 4016 then (if 0 ≤ (6 : Int32) ∧ (6 : Int32) < 4016 then some (tq_up2 (tq_up2 (tq_up2 I a0 8 (1 : Int32)) (tq_rg a0 0) ((5 : Int32)).toNatClampNeg (1 : Int32)) (tq_rg a0 0) ((6 : Int32)).toNatClampNeg (((tq_up2 (tq_up2 I a0 8 (1 : Int32)) (tq_rg a0 0) ((5 : Int32)).toNatClampNeg (1 : Int32))) a0 4)) else none) else none) else some I)
set_option maxRecDepth 100000 in
set_option maxHeartbeats 4000000 in
theorem CX12_ends {S : Nat × (Nat → Int32)} {d : Nat} {I : tq_PI} {L : tq_PL} {a0 : Nat} (h0 : tq_sh0 a0 = 12) {out : tq_PI} (hf : FX12_ends I L a0 = some out) : tq_K S mX12_ends d [.ref a0] I L (tq_one2 (none) out L) := by
  unfold FX12_ends at hf
  refine tq_K_of (by decide) (Nat.le_of_ble_eq_true rfl) (ls := [.ref a0]) rfl ?_
  refine tq_aload_n rX12_ends_0 rfl ?_
  refine ty_getI rX12_ends_1 f_X12_111 rfl h0 ?_
  refine tq_if_eq rX12_ends_4 (fun c1 => ?_) (fun c1 => ?_)
  · rw [if_pos c1] at hf
    refine tq_aload_n rX12_ends_8 rfl ?_
    refine tq_iconst (1 : Int32) rX12_ends_9 (by decide) ?_
    refine ty_putZ rX12_ends_10 f_X12_111 rfl h0 rfl (by decide) ?_
    refine tq_aload_n rX12_ends_13 rfl ?_
    refine ty_getR rX12_ends_14 f_X12_7 rfl h0 (hp_12_0 h0).1 ?_
    refine tq_iconst (5 : Int32) rX12_ends_17 (by decide) ?_
    refine tq_iconst (1 : Int32) rX12_ends_18 (by decide) ?_
    obtain ⟨g2, hf⟩ := tq_chk hf
    refine ty_iast (v := 4016) rX12_ends_19 (hp_12_0 h0).2.1 (hp_12_0 h0).2.2 rfl (by decide) g2 ?_
    refine tq_aload_n rX12_ends_20 rfl ?_
    refine ty_getR rX12_ends_21 f_X12_7 rfl h0 (hp_12_0 h0).1 ?_
    refine tq_bipush (6 : Int32) rX12_ends_24 (by decide) ?_
    refine tq_aload_n rX12_ends_26 rfl ?_
    refine ty_getI rX12_ends_27 f_X12_84 rfl h0 ?_
    obtain ⟨g3, hf⟩ := tq_chk hf
    refine ty_iast (v := 4016) rX12_ends_30 (hp_12_0 h0).2.1 (hp_12_0 h0).2.2 rfl (by decide) g3 ?_
    refine ty_vret rX12_ends_31 rfl rfl ?_
    have hf := Option.some.inj hf
    subst hf
    exact ⟨rfl, rfl, rfl⟩
  · rw [if_neg c1] at hf
    refine ty_vret rX12_ends_7 rfl rfl ?_
    have hf := Option.some.inj hf
    subst hf
    exact ⟨rfl, rfl, rfl⟩

abbrev mX12_also : tq_M := (yX12_also, cX12_also, 3, (Option.none : Option Jvm.ClassFile.FieldType), 0, 0)
theorem rX12_also_0 : tq_D cX12_also 0 (.aload_n 0) 1 1 := ⟨by decide +kernel, rfl⟩
theorem rX12_also_1 : tq_D cX12_also 1 (.getfield 111) 3 4 := ⟨by decide +kernel, rfl⟩
theorem rX12_also_4 : tq_J cX12_also 4 (.ifCond .ne) 48 7 := ⟨44, by decide +kernel, by decide, rfl⟩
theorem rX12_also_7 : tq_D cX12_also 7 (.aload_n 0) 1 8 := ⟨by decide +kernel, rfl⟩
theorem rX12_also_8 : tq_D cX12_also 8 (.getfield 7) 3 11 := ⟨by decide +kernel, rfl⟩
theorem rX12_also_11 : tq_D cX12_also 11 (.iconst 5) 1 12 := ⟨by decide +kernel, rfl⟩
theorem rX12_also_12 : tq_D cX12_also 12 (.iaload) 1 13 := ⟨by decide +kernel, rfl⟩
theorem rX12_also_13 : tq_J cX12_also 13 (.ifCond .eq) 49 16 := ⟨36, by decide +kernel, by decide, rfl⟩
theorem rX12_also_16 : tq_D cX12_also 16 (.aload_n 0) 1 17 := ⟨by decide +kernel, rfl⟩
theorem rX12_also_17 : tq_D cX12_also 17 (.getfield 7) 3 20 := ⟨by decide +kernel, rfl⟩
theorem rX12_also_20 : tq_D cX12_also 20 (.bipush 6) 2 22 := ⟨by decide +kernel, rfl⟩
theorem rX12_also_22 : tq_D cX12_also 22 (.iaload) 1 23 := ⟨by decide +kernel, rfl⟩
theorem rX12_also_23 : tq_D cX12_also 23 (.iload_n 2) 1 24 := ⟨by decide +kernel, rfl⟩
theorem rX12_also_24 : tq_J cX12_also 24 (.if_icmp .lt) 48 27 := ⟨24, by decide +kernel, by decide, rfl⟩
theorem rX12_also_27 : tq_D cX12_also 27 (.aload_n 0) 1 28 := ⟨by decide +kernel, rfl⟩
theorem rX12_also_28 : tq_D cX12_also 28 (.getfield 7) 3 31 := ⟨by decide +kernel, rfl⟩
theorem rX12_also_31 : tq_D cX12_also 31 (.bipush 6) 2 33 := ⟨by decide +kernel, rfl⟩
theorem rX12_also_33 : tq_D cX12_also 33 (.iaload) 1 34 := ⟨by decide +kernel, rfl⟩
theorem rX12_also_34 : tq_D cX12_also 34 (.iload_n 2) 1 35 := ⟨by decide +kernel, rfl⟩
theorem rX12_also_35 : tq_J cX12_also 35 (.if_icmp .ne) 49 38 := ⟨14, by decide +kernel, by decide, rfl⟩
theorem rX12_also_38 : tq_D cX12_also 38 (.aload_n 0) 1 39 := ⟨by decide +kernel, rfl⟩
theorem rX12_also_39 : tq_D cX12_also 39 (.getfield 7) 3 42 := ⟨by decide +kernel, rfl⟩
theorem rX12_also_42 : tq_D cX12_also 42 (.iconst 5) 1 43 := ⟨by decide +kernel, rfl⟩
theorem rX12_also_43 : tq_D cX12_also 43 (.iaload) 1 44 := ⟨by decide +kernel, rfl⟩
theorem rX12_also_44 : tq_D cX12_also 44 (.iload_n 1) 1 45 := ⟨by decide +kernel, rfl⟩
theorem rX12_also_45 : tq_J cX12_also 45 (.if_icmp .gt) 49 48 := ⟨4, by decide +kernel, by decide, rfl⟩
theorem rX12_also_48 : decode cX12_also 48 = .ok (.return_, 1) := by decide +kernel
theorem rX12_also_49 : tq_D cX12_also 49 (.aload_n 0) 1 50 := ⟨by decide +kernel, rfl⟩
theorem rX12_also_50 : tq_D cX12_also 50 (.getfield 7) 3 53 := ⟨by decide +kernel, rfl⟩
theorem rX12_also_53 : tq_D cX12_also 53 (.iconst 5) 1 54 := ⟨by decide +kernel, rfl⟩
theorem rX12_also_54 : tq_D cX12_also 54 (.iload_n 1) 1 55 := ⟨by decide +kernel, rfl⟩
theorem rX12_also_55 : tq_D cX12_also 55 (.iastore) 1 56 := ⟨by decide +kernel, rfl⟩
theorem rX12_also_56 : tq_D cX12_also 56 (.aload_n 0) 1 57 := ⟨by decide +kernel, rfl⟩
theorem rX12_also_57 : tq_D cX12_also 57 (.getfield 7) 3 60 := ⟨by decide +kernel, rfl⟩
theorem rX12_also_60 : tq_D cX12_also 60 (.bipush 6) 2 62 := ⟨by decide +kernel, rfl⟩
theorem rX12_also_62 : tq_D cX12_also 62 (.iload_n 2) 1 63 := ⟨by decide +kernel, rfl⟩
theorem rX12_also_63 : tq_D cX12_also 63 (.iastore) 1 64 := ⟨by decide +kernel, rfl⟩
theorem rX12_also_64 : decode cX12_also 64 = .ok (.return_, 1) := by decide +kernel
noncomputable def FX12_also_j49 (I : tq_PI) (L : tq_PL) (a0 : Nat) (a1 : Int32) (a2 : Int32) : Option (tq_PI) :=
  (if 0 ≤ (5 : Int32) ∧ (5 : Int32) < 4016 then (if 0 ≤ (6 : Int32) ∧ (6 : Int32) < 4016 then some (tq_up2 (tq_up2 I (tq_rg a0 0) ((5 : Int32)).toNatClampNeg a1) (tq_rg a0 0) ((6 : Int32)).toNatClampNeg a2) else none) else none)
noncomputable def FX12_also (I : tq_PI) (L : tq_PL) (a0 : Nat) (a1 : Int32) (a2 : Int32) : Option (tq_PI) :=
  (if (I a0 8) = 0 then (if 0 ≤ (5 : Int32) ∧ (5 : Int32) < 4016 then (if (I (tq_rg a0 0) ((5 : Int32)).toNatClampNeg) = 0 then (FX12_also_j49 I L a0 a1 a2) else (if 0 ≤ (6 : Int32) ∧ (6 : Int32) < 4016 then (if (I (tq_rg a0 0) ((6 : Int32)).toNatClampNeg) < a2 then some I else (if 0 ≤ (6 : Int32) ∧ (6 : Int32) < 4016 then (if (I (tq_rg a0 0) ((6 : Int32)).toNatClampNeg) = a2 then (if 0 ≤ (5 : Int32) ∧ (5 : Int32) < 4016 then (if a1 < (I (tq_rg a0 0) ((5 : Int32)).toNatClampNeg) then (FX12_also_j49 I L a0 a1 a2) else some I) else none) else (FX12_also_j49 I L a0 a1 a2)) else none)) else none)) else none) else some I)
set_option maxRecDepth 100000 in
set_option maxHeartbeats 4000000 in
theorem FX12_also_j49_x {S : Nat × (Nat → Int32)} {d : Nat} {I : tq_PI} {L : tq_PL} {a0 : Nat} {a1 : Int32} {a2 : Int32} (h0 : tq_sh0 a0 = 12) {q0 : Option Value → tq_PI → tq_PL → Prop} {out : tq_PI} (hf : FX12_also_j49 I L a0 a1 a2 = some out) (hk : q0 none out L) : tq_X S mX12_also d tq_k0 49 ([.ref a0, .int a1, .int a2]) ([]) (tq_st I L) (tq_Q q0) := by
  unfold FX12_also_j49 at hf
  refine tq_aload_n rX12_also_49 rfl ?_
  refine ty_getR rX12_also_50 f_X12_7 rfl h0 (hp_12_0 h0).1 ?_
  refine tq_iconst (5 : Int32) rX12_also_53 (by decide) ?_
  refine tq_iload_n rX12_also_54 rfl ?_
  obtain ⟨g4, hf⟩ := tq_chk hf
  refine ty_iast (v := 4016) rX12_also_55 (hp_12_0 h0).2.1 (hp_12_0 h0).2.2 rfl (by decide) g4 ?_
  refine tq_aload_n rX12_also_56 rfl ?_
  refine ty_getR rX12_also_57 f_X12_7 rfl h0 (hp_12_0 h0).1 ?_
  refine tq_bipush (6 : Int32) rX12_also_60 (by decide) ?_
  refine tq_iload_n rX12_also_62 rfl ?_
  obtain ⟨g5, hf⟩ := tq_chk hf
  refine ty_iast (v := 4016) rX12_also_63 (hp_12_0 h0).2.1 (hp_12_0 h0).2.2 rfl (by decide) g5 ?_
  refine ty_vret rX12_also_64 rfl rfl ?_
  have hf := Option.some.inj hf
  subst hf
  exact hk

set_option maxRecDepth 100000 in
set_option maxHeartbeats 4000000 in
theorem CX12_also {S : Nat × (Nat → Int32)} {d : Nat} {I : tq_PI} {L : tq_PL} {a0 : Nat} {a1 : Int32} {a2 : Int32} (h0 : tq_sh0 a0 = 12) {out : tq_PI} (hf : FX12_also I L a0 a1 a2 = some out) : tq_K S mX12_also d [.ref a0, .int a1, .int a2] I L (tq_one2 (none) out L) := by
  unfold FX12_also at hf
  refine tq_K_of (by decide) (Nat.le_of_ble_eq_true rfl) (ls := [.ref a0, .int a1, .int a2]) rfl ?_
  refine tq_aload_n rX12_also_0 rfl ?_
  refine ty_getI rX12_also_1 f_X12_111 rfl h0 ?_
  refine tq_if_ne rX12_also_4 (fun c1 => ?_) (fun c1 => ?_)
  · rw [if_neg c1] at hf
    refine ty_vret rX12_also_48 rfl rfl ?_
    have hf := Option.some.inj hf
    subst hf
    exact ⟨rfl, rfl, rfl⟩
  · rw [if_pos c1] at hf
    refine tq_aload_n rX12_also_7 rfl ?_
    refine ty_getR rX12_also_8 f_X12_7 rfl h0 (hp_12_0 h0).1 ?_
    refine tq_iconst (5 : Int32) rX12_also_11 (by decide) ?_
    obtain ⟨g2, hf⟩ := tq_chk hf
    refine ty_iald (v := 4016) rX12_also_12 (hp_12_0 h0).2.1 (hp_12_0 h0).2.2 rfl (by decide) g2 ?_
    refine tq_if_eq rX12_also_13 (fun c3 => ?_) (fun c3 => ?_)
    · rw [if_pos c3] at hf
      exact tq_forget _ (tq_le_s (tq_le_s (tq_le_s tq_le_n))) (FX12_also_j49_x  h0 hf ⟨rfl, rfl, rfl⟩)
    · rw [if_neg c3] at hf
      refine tq_aload_n rX12_also_16 rfl ?_
      refine ty_getR rX12_also_17 f_X12_7 rfl h0 (hp_12_0 h0).1 ?_
      refine tq_bipush (6 : Int32) rX12_also_20 (by decide) ?_
      obtain ⟨g6, hf⟩ := tq_chk hf
      refine ty_iald (v := 4016) rX12_also_22 (hp_12_0 h0).2.1 (hp_12_0 h0).2.2 rfl (by decide) g6 ?_
      refine tq_iload_n rX12_also_23 rfl ?_
      refine tq_icmp_lt rX12_also_24 (fun c7 => ?_) (fun c7 => ?_)
      · rw [if_pos c7] at hf
        refine ty_vret rX12_also_48 rfl rfl ?_
        have hf := Option.some.inj hf
        subst hf
        exact ⟨rfl, rfl, rfl⟩
      · rw [if_neg c7] at hf
        refine tq_aload_n rX12_also_27 rfl ?_
        refine ty_getR rX12_also_28 f_X12_7 rfl h0 (hp_12_0 h0).1 ?_
        refine tq_bipush (6 : Int32) rX12_also_31 (by decide) ?_
        obtain ⟨g8, hf⟩ := tq_chk hf
        refine ty_iald (v := 4016) rX12_also_33 (hp_12_0 h0).2.1 (hp_12_0 h0).2.2 rfl (by decide) g8 ?_
        refine tq_iload_n rX12_also_34 rfl ?_
        refine tq_icmp_ne rX12_also_35 (fun c9 => ?_) (fun c9 => ?_)
        · rw [if_neg c9] at hf
          exact tq_forget _ (tq_le_s (tq_le_s (tq_le_s tq_le_n))) (FX12_also_j49_x  h0 hf ⟨rfl, rfl, rfl⟩)
        · rw [if_pos c9] at hf
          refine tq_aload_n rX12_also_38 rfl ?_
          refine ty_getR rX12_also_39 f_X12_7 rfl h0 (hp_12_0 h0).1 ?_
          refine tq_iconst (5 : Int32) rX12_also_42 (by decide) ?_
          obtain ⟨g10, hf⟩ := tq_chk hf
          refine ty_iald (v := 4016) rX12_also_43 (hp_12_0 h0).2.1 (hp_12_0 h0).2.2 rfl (by decide) g10 ?_
          refine tq_iload_n rX12_also_44 rfl ?_
          refine tq_icmp_gt rX12_also_45 (fun c11 => ?_) (fun c11 => ?_)
          · rw [if_pos c11] at hf
            exact tq_forget _ (tq_le_s (tq_le_s (tq_le_s tq_le_n))) (FX12_also_j49_x  h0 hf ⟨rfl, rfl, rfl⟩)
          · rw [if_neg c11] at hf
            refine ty_vret rX12_also_48 rfl rfl ?_
            have hf := Option.some.inj hf
            subst hf
            exact ⟨rfl, rfl, rfl⟩

abbrev mX12_numbered : tq_M := (yX12_numbered, cX12_numbered, 4, (Option.some Jvm.ClassFile.FieldType.int), 0, 0)
theorem moX12_advance : tq_mok mX12_advance 0 := ⟨tq_sg1 _ (List.mem_of_getElem? (i := 13) rfl), tq_sg6 _ (List.mem_of_getElem? (i := 217) rfl), ⟨by decide, by decide, by decide +kernel⟩, by decide⟩
theorem mvX12_advance : 12 < 13 ∧ (tq_cl 12).1 = mX12_advance.1.cls ∧ Cond.instanceMethod mX12_advance.1 ∈ lw_tbl ∧ Cond.selects mX12_advance.1.cls mX12_advance.1 mX12_advance.1 ∈ lw_tbl := ⟨by decide, rfl, tq_sg6 _ (List.mem_of_getElem? (i := 216) rfl), List.mem_append_left _ (List.mem_map.mpr ⟨_, List.mem_of_getElem? (i := 43) rfl, rfl⟩)⟩
theorem moX12_also : tq_mok mX12_also 2 := ⟨tq_sg1 _ (List.mem_of_getElem? (i := 13) rfl), tq_sg7 _ (List.mem_of_getElem? (i := 19) rfl), ⟨by decide, by decide, by decide +kernel⟩, by decide⟩
theorem mvX12_also : 12 < 13 ∧ (tq_cl 12).1 = mX12_also.1.cls ∧ Cond.instanceMethod mX12_also.1 ∈ lw_tbl ∧ Cond.selects mX12_also.1.cls mX12_also.1 mX12_also.1 ∈ lw_tbl := ⟨by decide, rfl, tq_sg7 _ (List.mem_of_getElem? (i := 18) rfl), List.mem_append_left _ (List.mem_map.mpr ⟨_, List.mem_of_getElem? (i := 49) rfl, rfl⟩)⟩
theorem moX12_ends : tq_mok mX12_ends 0 := ⟨tq_sg1 _ (List.mem_of_getElem? (i := 13) rfl), tq_sg7 _ (List.mem_of_getElem? (i := 11) rfl), ⟨by decide, by decide, by decide +kernel⟩, by decide⟩
theorem mvX12_ends : 12 < 13 ∧ (tq_cl 12).1 = mX12_ends.1.cls ∧ Cond.instanceMethod mX12_ends.1 ∈ lw_tbl ∧ Cond.selects mX12_ends.1.cls mX12_ends.1 mX12_ends.1 ∈ lw_tbl := ⟨by decide, rfl, tq_sg7 _ (List.mem_of_getElem? (i := 10) rfl), List.mem_append_left _ (List.mem_map.mpr ⟨_, List.mem_of_getElem? (i := 47) rfl, rfl⟩)⟩
theorem moX12_isIn : tq_mok mX12_isIn 3 := ⟨tq_sg1 _ (List.mem_of_getElem? (i := 13) rfl), tq_sg6 _ (List.mem_of_getElem? (i := 205) rfl), ⟨by decide, by decide, by decide +kernel⟩, by decide⟩
theorem msX12_isIn : Cond.static mX12_isIn.1 ∈ lw_tbl := tq_sg6 _ (List.mem_of_getElem? (i := 204) rfl)
theorem l_X12_115 : tq_lok RX12 115 mX12_ends.1 := Or.inl (tq_sg7 _ (List.mem_of_getElem? (i := 8) rfl))
theorem l_X12_118 : tq_lok RX12 118 mX12_isIn.1 := Or.inl (tq_sg6 _ (List.mem_of_getElem? (i := 203) rfl))
theorem l_X12_122 : tq_lok RX12 122 mX12_also.1 := Or.inl (tq_sg7 _ (List.mem_of_getElem? (i := 16) rfl))
theorem l_X12_126 : tq_lok RX12 126 mX12_advance.1 := Or.inl (tq_sg6 _ (List.mem_of_getElem? (i := 214) rfl))
theorem rX12_numbered_0 : tq_D cX12_numbered 0 (.aload_n 0) 1 1 := ⟨by decide +kernel, rfl⟩
theorem rX12_numbered_1 : tq_D cX12_numbered 1 (.getfield 111) 3 4 := ⟨by decide +kernel, rfl⟩
theorem rX12_numbered_4 : tq_J cX12_numbered 4 (.ifCond .ne) 15 7 := ⟨11, by decide +kernel, by decide, rfl⟩
theorem rX12_numbered_7 : tq_D cX12_numbered 7 (.aload_n 0) 1 8 := ⟨by decide +kernel, rfl⟩
theorem rX12_numbered_8 : tq_D cX12_numbered 8 (.getfield 87) 3 11 := ⟨by decide +kernel, rfl⟩
theorem rX12_numbered_11 : tq_D cX12_numbered 11 (.iconst 1) 1 12 := ⟨by decide +kernel, rfl⟩
theorem rX12_numbered_12 : tq_J cX12_numbered 12 (.if_icmp .eq) 21 15 := ⟨9, by decide +kernel, by decide, rfl⟩
theorem rX12_numbered_15 : tq_D cX12_numbered 15 (.aload_n 0) 1 16 := ⟨by decide +kernel, rfl⟩
theorem rX12_numbered_16 : tq_D cX12_numbered 16 (.invokevirtual 115) 3 19 := ⟨by decide +kernel, rfl⟩
theorem rX12_numbered_19 : tq_D cX12_numbered 19 (.iload_n 1) 1 20 := ⟨by decide +kernel, rfl⟩
theorem rX12_numbered_20 : decode cX12_numbered 20 = .ok (.ireturn, 1) := by decide +kernel
theorem rX12_numbered_21 : tq_D cX12_numbered 21 (.aload_n 0) 1 22 := ⟨by decide +kernel, rfl⟩
theorem rX12_numbered_22 : tq_D cX12_numbered 22 (.getfield 108) 3 25 := ⟨by decide +kernel, rfl⟩
theorem rX12_numbered_25 : tq_D cX12_numbered 25 (.istore_n 3) 1 26 := ⟨by decide +kernel, rfl⟩
theorem rX12_numbered_26 : tq_D cX12_numbered 26 (.iload_n 3) 1 27 := ⟨by decide +kernel, rfl⟩
theorem rX12_numbered_27 : tq_D cX12_numbered 27 (.iload_n 1) 1 28 := ⟨by decide +kernel, rfl⟩
theorem rX12_numbered_28 : tq_D cX12_numbered 28 (.iload_n 2) 1 29 := ⟨by decide +kernel, rfl⟩
theorem rX12_numbered_29 : tq_D cX12_numbered 29 (.invokestatic 118) 3 32 := ⟨by decide +kernel, rfl⟩
theorem rX12_numbered_32 : tq_J cX12_numbered 32 (.ifCond .ne) 44 35 := ⟨12, by decide +kernel, by decide, rfl⟩
theorem rX12_numbered_35 : tq_D cX12_numbered 35 (.aload_n 0) 1 36 := ⟨by decide +kernel, rfl⟩
theorem rX12_numbered_36 : tq_D cX12_numbered 36 (.iconst 2) 1 37 := ⟨by decide +kernel, rfl⟩
theorem rX12_numbered_37 : tq_D cX12_numbered 37 (.aload_n 0) 1 38 := ⟨by decide +kernel, rfl⟩
theorem rX12_numbered_38 : tq_D cX12_numbered 38 (.getfield 84) 3 41 := ⟨by decide +kernel, rfl⟩
theorem rX12_numbered_41 : tq_D cX12_numbered 41 (.invokevirtual 122) 3 44 := ⟨by decide +kernel, rfl⟩
theorem rX12_numbered_44 : tq_D cX12_numbered 44 (.aload_n 0) 1 45 := ⟨by decide +kernel, rfl⟩
theorem rX12_numbered_45 : tq_D cX12_numbered 45 (.invokevirtual 126) 3 48 := ⟨by decide +kernel, rfl⟩
theorem rX12_numbered_48 : tq_D cX12_numbered 48 (.iload_n 3) 1 49 := ⟨by decide +kernel, rfl⟩
theorem rX12_numbered_49 : tq_D cX12_numbered 49 (.iload_n 1) 1 50 := ⟨by decide +kernel, rfl⟩
theorem rX12_numbered_50 : tq_D cX12_numbered 50 (.iload_n 2) 1 51 := ⟨by decide +kernel, rfl⟩
theorem rX12_numbered_51 : tq_D cX12_numbered 51 (.invokestatic 118) 3 54 := ⟨by decide +kernel, rfl⟩
theorem rX12_numbered_54 : tq_J cX12_numbered 54 (.ifCond .eq) 61 57 := ⟨7, by decide +kernel, by decide, rfl⟩
theorem rX12_numbered_57 : tq_D cX12_numbered 57 (.iload_n 3) 1 58 := ⟨by decide +kernel, rfl⟩
theorem rX12_numbered_58 : tq_J cX12_numbered 58 .goto 62 61 := ⟨4, by decide +kernel, by decide, rfl⟩
theorem rX12_numbered_61 : tq_D cX12_numbered 61 (.iload_n 1) 1 62 := ⟨by decide +kernel, rfl⟩
theorem rX12_numbered_62 : decode cX12_numbered 62 = .ok (.ireturn, 1) := by decide +kernel
noncomputable def FX12_numbered_j15 (I : tq_PI) (L : tq_PL) (a0 : Nat) (a1 : Int32) : Option (Int32 × tq_PI) :=
  ((FX12_ends I L a0).bind fun p2 => some (a1, p2))
noncomputable def FX12_numbered_j44 (I : tq_PI) (L : tq_PL) (a0 : Nat) (a1 : Int32) (a2 : Int32) (a3 : Int32) : Option (Int32 × tq_PI) :=
  ((FX12_advance I L a0).bind fun p6 => (tq_let (FX12_isIn p6 L a3 a1 a2) fun p7 => (if (tq_b p7) = 0 then some (a1, p6) else some (a3, p6))))
noncomputable def FX12_numbered (I : tq_PI) (L : tq_PL) (a0 : Nat) (a1 : Int32) (a2 : Int32) : Option (Int32 × tq_PI) :=
  (if (I a0 8) = 0 then (if (I a0 5) = (1 : Int32) then (tq_let (FX12_isIn I L ((I a0 6)) a1 a2) fun p4 => (if (tq_b p4) = 0 then ((FX12_also I L a0 ((2 : Int32)) ((I a0 4))).bind fun p9 => (FX12_numbered_j44 p9 L a0 a1 a2 ((I a0 6)))) else (FX12_numbered_j44 I L a0 a1 a2 ((I a0 6))))) else (FX12_numbered_j15 I L a0 a1)) else (FX12_numbered_j15 I L a0 a1))
set_option maxRecDepth 100000 in
set_option maxHeartbeats 4000000 in
theorem FX12_numbered_j15_x {S : Nat × (Nat → Int32)} {d : Nat} {I : tq_PI} {L : tq_PL} {a0 : Nat} {a1 : Int32} (h0 : tq_sh0 a0 = 12) {q0 : Option Value → tq_PI → tq_PL → Prop} {out : Int32 × tq_PI} (hf : FX12_numbered_j15 I L a0 a1 = some out) (hk : q0 (some (.int out.1)) out.2 L) : tq_X S mX12_numbered (d + 4) tq_k0 15 ([.ref a0, .int a1, tq_u, tq_u]) ([]) (tq_st I L) (tq_Q q0) := by
  unfold FX12_numbered_j15 at hf
  refine tq_aload_n rX12_numbered_15 rfl ?_
  obtain ⟨p2, e2, hf⟩ := Option.bind_eq_some_iff.mp hf
  refine ty_callVV ([]) ([]) rX12_numbered_16 l_X12_115 moX12_ends mvX12_ends h0 rfl rfl (Nat.le_of_ble_eq_true rfl) ⟨rfl, rfl⟩ (CX12_ends h0 e2) ?_
  refine tq_iload_n rX12_numbered_19 rfl ?_
  refine ty_iret rX12_numbered_20 rfl rfl ?_
  have hf := Option.some.inj hf
  subst hf
  exact hk

set_option maxRecDepth 100000 in
set_option maxHeartbeats 4000000 in
theorem FX12_numbered_j44_x {S : Nat × (Nat → Int32)} {d : Nat} {I : tq_PI} {L : tq_PL} {a0 : Nat} {a1 : Int32} {a2 : Int32} {a3 : Int32} (h0 : tq_sh0 a0 = 12) {q0 : Option Value → tq_PI → tq_PL → Prop} {out : Int32 × tq_PI} (hf : FX12_numbered_j44 I L a0 a1 a2 a3 = some out) (hk : q0 (some (.int out.1)) out.2 L) : tq_X S mX12_numbered (d + 4) tq_k0 44 ([.ref a0, .int a1, .int a2, .int a3]) ([]) (tq_st I L) (tq_Q q0) := by
  unfold FX12_numbered_j44 at hf
  refine tq_aload_n rX12_numbered_44 rfl ?_
  obtain ⟨p6, e6, hf⟩ := Option.bind_eq_some_iff.mp hf
  refine ty_callVV ([]) ([]) rX12_numbered_45 l_X12_126 moX12_advance mvX12_advance h0 rfl rfl (Nat.le_of_ble_eq_true rfl) ⟨rfl, rfl⟩ (CX12_advance h0 e6) ?_
  refine tq_iload_n rX12_numbered_48 rfl ?_
  refine tq_iload_n rX12_numbered_49 rfl ?_
  refine tq_iload_n rX12_numbered_50 rfl ?_
  obtain ⟨p7, e7, hf⟩ := tq_let_elim hf
  refine ty_callSI (tq_b p7) ([.int a3, .int a1, .int a2]) ([]) rX12_numbered_51 l_X12_118 moX12_isIn msX12_isIn rfl rfl (Nat.le_of_ble_eq_true rfl) ⟨rfl, rfl⟩ (CX12_isIn  e7) ?_
  refine tq_if_eq rX12_numbered_54 (fun c8 => ?_) (fun c8 => ?_)
  · rw [if_pos c8] at hf
    refine tq_iload_n rX12_numbered_61 rfl ?_
    refine ty_iret rX12_numbered_62 rfl rfl ?_
    have hf := Option.some.inj hf
    subst hf
    exact hk
  · rw [if_neg c8] at hf
    refine tq_iload_n rX12_numbered_57 rfl ?_
    refine tq_goto rX12_numbered_58 ?_
    refine ty_iret rX12_numbered_62 rfl rfl ?_
    have hf := Option.some.inj hf
    subst hf
    exact hk

set_option maxRecDepth 100000 in
set_option maxHeartbeats 4000000 in
theorem CX12_numbered {S : Nat × (Nat → Int32)} {d : Nat} {I : tq_PI} {L : tq_PL} {a0 : Nat} {a1 : Int32} {a2 : Int32} (h0 : tq_sh0 a0 = 12) {out : Int32 × tq_PI} (hf : FX12_numbered I L a0 a1 a2 = some out) : tq_K S mX12_numbered (d + 4) [.ref a0, .int a1, .int a2] I L (tq_one2 (some (.int out.1)) out.2 L) := by
  unfold FX12_numbered at hf
  refine tq_K_of (by decide) (Nat.le_of_ble_eq_true rfl) (ls := [.ref a0, .int a1, .int a2, tq_u]) rfl ?_
  refine tq_aload_n rX12_numbered_0 rfl ?_
  refine ty_getI rX12_numbered_1 f_X12_111 rfl h0 ?_
  refine tq_if_ne rX12_numbered_4 (fun c1 => ?_) (fun c1 => ?_)
  · rw [if_neg c1] at hf
    exact tq_forget _ (tq_le_s (tq_le_s (tq_le_u (tq_le_u tq_le_n)))) (FX12_numbered_j15_x  h0 hf ⟨rfl, rfl, rfl⟩)
  · rw [if_pos c1] at hf
    refine tq_aload_n rX12_numbered_7 rfl ?_
    refine ty_getI rX12_numbered_8 f_X12_87 rfl h0 ?_
    refine tq_iconst (1 : Int32) rX12_numbered_11 (by decide) ?_
    refine tq_icmp_eq rX12_numbered_12 (fun c3 => ?_) (fun c3 => ?_)
    · rw [if_pos c3] at hf
      refine tq_aload_n rX12_numbered_21 rfl ?_
      refine ty_getI rX12_numbered_22 f_X12_108 rfl h0 ?_
      refine tq_istore_n ([.ref a0, .int a1, .int a2, .int (I a0 6)]) rX12_numbered_25 (Nat.le_of_ble_eq_true rfl) rfl ?_
      refine tq_iload_n rX12_numbered_26 rfl ?_
      refine tq_iload_n rX12_numbered_27 rfl ?_
      refine tq_iload_n rX12_numbered_28 rfl ?_
      obtain ⟨p4, e4, hf⟩ := tq_let_elim hf
      refine ty_callSI (tq_b p4) ([.int (I a0 6), .int a1, .int a2]) ([]) rX12_numbered_29 l_X12_118 moX12_isIn msX12_isIn rfl rfl (Nat.le_of_ble_eq_true rfl) ⟨rfl, rfl⟩ (CX12_isIn  e4) ?_
      refine tq_if_ne rX12_numbered_32 (fun c5 => ?_) (fun c5 => ?_)
      · rw [if_neg c5] at hf
        exact tq_forget _ (tq_le_s (tq_le_s (tq_le_s (tq_le_s tq_le_n)))) (FX12_numbered_j44_x  h0 hf ⟨rfl, rfl, rfl⟩)
      · rw [if_pos c5] at hf
        refine tq_aload_n rX12_numbered_35 rfl ?_
        refine tq_iconst (2 : Int32) rX12_numbered_36 (by decide) ?_
        refine tq_aload_n rX12_numbered_37 rfl ?_
        refine ty_getI rX12_numbered_38 f_X12_84 rfl h0 ?_
        obtain ⟨p9, e9, hf⟩ := Option.bind_eq_some_iff.mp hf
        refine ty_callVV ([.int (2 : Int32), .int (I a0 4)]) ([]) rX12_numbered_41 l_X12_122 moX12_also mvX12_also h0 rfl rfl (Nat.le_of_ble_eq_true rfl) ⟨rfl, rfl⟩ (CX12_also h0 e9) ?_
        exact tq_forget _ (tq_le_s (tq_le_s (tq_le_s (tq_le_s tq_le_n)))) (FX12_numbered_j44_x  h0 hf ⟨rfl, rfl, rfl⟩)
    · rw [if_neg c3] at hf
      exact tq_forget _ (tq_le_s (tq_le_s (tq_le_u (tq_le_u tq_le_n)))) (FX12_numbered_j15_x  h0 hf ⟨rfl, rfl, rfl⟩)

abbrev mX12_wordIn : tq_M := (yX12_wordIn, cX12_wordIn, 4, (Option.some Jvm.ClassFile.FieldType.int), 0, 0)
theorem rX12_wordIn_0 : tq_D cX12_wordIn 0 (.aload_n 0) 1 1 := ⟨by decide +kernel, rfl⟩
theorem rX12_wordIn_1 : tq_D cX12_wordIn 1 (.getfield 111) 3 4 := ⟨by decide +kernel, rfl⟩
theorem rX12_wordIn_4 : tq_J cX12_wordIn 4 (.ifCond .ne) 27 7 := ⟨23, by decide +kernel, by decide, rfl⟩
theorem rX12_wordIn_7 : tq_D cX12_wordIn 7 (.aload_n 0) 1 8 := ⟨by decide +kernel, rfl⟩
theorem rX12_wordIn_8 : tq_D cX12_wordIn 8 (.getfield 87) 3 11 := ⟨by decide +kernel, rfl⟩
theorem rX12_wordIn_11 : tq_D cX12_wordIn 11 (.iconst 3) 1 12 := ⟨by decide +kernel, rfl⟩
theorem rX12_wordIn_12 : tq_J cX12_wordIn 12 (.if_icmp .ne) 27 15 := ⟨15, by decide +kernel, by decide, rfl⟩
theorem rX12_wordIn_15 : tq_D cX12_wordIn 15 (.aload_n 0) 1 16 := ⟨by decide +kernel, rfl⟩
theorem rX12_wordIn_16 : tq_D cX12_wordIn 16 (.getfield 102) 3 19 := ⟨by decide +kernel, rfl⟩
theorem rX12_wordIn_19 : tq_D cX12_wordIn 19 (.iload_n 1) 1 20 := ⟨by decide +kernel, rfl⟩
theorem rX12_wordIn_20 : tq_D cX12_wordIn 20 (.iload_n 2) 1 21 := ⟨by decide +kernel, rfl⟩
theorem rX12_wordIn_21 : tq_D cX12_wordIn 21 (.invokestatic 118) 3 24 := ⟨by decide +kernel, rfl⟩
theorem rX12_wordIn_24 : tq_J cX12_wordIn 24 (.ifCond .ne) 33 27 := ⟨9, by decide +kernel, by decide, rfl⟩
theorem rX12_wordIn_27 : tq_D cX12_wordIn 27 (.aload_n 0) 1 28 := ⟨by decide +kernel, rfl⟩
theorem rX12_wordIn_28 : tq_D cX12_wordIn 28 (.invokevirtual 115) 3 31 := ⟨by decide +kernel, rfl⟩
theorem rX12_wordIn_31 : tq_D cX12_wordIn 31 (.iconst 0) 1 32 := ⟨by decide +kernel, rfl⟩
theorem rX12_wordIn_32 : decode cX12_wordIn 32 = .ok (.ireturn, 1) := by decide +kernel
theorem rX12_wordIn_33 : tq_D cX12_wordIn 33 (.aload_n 0) 1 34 := ⟨by decide +kernel, rfl⟩
theorem rX12_wordIn_34 : tq_D cX12_wordIn 34 (.getfield 102) 3 37 := ⟨by decide +kernel, rfl⟩
theorem rX12_wordIn_37 : tq_D cX12_wordIn 37 (.istore_n 3) 1 38 := ⟨by decide +kernel, rfl⟩
theorem rX12_wordIn_38 : tq_D cX12_wordIn 38 (.aload_n 0) 1 39 := ⟨by decide +kernel, rfl⟩
theorem rX12_wordIn_39 : tq_D cX12_wordIn 39 (.invokevirtual 126) 3 42 := ⟨by decide +kernel, rfl⟩
theorem rX12_wordIn_42 : tq_D cX12_wordIn 42 (.iload_n 3) 1 43 := ⟨by decide +kernel, rfl⟩
theorem rX12_wordIn_43 : decode cX12_wordIn 43 = .ok (.ireturn, 1) := by decide +kernel
noncomputable def FX12_wordIn_j27 (I : tq_PI) (L : tq_PL) (a0 : Nat) : Option (Int32 × tq_PI) :=
  ((FX12_ends I L a0).bind fun p2 => some ((0 : Int32), p2))
noncomputable def FX12_wordIn (I : tq_PI) (L : tq_PL) (a0 : Nat) (a1 : Int32) (a2 : Int32) : Option (Int32 × tq_PI) :=
  (if (I a0 8) = 0 then (if (I a0 5) = (3 : Int32) then (tq_let (FX12_isIn I L ((I a0 7)) a1 a2) fun p4 => (if (tq_b p4) = 0 then (FX12_wordIn_j27 I L a0) else ((FX12_advance I L a0).bind fun p6 => some ((I a0 7), p6)))) else (FX12_wordIn_j27 I L a0)) else (FX12_wordIn_j27 I L a0))
set_option maxRecDepth 100000 in
set_option maxHeartbeats 4000000 in
theorem FX12_wordIn_j27_x {S : Nat × (Nat → Int32)} {d : Nat} {I : tq_PI} {L : tq_PL} {a0 : Nat} (h0 : tq_sh0 a0 = 12) {q0 : Option Value → tq_PI → tq_PL → Prop} {out : Int32 × tq_PI} (hf : FX12_wordIn_j27 I L a0 = some out) (hk : q0 (some (.int out.1)) out.2 L) : tq_X S mX12_wordIn (d + 4) tq_k0 27 ([.ref a0, tq_u, tq_u, tq_u]) ([]) (tq_st I L) (tq_Q q0) := by
  unfold FX12_wordIn_j27 at hf
  refine tq_aload_n rX12_wordIn_27 rfl ?_
  obtain ⟨p2, e2, hf⟩ := Option.bind_eq_some_iff.mp hf
  refine ty_callVV ([]) ([]) rX12_wordIn_28 l_X12_115 moX12_ends mvX12_ends h0 rfl rfl (Nat.le_of_ble_eq_true rfl) ⟨rfl, rfl⟩ (CX12_ends h0 e2) ?_
  refine tq_iconst (0 : Int32) rX12_wordIn_31 (by decide) ?_
  refine ty_iret rX12_wordIn_32 rfl rfl ?_
  have hf := Option.some.inj hf
  subst hf
  exact hk

set_option maxRecDepth 100000 in
set_option maxHeartbeats 4000000 in
theorem CX12_wordIn {S : Nat × (Nat → Int32)} {d : Nat} {I : tq_PI} {L : tq_PL} {a0 : Nat} {a1 : Int32} {a2 : Int32} (h0 : tq_sh0 a0 = 12) {out : Int32 × tq_PI} (hf : FX12_wordIn I L a0 a1 a2 = some out) : tq_K S mX12_wordIn (d + 4) [.ref a0, .int a1, .int a2] I L (tq_one2 (some (.int out.1)) out.2 L) := by
  unfold FX12_wordIn at hf
  refine tq_K_of (by decide) (Nat.le_of_ble_eq_true rfl) (ls := [.ref a0, .int a1, .int a2, tq_u]) rfl ?_
  refine tq_aload_n rX12_wordIn_0 rfl ?_
  refine ty_getI rX12_wordIn_1 f_X12_111 rfl h0 ?_
  refine tq_if_ne rX12_wordIn_4 (fun c1 => ?_) (fun c1 => ?_)
  · rw [if_neg c1] at hf
    exact tq_forget _ (tq_le_s (tq_le_u (tq_le_u (tq_le_u tq_le_n)))) (FX12_wordIn_j27_x  h0 hf ⟨rfl, rfl, rfl⟩)
  · rw [if_pos c1] at hf
    refine tq_aload_n rX12_wordIn_7 rfl ?_
    refine ty_getI rX12_wordIn_8 f_X12_87 rfl h0 ?_
    refine tq_iconst (3 : Int32) rX12_wordIn_11 (by decide) ?_
    refine tq_icmp_ne rX12_wordIn_12 (fun c3 => ?_) (fun c3 => ?_)
    · rw [if_neg c3] at hf
      exact tq_forget _ (tq_le_s (tq_le_u (tq_le_u (tq_le_u tq_le_n)))) (FX12_wordIn_j27_x  h0 hf ⟨rfl, rfl, rfl⟩)
    · rw [if_pos c3] at hf
      refine tq_aload_n rX12_wordIn_15 rfl ?_
      refine ty_getI rX12_wordIn_16 f_X12_102 rfl h0 ?_
      refine tq_iload_n rX12_wordIn_19 rfl ?_
      refine tq_iload_n rX12_wordIn_20 rfl ?_
      obtain ⟨p4, e4, hf⟩ := tq_let_elim hf
      refine ty_callSI (tq_b p4) ([.int (I a0 7), .int a1, .int a2]) ([]) rX12_wordIn_21 l_X12_118 moX12_isIn msX12_isIn rfl rfl (Nat.le_of_ble_eq_true rfl) ⟨rfl, rfl⟩ (CX12_isIn  e4) ?_
      refine tq_if_ne rX12_wordIn_24 (fun c5 => ?_) (fun c5 => ?_)
      · rw [if_neg c5] at hf
        refine tq_aload_n rX12_wordIn_33 rfl ?_
        refine ty_getI rX12_wordIn_34 f_X12_102 rfl h0 ?_
        refine tq_istore_n ([.ref a0, .int a1, .int a2, .int (I a0 7)]) rX12_wordIn_37 (Nat.le_of_ble_eq_true rfl) rfl ?_
        refine tq_aload_n rX12_wordIn_38 rfl ?_
        obtain ⟨p6, e6, hf⟩ := Option.bind_eq_some_iff.mp hf
        refine ty_callVV ([]) ([]) rX12_wordIn_39 l_X12_126 moX12_advance mvX12_advance h0 rfl rfl (Nat.le_of_ble_eq_true rfl) ⟨rfl, rfl⟩ (CX12_advance h0 e6) ?_
        refine tq_iload_n rX12_wordIn_42 rfl ?_
        refine ty_iret rX12_wordIn_43 rfl rfl ?_
        have hf := Option.some.inj hf
        subst hf
        exact ⟨rfl, rfl, rfl⟩
      · rw [if_pos c5] at hf
        exact tq_forget _ (tq_le_s (tq_le_u (tq_le_u (tq_le_u tq_le_n)))) (FX12_wordIn_j27_x  h0 hf ⟨rfl, rfl, rfl⟩)

abbrev mX12_endsLine : tq_M := (yX12_endsLine, cX12_endsLine, 1, (Option.none : Option Jvm.ClassFile.FieldType), 0, 0)
theorem rX12_endsLine_0 : tq_D cX12_endsLine 0 (.aload_n 0) 1 1 := ⟨by decide +kernel, rfl⟩
theorem rX12_endsLine_1 : tq_D cX12_endsLine 1 (.getfield 111) 3 4 := ⟨by decide +kernel, rfl⟩
theorem rX12_endsLine_4 : tq_J cX12_endsLine 4 (.ifCond .ne) 22 7 := ⟨18, by decide +kernel, by decide, rfl⟩
theorem rX12_endsLine_7 : tq_D cX12_endsLine 7 (.aload_n 0) 1 8 := ⟨by decide +kernel, rfl⟩
theorem rX12_endsLine_8 : tq_D cX12_endsLine 8 (.getfield 87) 3 11 := ⟨by decide +kernel, rfl⟩
theorem rX12_endsLine_11 : tq_D cX12_endsLine 11 (.iconst 2) 1 12 := ⟨by decide +kernel, rfl⟩
theorem rX12_endsLine_12 : tq_J cX12_endsLine 12 (.if_icmp .ne) 22 15 := ⟨10, by decide +kernel, by decide, rfl⟩
theorem rX12_endsLine_15 : tq_D cX12_endsLine 15 (.aload_n 0) 1 16 := ⟨by decide +kernel, rfl⟩
theorem rX12_endsLine_16 : tq_D cX12_endsLine 16 (.invokevirtual 126) 3 19 := ⟨by decide +kernel, rfl⟩
theorem rX12_endsLine_19 : tq_J cX12_endsLine 19 .goto 26 22 := ⟨7, by decide +kernel, by decide, rfl⟩
theorem rX12_endsLine_22 : tq_D cX12_endsLine 22 (.aload_n 0) 1 23 := ⟨by decide +kernel, rfl⟩
theorem rX12_endsLine_23 : tq_D cX12_endsLine 23 (.invokevirtual 115) 3 26 := ⟨by decide +kernel, rfl⟩
theorem rX12_endsLine_26 : decode cX12_endsLine 26 = .ok (.return_, 1) := by decide +kernel
noncomputable def FX12_endsLine_j22 (I : tq_PI) (L : tq_PL) (a0 : Nat) : Option (tq_PI) :=
  ((FX12_ends I L a0).bind fun p2 => some p2)
noncomputable def FX12_endsLine (I : tq_PI) (L : tq_PL) (a0 : Nat) : Option (tq_PI) :=
  (if (I a0 8) = 0 then (if (I a0 5) = (2 : Int32) then ((FX12_advance I L a0).bind fun p4 => some p4) else (FX12_endsLine_j22 I L a0)) else (FX12_endsLine_j22 I L a0))
set_option maxRecDepth 100000 in
set_option maxHeartbeats 4000000 in
theorem FX12_endsLine_j22_x {S : Nat × (Nat → Int32)} {d : Nat} {I : tq_PI} {L : tq_PL} {a0 : Nat} (h0 : tq_sh0 a0 = 12) {q0 : Option Value → tq_PI → tq_PL → Prop} {out : tq_PI} (hf : FX12_endsLine_j22 I L a0 = some out) (hk : q0 none out L) : tq_X S mX12_endsLine (d + 4) tq_k0 22 ([.ref a0]) ([]) (tq_st I L) (tq_Q q0) := by
  unfold FX12_endsLine_j22 at hf
  refine tq_aload_n rX12_endsLine_22 rfl ?_
  obtain ⟨p2, e2, hf⟩ := Option.bind_eq_some_iff.mp hf
  refine ty_callVV ([]) ([]) rX12_endsLine_23 l_X12_115 moX12_ends mvX12_ends h0 rfl rfl (Nat.le_of_ble_eq_true rfl) ⟨rfl, rfl⟩ (CX12_ends h0 e2) ?_
  refine ty_vret rX12_endsLine_26 rfl rfl ?_
  have hf := Option.some.inj hf
  subst hf
  exact hk

set_option maxRecDepth 100000 in
set_option maxHeartbeats 4000000 in
theorem CX12_endsLine {S : Nat × (Nat → Int32)} {d : Nat} {I : tq_PI} {L : tq_PL} {a0 : Nat} (h0 : tq_sh0 a0 = 12) {out : tq_PI} (hf : FX12_endsLine I L a0 = some out) : tq_K S mX12_endsLine (d + 4) [.ref a0] I L (tq_one2 (none) out L) := by
  unfold FX12_endsLine at hf
  refine tq_K_of (by decide) (Nat.le_of_ble_eq_true rfl) (ls := [.ref a0]) rfl ?_
  refine tq_aload_n rX12_endsLine_0 rfl ?_
  refine ty_getI rX12_endsLine_1 f_X12_111 rfl h0 ?_
  refine tq_if_ne rX12_endsLine_4 (fun c1 => ?_) (fun c1 => ?_)
  · rw [if_neg c1] at hf
    exact tq_forget _ (tq_le_s tq_le_n) (FX12_endsLine_j22_x  h0 hf ⟨rfl, rfl, rfl⟩)
  · rw [if_pos c1] at hf
    refine tq_aload_n rX12_endsLine_7 rfl ?_
    refine ty_getI rX12_endsLine_8 f_X12_87 rfl h0 ?_
    refine tq_iconst (2 : Int32) rX12_endsLine_11 (by decide) ?_
    refine tq_icmp_ne rX12_endsLine_12 (fun c3 => ?_) (fun c3 => ?_)
    · rw [if_neg c3] at hf
      exact tq_forget _ (tq_le_s tq_le_n) (FX12_endsLine_j22_x  h0 hf ⟨rfl, rfl, rfl⟩)
    · rw [if_pos c3] at hf
      refine tq_aload_n rX12_endsLine_15 rfl ?_
      obtain ⟨p4, e4, hf⟩ := Option.bind_eq_some_iff.mp hf
      refine ty_callVV ([]) ([]) rX12_endsLine_16 l_X12_126 moX12_advance mvX12_advance h0 rfl rfl (Nat.le_of_ble_eq_true rfl) ⟨rfl, rfl⟩ (CX12_advance h0 e4) ?_
      refine tq_goto rX12_endsLine_19 ?_
      refine ty_vret rX12_endsLine_26 rfl rfl ?_
      have hf := Option.some.inj hf
      subst hf
      exact ⟨rfl, rfl, rfl⟩

