/-! THE MIRROR, part 0: by program (wip/whole/gen_mirror.py). -/
abbrev mX3_take : tq_M := (yX3_take, cX3_take, 2, (Option.none : Option Jvm.ClassFile.FieldType), 0, 0)
theorem f_X3_15 : tq_fok RX3 15 3 1 := ⟨by decide, by decide, Or.inl (tq_sg1 _ (List.mem_of_getElem? (i := 50) rfl))⟩
theorem f_X3_18 : tq_fok RX3 18 3 2 := ⟨by decide, by decide, Or.inl (tq_sg1 _ (List.mem_of_getElem? (i := 52) rfl))⟩
theorem f_X3_22 : tq_fok RX3 22 3 3 := ⟨by decide, by decide, Or.inl (tq_sg1 _ (List.mem_of_getElem? (i := 54) rfl))⟩
theorem f_X3_25 : tq_fok RX3 25 3 4 := ⟨by decide, by decide, Or.inl (tq_sg1 _ (List.mem_of_getElem? (i := 55) rfl))⟩
theorem f_X3_28 : tq_fok RX3 28 3 5 := ⟨by decide, by decide, Or.inl (tq_sg1 _ (List.mem_of_getElem? (i := 56) rfl))⟩
theorem f_X3_31 : tq_fok RX3 31 3 6 := ⟨by decide, by decide, Or.inl (tq_sg1 _ (List.mem_of_getElem? (i := 58) rfl))⟩
theorem f_X3_34 : tq_fok RX3 34 3 7 := ⟨by decide, by decide, Or.inl (tq_sg1 _ (List.mem_of_getElem? (i := 59) rfl))⟩
theorem f_X3_37 : tq_fok RX3 37 3 8 := ⟨by decide, by decide, Or.inl (tq_sg1 _ (List.mem_of_getElem? (i := 60) rfl))⟩
theorem f_X3_40 : tq_fok RX3 40 3 9 := ⟨by decide, by decide, Or.inl (tq_sg1 _ (List.mem_of_getElem? (i := 61) rfl))⟩
theorem f_X3_9 : tq_fok RX3 9 3 0 := ⟨by decide, by decide, Or.inl (tq_sg1 _ (List.mem_of_getElem? (i := 48) rfl))⟩
theorem rX3_take_0 : tq_D cX3_take 0 (.aload_n 0) 1 1 := ⟨by decide +kernel, rfl⟩
theorem rX3_take_1 : tq_D cX3_take 1 (.aload_n 1) 1 2 := ⟨by decide +kernel, rfl⟩
theorem rX3_take_2 : tq_D cX3_take 2 (.getfield 9) 3 5 := ⟨by decide +kernel, rfl⟩
theorem rX3_take_5 : tq_D cX3_take 5 (.putfield 9) 3 8 := ⟨by decide +kernel, rfl⟩
theorem rX3_take_8 : tq_D cX3_take 8 (.aload_n 0) 1 9 := ⟨by decide +kernel, rfl⟩
theorem rX3_take_9 : tq_D cX3_take 9 (.aload_n 1) 1 10 := ⟨by decide +kernel, rfl⟩
theorem rX3_take_10 : tq_D cX3_take 10 (.getfield 15) 3 13 := ⟨by decide +kernel, rfl⟩
theorem rX3_take_13 : tq_D cX3_take 13 (.putfield 15) 3 16 := ⟨by decide +kernel, rfl⟩
theorem rX3_take_16 : tq_D cX3_take 16 (.aload_n 0) 1 17 := ⟨by decide +kernel, rfl⟩
theorem rX3_take_17 : tq_D cX3_take 17 (.aload_n 1) 1 18 := ⟨by decide +kernel, rfl⟩
theorem rX3_take_18 : tq_D cX3_take 18 (.getfield 18) 3 21 := ⟨by decide +kernel, rfl⟩
theorem rX3_take_21 : tq_D cX3_take 21 (.putfield 18) 3 24 := ⟨by decide +kernel, rfl⟩
theorem rX3_take_24 : tq_D cX3_take 24 (.aload_n 0) 1 25 := ⟨by decide +kernel, rfl⟩
theorem rX3_take_25 : tq_D cX3_take 25 (.aload_n 1) 1 26 := ⟨by decide +kernel, rfl⟩
theorem rX3_take_26 : tq_D cX3_take 26 (.getfield 22) 3 29 := ⟨by decide +kernel, rfl⟩
theorem rX3_take_29 : tq_D cX3_take 29 (.putfield 22) 3 32 := ⟨by decide +kernel, rfl⟩
theorem rX3_take_32 : tq_D cX3_take 32 (.aload_n 0) 1 33 := ⟨by decide +kernel, rfl⟩
theorem rX3_take_33 : tq_D cX3_take 33 (.aload_n 1) 1 34 := ⟨by decide +kernel, rfl⟩
theorem rX3_take_34 : tq_D cX3_take 34 (.getfield 25) 3 37 := ⟨by decide +kernel, rfl⟩
theorem rX3_take_37 : tq_D cX3_take 37 (.putfield 25) 3 40 := ⟨by decide +kernel, rfl⟩
theorem rX3_take_40 : tq_D cX3_take 40 (.aload_n 0) 1 41 := ⟨by decide +kernel, rfl⟩
theorem rX3_take_41 : tq_D cX3_take 41 (.aload_n 1) 1 42 := ⟨by decide +kernel, rfl⟩
theorem rX3_take_42 : tq_D cX3_take 42 (.getfield 28) 3 45 := ⟨by decide +kernel, rfl⟩
theorem rX3_take_45 : tq_D cX3_take 45 (.putfield 28) 3 48 := ⟨by decide +kernel, rfl⟩
theorem rX3_take_48 : tq_D cX3_take 48 (.aload_n 0) 1 49 := ⟨by decide +kernel, rfl⟩
theorem rX3_take_49 : tq_D cX3_take 49 (.aload_n 1) 1 50 := ⟨by decide +kernel, rfl⟩
theorem rX3_take_50 : tq_D cX3_take 50 (.getfield 31) 3 53 := ⟨by decide +kernel, rfl⟩
theorem rX3_take_53 : tq_D cX3_take 53 (.putfield 31) 3 56 := ⟨by decide +kernel, rfl⟩
theorem rX3_take_56 : tq_D cX3_take 56 (.aload_n 0) 1 57 := ⟨by decide +kernel, rfl⟩
theorem rX3_take_57 : tq_D cX3_take 57 (.aload_n 1) 1 58 := ⟨by decide +kernel, rfl⟩
theorem rX3_take_58 : tq_D cX3_take 58 (.getfield 34) 3 61 := ⟨by decide +kernel, rfl⟩
theorem rX3_take_61 : tq_D cX3_take 61 (.putfield 34) 3 64 := ⟨by decide +kernel, rfl⟩
theorem rX3_take_64 : tq_D cX3_take 64 (.aload_n 0) 1 65 := ⟨by decide +kernel, rfl⟩
theorem rX3_take_65 : tq_D cX3_take 65 (.aload_n 1) 1 66 := ⟨by decide +kernel, rfl⟩
theorem rX3_take_66 : tq_D cX3_take 66 (.getfield 37) 3 69 := ⟨by decide +kernel, rfl⟩
theorem rX3_take_69 : tq_D cX3_take 69 (.putfield 37) 3 72 := ⟨by decide +kernel, rfl⟩
theorem rX3_take_72 : tq_D cX3_take 72 (.aload_n 0) 1 73 := ⟨by decide +kernel, rfl⟩
theorem rX3_take_73 : tq_D cX3_take 73 (.aload_n 1) 1 74 := ⟨by decide +kernel, rfl⟩
theorem rX3_take_74 : tq_D cX3_take 74 (.getfield 40) 3 77 := ⟨by decide +kernel, rfl⟩
theorem rX3_take_77 : tq_D cX3_take 77 (.putfield 40) 3 80 := ⟨by decide +kernel, rfl⟩
theorem rX3_take_80 : decode cX3_take 80 = .ok (.return_, 1) := by decide +kernel
noncomputable def FX3_take (I : tq_PI) (L : tq_PL) (a0 : Nat) (a1 : Nat) : tq_PI × tq_PL :=
  ((tq_up2 (tq_up2 I a0 0 (I a1 0)) a0 1 (((tq_up2 I a0 0 (I a1 0))) a1 1)), (tq_up2 (tq_up2 (tq_up2 (tq_up2 (tq_up2 (tq_up2 (tq_up2 (tq_up2 L a0 2 (L a1 2)) a0 3 (((tq_up2 L a0 2 (L a1 2))) a1 3)) a0 4 (((tq_up2 (tq_up2 L a0 2 (L a1 2)) a0 3 (((tq_up2 L a0 2 (L a1 2))) a1 3))) a1 4)) a0 5 (((tq_up2 (tq_up2 (tq_up2 L a0 2 (L a1 2)) a0 3 (((tq_up2 L a0 2 (L a1 2))) a1 3)) a0 4 (((tq_up2 (tq_up2 L a0 2 (L a1 2)) a0 3 (((tq_up2 L a0 2 (L a1 2))) a1 3))) a1 4))) a1 5)) a0 6 (((tq_up2 (tq_up2 (tq_up2 (tq_up2 L a0 2 (L a1 2)) a0 3 (((tq_up2 L a0 2 (L a1 2))) a1 3)) a0 4 (((tq_up2 (tq_up2 L a0 2 (L a1 2)) a0 3 (((tq_up2 L a0 2 (L a1 2))) a1 3))) a1 4)) a0 5 (((tq_up2 (tq_up2 (tq_up2 L a0 2 (L a1 2)) a0 3 (((tq_up2 L a0 2 (L a1 2))) a1 3)) a0 4 (((tq_up2 (tq_up2 L a0 2 (L a1 2)) a0 3 (((tq_up2 L a0 2 (L a1 2))) a1 3))) a1 4))) a1 5))) a1 6)) a0 7 (((tq_up2 (tq_up2 (tq_up2 (tq_up2 (tq_up2 L a0 2 (L a1 2)) a0 3 (((tq_up2 L a0 2 (L a1 2))) a1 3)) a0 4 (((tq_up2 (tq_up2 L a0 2 (L a1 2)) a0 3 (((tq_up2 L a0 2 (L a1 2))) a1 3))) a1 4)) a0 5 (((tq_up2 (tq_up2 (tq_up2 L a0 2 (L a1 2)) a0 3 (((tq_up2 L a0 2 (L a1 2))) a1 3)) a0 4 (((tq_up2 (tq_up2 L a0 2 (L a1 2)) a0 3 (((tq_up2 L a0 2 (L a1 2))) a1 3))) a1 4))) a1 5)) a0 6 (((tq_up2 (tq_up2 (tq_up2 (tq_up2 L a0 2 (L a1 2)) a0 3 (((tq_up2 L a0 2 (L a1 2))) a1 3)) a0 4 (((tq_up2 (tq_up2 L a0 2 (L a1 2)) a0 3 (((tq_up2 L a0 2 (L a1 2))) a1 3))) a1 4)) a0 5 (((tq_up2 (tq_up2 (tq_up2 L a0 2 (L a1 2)) a0 3 (((tq_up2 L a0 2 (L a1 2))) a1 3)) a0 4 (((tq_up2 (tq_up2 L a0 2 (L a1 2)) a0 3 (((tq_up2 L a0 2 (L a1 2))) a1 3))) a1 4))) a1 5))) a1 6))) a1 7)) a0 8 (((tq_up2 (tq_up2 (tq_up2 (tq_up2 (tq_up2 (tq_up2 L a0 2 (L a1 2)) a0 3 (((tq_up2 L a0 2 (L a1 2))) a1 3)) a0 4 (((tq_up2 (tq_up2 L a0 2 (L a1 2)) a0 3 (((tq_up2 L a0 2 (L a1 2))) a1 3))) a1 4)) a0 5 (((tq_up2 (tq_up2 (tq_up2 L a0 2 (L a1 2)) a0 3 (((tq_up2 L a0 2 (L a1 2))) a1 3)) a0 4 (((tq_up2 (tq_up2 L a0 2 (L a1 2)) a0 3 (((tq_up2 L a0 2 (L a1 2))) a1 3))) a1 4))) a1 5)) a0 6 (((tq_up2 (tq_up2 (tq_up2 (tq_up2 L a0 2 (L a1 2)) a0 3 (((tq_up2 L a0 2 (L a1 2))) a1 3)) a0 4 (((tq_up2 (tq_up2 L a0 2 (L a1 2)) a0 3 (((tq_up2 L a0 2 (L a1 2))) a1 3))) a1 4)) a0 5 (((tq_up2 (tq_up2 (tq_up2 L a0 2 (L a1 2)) a0 3 (((tq_up2 L a0 2 (L a1 2))) a1 3)) a0 4 (((tq_up2 (tq_up2 L a0 2 (L a1 2)) a0 3 (((tq_up2 L a0 2 (L a1 2))) a1 3))) a1 4))) a1 5))) a1 6)) a0 7 (((tq_up2 (tq_up2 (tq_up2 (tq_up2 (tq_up2 L a0 2 (L a1 2)) a0 3 (((tq_up2 L a0 2 (L a1 2))) a1 3)) a0 4 (((tq_up2 (tq_up2 L a0 2 (L a1 2)) a0 3 (((tq_up2 L a0 2 (L a1 2))) a1 3))) a1 4)) a0 5 (((tq_up2 (tq_up2 (tq_up2 L a0 2 (L a1 2)) a0 3 (((tq_up2 L a0 2 (L a1 2))) a1 3)) a0 4 (((tq_up2 (tq_up2 L a0 2 (L a1 2)) a0 3 (((tq_up2 L a0 2 (L a1 2))) a1 3))) a1 4))) a1 5)) a0 6 (((tq_up2 (tq_up2 (tq_up2 (tq_up2 L a0 2 (L a1 2)) a0 3 (((tq_up2 L a0 2 (L a1 2))) a1 3)) a0 4 (((tq_up2 (tq_up2 L a0 2 (L a1 2)) a0 3 (((tq_up2 L a0 2 (L a1 2))) a1 3))) a1 4)) a0 5 (((tq_up2 (tq_up2 (tq_up2 L a0 2 (L a1 2)) a0 3 (((tq_up2 L a0 2 (L a1 2))) a1 3)) a0 4 (((tq_up2 (tq_up2 L a0 2 (L a1 2)) a0 3 (((tq_up2 L a0 2 (L a1 2))) a1 3))) a1 4))) a1 5))) a1 6))) a1 7))) a1 8)) a0 9 (((tq_up2 (tq_up2 (tq_up2 (tq_up2 (tq_up2 (tq_up2 (tq_up2 L a0 2 (L a1 2)) a0 3 (((tq_up2 L a0 2 (L a1 2))) a1 3)) a0 4 (((tq_up2 (tq_up2 L a0 2 (L a1 2)) a0 3 (((tq_up2 L a0 2 (L a1 2))) a1 3))) a1 4)) a0 5 (((tq_up2 (tq_up2 (tq_up2 L a0 2 (L a1 2)) a0 3 (((tq_up2 L a0 2 (L a1 2))) a1 3)) a0 4 (((tq_up2 (tq_up2 L a0 2 (L a1 2)) a0 3 (((tq_up2 L a0 2 (L a1 2))) a1 3))) a1 4))) a1 5)) a0 6 (((tq_up2 (tq_up2 (tq_up2 (tq_up2 L a0 2 (L a1 2)) a0 3 (((tq_up2 L a0 2 (L a1 2))) a1 3)) a0 4 (((tq_up2 (tq_up2 L a0 2 (L a1 2)) a0 3 (((tq_up2 L a0 2 (L a1 2))) a1 3))) a1 4)) a0 5 (((tq_up2 (tq_up2 (tq_up2 L a0 2 (L a1 2)) a0 3 (((tq_up2 L a0 2 (L a1 2))) a1 3)) a0 4 (((tq_up2 (tq_up2 L a0 2 (L a1 2)) a0 3 (((tq_up2 L a0 2 (L a1 2))) a1 3))) a1 4))) a1 5))) a1 6)) a0 7 (((tq_up2 (tq_up2 (tq_up2 (tq_up2 (tq_up2 L a0 2 (L a1 2)) a0 3 (((tq_up2 L a0 2 (L a1 2))) a1 3)) a0 4 (((tq_up2 (tq_up2 L a0 2 (L a1 2)) a0 3 (((tq_up2 L a0 2 (L a1 2))) a1 3))) a1 4)) a0 5 (((tq_up2 (tq_up2 (tq_up2 L a0 2 (L a1 2)) a0 3 (((tq_up2 L a0 2 (L a1 2))) a1 3)) a0 4 (((tq_up2 (tq_up2 L a0 2 (L a1 2)) a0 3 (((tq_up2 L a0 2 (L a1 2))) a1 3))) a1 4))) a1 5)) a0 6 (((tq_up2 (tq_up2 (tq_up2 (tq_up2 L a0 2 (L a1 2)) a0 3 (((tq_up2 L a0 2 (L a1 2))) a1 3)) a0 4 (((tq_up2 (tq_up2 L a0 2 (L a1 2)) a0 3 (((tq_up2 L a0 2 (L a1 2))) a1 3))) a1 4)) a0 5 (((tq_up2 (tq_up2 (tq_up2 L a0 2 (L a1 2)) a0 3 (((tq_up2 L a0 2 (L a1 2))) a1 3)) a0 4 (((tq_up2 (tq_up2 L a0 2 (L a1 2)) a0 3 (((tq_up2 L a0 2 (L a1 2))) a1 3))) a1 4))) a1 5))) a1 6))) a1 7)) a0 8 (((tq_up2 (tq_up2 (tq_up2 (tq_up2 (tq_up2 (tq_up2 L a0 2 (L a1 2)) a0 3 (((tq_up2 L a0 2 (L a1 2))) a1 3)) a0 4 (((tq_up2 (tq_up2 L a0 2 (L a1 2)) a0 3 (((tq_up2 L a0 2 (L a1 2))) a1 3))) a1 4)) a0 5 (((tq_up2 (tq_up2 (tq_up2 L a0 2 (L a1 2)) a0 3 (((tq_up2 L a0 2 (L a1 2))) a1 3)) a0 4 (((tq_up2 (tq_up2 L a0 2 (L a1 2)) a0 3 (((tq_up2 L a0 2 (L a1 2))) a1 3))) a1 4))) a1 5)) a0 6 (((tq_up2 (tq_up2 (tq_up2 (tq_up2 L a0 2 (L a1 2)) a0 3 (((tq_up2 L a0 2 (L a1 2))) a1 3)) a0 4 (((tq_up2 (tq_up2 L a0 2 (L a1 2)) a0 3 (((tq_up2 L a0 2 (L a1 2))) a1 3))) a1 4)) a0 5 (((tq_up2 (tq_up2 (tq_up2 L a0 2 (L a1 2)) a0 3 (((tq_up2 L a0 2 (L a1 2))) a1 3)) a0 4 (((tq_up2 (tq_up2 L a0 2 (L a1 2)) a0 3 (((tq_up2 L a0 2 (L a1 2))) a1 3))) a1 4))) a1 5))) a1 6)) a0 7 (((tq_up2 (tq_up2 (tq_up2 (tq_up2 (tq_up2 L a0 2 (L a1 2)) a0 3 (((tq_up2 L a0 2 (L a1 2))) a1 3)) a0 4 (((tq_up2 (tq_up2 L a0 2 (L a1 2)) a0 3 (((tq_up2 L a0 2 (L a1 2))) a1 3))) a1 4)) a0 5 (((tq_up2 (tq_up2 (tq_up2 L a0 2 (L a1 2)) a0 3 (((tq_up2 L a0 2 (L a1 2))) a1 3)) a0 4 (((tq_up2 (tq_up2 L a0 2 (L a1 2)) a0 3 (((tq_up2 L a0 2 (L a1 2))) a1 3))) a1 4))) a1 5)) a0 6 (((tq_up2 (tq_up2 (tq_up2 (tq_up2 L a0 2 (L a1 2)) a0 3 (((tq_up2 L a0 2 (L a1 2))) a1 3)) a0 4 (((tq_up2 (tq_up2 L a0 2 (L a1 2)) a0 3 (((tq_up2 L a0 2 (L a1 2))) a1 3))) a1 4)) a0 5 (((tq_up2 (tq_up2 (tq_up2 L a0 2 (L a1 2)) a0 3 (((tq_up2 L a0 2 (L a1 2))) a1 3)) a0 4 (((tq_up2 (tq_up2 L a0 2 (L a1 2)) a0 3 (((tq_up2 L a0 2 (L a1 2))) a1 3))) a1 4))) a1 5))) a1 6))) a1 7))) a1 8))) a1 9)))
set_option maxRecDepth 100000 in
set_option maxHeartbeats 4000000 in
theorem CX3_take {S : Nat × (Nat → Int32)} {d : Nat} {I : tq_PI} {L : tq_PL} {a0 : Nat} {a1 : Nat} (h0 : tq_sh0 a0 = 3) (h1 : tq_sh0 a1 = 3) {out : tq_PI × tq_PL} (hf : FX3_take I L a0 a1 = out) : tq_K S mX3_take d [.ref a0, .ref a1] I L (tq_one2 (none) out.1 out.2) := by
  unfold FX3_take at hf
  refine tq_K_of (by decide) (Nat.le_of_ble_eq_true rfl) (ls := [.ref a0, .ref a1]) rfl ?_
  refine tq_aload_n rX3_take_0 rfl ?_
  refine tq_aload_n rX3_take_1 rfl ?_
  refine ty_getI rX3_take_2 f_X3_9 rfl h1 ?_
  refine ty_putI rX3_take_5 f_X3_9 rfl h0 rfl ?_
  refine tq_aload_n rX3_take_8 rfl ?_
  refine tq_aload_n rX3_take_9 rfl ?_
  refine ty_getI rX3_take_10 f_X3_15 rfl h1 ?_
  refine ty_putI rX3_take_13 f_X3_15 rfl h0 rfl ?_
  refine tq_aload_n rX3_take_16 rfl ?_
  refine tq_aload_n rX3_take_17 rfl ?_
  refine ty_getL rX3_take_18 f_X3_18 rfl h1 ?_
  refine ty_putL rX3_take_21 f_X3_18 rfl h0 rfl ?_
  refine tq_aload_n rX3_take_24 rfl ?_
  refine tq_aload_n rX3_take_25 rfl ?_
  refine ty_getL rX3_take_26 f_X3_22 rfl h1 ?_
  refine ty_putL rX3_take_29 f_X3_22 rfl h0 rfl ?_
  refine tq_aload_n rX3_take_32 rfl ?_
  refine tq_aload_n rX3_take_33 rfl ?_
  refine ty_getL rX3_take_34 f_X3_25 rfl h1 ?_
  refine ty_putL rX3_take_37 f_X3_25 rfl h0 rfl ?_
  refine tq_aload_n rX3_take_40 rfl ?_
  refine tq_aload_n rX3_take_41 rfl ?_
  refine ty_getL rX3_take_42 f_X3_28 rfl h1 ?_
  refine ty_putL rX3_take_45 f_X3_28 rfl h0 rfl ?_
  refine tq_aload_n rX3_take_48 rfl ?_
  refine tq_aload_n rX3_take_49 rfl ?_
  refine ty_getL rX3_take_50 f_X3_31 rfl h1 ?_
  refine ty_putL rX3_take_53 f_X3_31 rfl h0 rfl ?_
  refine tq_aload_n rX3_take_56 rfl ?_
  refine tq_aload_n rX3_take_57 rfl ?_
  refine ty_getL rX3_take_58 f_X3_34 rfl h1 ?_
  refine ty_putL rX3_take_61 f_X3_34 rfl h0 rfl ?_
  refine tq_aload_n rX3_take_64 rfl ?_
  refine tq_aload_n rX3_take_65 rfl ?_
  refine ty_getL rX3_take_66 f_X3_37 rfl h1 ?_
  refine ty_putL rX3_take_69 f_X3_37 rfl h0 rfl ?_
  refine tq_aload_n rX3_take_72 rfl ?_
  refine tq_aload_n rX3_take_73 rfl ?_
  refine ty_getL rX3_take_74 f_X3_40 rfl h1 ?_
  refine ty_putL rX3_take_77 f_X3_40 rfl h0 rfl ?_
  refine ty_vret rX3_take_80 rfl rfl ?_
  subst hf
  exact ⟨rfl, rfl, rfl⟩

abbrev mX10_take : tq_M := (yX10_take, cX10_take, 2, (Option.none : Option Jvm.ClassFile.FieldType), 0, 0)
theorem f_X10_15 : tq_fok RX10 15 10 1 := ⟨by decide, by decide, Or.inl (tq_sg1 _ (List.mem_of_getElem? (i := 94) rfl))⟩
theorem f_X10_19 : tq_fok RX10 19 10 2 := ⟨by decide, by decide, Or.inl (tq_sg1 _ (List.mem_of_getElem? (i := 95) rfl))⟩
theorem f_X10_22 : tq_fok RX10 22 10 3 := ⟨by decide, by decide, Or.inl (tq_sg1 _ (List.mem_of_getElem? (i := 96) rfl))⟩
theorem f_X10_9 : tq_fok RX10 9 10 0 := ⟨by decide, by decide, Or.inl (tq_sg1 _ (List.mem_of_getElem? (i := 90) rfl))⟩
theorem n_X10_25 : Cond.methodLink RX10 25 arraycopyName ∈ lw_tbl ∧ Cond.native arraycopyName ∈ lw_tbl ∧ Cond.static arraycopyName ∈ lw_tbl ∧ Cond.initialized "java/lang/System" ∈ lw_tbl := ⟨tq_sg3 _ (List.mem_of_getElem? (i := 158) rfl), tq_sg2 _ (List.mem_of_getElem? (i := 184) rfl), tq_sg2 _ (List.mem_of_getElem? (i := 183) rfl), tq_sg1 _ (List.mem_of_getElem? (i := 15) rfl)⟩
theorem rX10_take_0 : tq_D cX10_take 0 (.aload_n 0) 1 1 := ⟨by decide +kernel, rfl⟩
theorem rX10_take_1 : tq_D cX10_take 1 (.aload_n 1) 1 2 := ⟨by decide +kernel, rfl⟩
theorem rX10_take_2 : tq_D cX10_take 2 (.getfield 9) 3 5 := ⟨by decide +kernel, rfl⟩
theorem rX10_take_5 : tq_D cX10_take 5 (.putfield 9) 3 8 := ⟨by decide +kernel, rfl⟩
theorem rX10_take_8 : tq_D cX10_take 8 (.aload_n 1) 1 9 := ⟨by decide +kernel, rfl⟩
theorem rX10_take_9 : tq_D cX10_take 9 (.getfield 15) 3 12 := ⟨by decide +kernel, rfl⟩
theorem rX10_take_12 : tq_D cX10_take 12 (.iconst 0) 1 13 := ⟨by decide +kernel, rfl⟩
theorem rX10_take_13 : tq_D cX10_take 13 (.aload_n 0) 1 14 := ⟨by decide +kernel, rfl⟩
theorem rX10_take_14 : tq_D cX10_take 14 (.getfield 15) 3 17 := ⟨by decide +kernel, rfl⟩
theorem rX10_take_17 : tq_D cX10_take 17 (.iconst 0) 1 18 := ⟨by decide +kernel, rfl⟩
theorem rX10_take_18 : tq_D cX10_take 18 (.bipush 40) 2 20 := ⟨by decide +kernel, rfl⟩
theorem rX10_take_20 : tq_D cX10_take 20 (.invokestatic 25) 3 23 := ⟨by decide +kernel, rfl⟩
theorem rX10_take_23 : tq_D cX10_take 23 (.aload_n 1) 1 24 := ⟨by decide +kernel, rfl⟩
theorem rX10_take_24 : tq_D cX10_take 24 (.getfield 19) 3 27 := ⟨by decide +kernel, rfl⟩
theorem rX10_take_27 : tq_D cX10_take 27 (.iconst 0) 1 28 := ⟨by decide +kernel, rfl⟩
theorem rX10_take_28 : tq_D cX10_take 28 (.aload_n 0) 1 29 := ⟨by decide +kernel, rfl⟩
theorem rX10_take_29 : tq_D cX10_take 29 (.getfield 19) 3 32 := ⟨by decide +kernel, rfl⟩
theorem rX10_take_32 : tq_D cX10_take 32 (.iconst 0) 1 33 := ⟨by decide +kernel, rfl⟩
theorem rX10_take_33 : tq_D cX10_take 33 (.bipush 40) 2 35 := ⟨by decide +kernel, rfl⟩
theorem rX10_take_35 : tq_D cX10_take 35 (.invokestatic 25) 3 38 := ⟨by decide +kernel, rfl⟩
theorem rX10_take_38 : tq_D cX10_take 38 (.aload_n 1) 1 39 := ⟨by decide +kernel, rfl⟩
theorem rX10_take_39 : tq_D cX10_take 39 (.getfield 22) 3 42 := ⟨by decide +kernel, rfl⟩
theorem rX10_take_42 : tq_D cX10_take 42 (.iconst 0) 1 43 := ⟨by decide +kernel, rfl⟩
theorem rX10_take_43 : tq_D cX10_take 43 (.aload_n 0) 1 44 := ⟨by decide +kernel, rfl⟩
theorem rX10_take_44 : tq_D cX10_take 44 (.getfield 22) 3 47 := ⟨by decide +kernel, rfl⟩
theorem rX10_take_47 : tq_D cX10_take 47 (.iconst 0) 1 48 := ⟨by decide +kernel, rfl⟩
theorem rX10_take_48 : tq_D cX10_take 48 (.bipush 40) 2 50 := ⟨by decide +kernel, rfl⟩
theorem rX10_take_50 : tq_D cX10_take 50 (.invokestatic 25) 3 53 := ⟨by decide +kernel, rfl⟩
theorem rX10_take_53 : decode cX10_take 53 = .ok (.return_, 1) := by decide +kernel
noncomputable def FX10_take (I : tq_PI) (L : tq_PL) (a0 : Nat) (a1 : Nat) : Option (tq_PI) :=
  (if (0 ≤ (0 : Int32) ∧ 0 ≤ (0 : Int32) ∧ 0 ≤ (40 : Int32)) ∧ ((0 : Int32) : Int32).toNatClampNeg + ((40 : Int32) : Int32).toNatClampNeg ≤ 40 ∧ ((0 : Int32) : Int32).toNatClampNeg + ((40 : Int32) : Int32).toNatClampNeg ≤ 40 then (if (0 ≤ (0 : Int32) ∧ 0 ≤ (0 : Int32) ∧ 0 ≤ (40 : Int32)) ∧ ((0 : Int32) : Int32).toNatClampNeg + ((40 : Int32) : Int32).toNatClampNeg ≤ 40 ∧ ((0 : Int32) : Int32).toNatClampNeg + ((40 : Int32) : Int32).toNatClampNeg ≤ 40 then (if (0 ≤ (0 : Int32) ∧ 0 ≤ (0 : Int32) ∧ 0 ≤ (40 : Int32)) ∧ ((0 : Int32) : Int32).toNatClampNeg + ((40 : Int32) : Int32).toNatClampNeg ≤ 40 ∧ ((0 : Int32) : Int32).toNatClampNeg + ((40 : Int32) : Int32).toNatClampNeg ≤ 40 then some (tq_cpr (tq_cpr (tq_cpr (tq_up2 I a0 0 (I a1 0)) (tq_rg a1 1) (tq_rg a0 1) (0 : Int32) (0 : Int32) (40 : Int32)) (tq_rg a1 2) (tq_rg a0 2) (0 : Int32) (0 : Int32) (40 : Int32)) (tq_rg a1 3) (tq_rg a0 3) (0 : Int32) (0 : Int32) (40 : Int32)) else none) else none) else none)
set_option maxRecDepth 100000 in
set_option maxHeartbeats 4000000 in
theorem CX10_take {S : Nat × (Nat → Int32)} {d : Nat} {I : tq_PI} {L : tq_PL} {a0 : Nat} {a1 : Nat} (h0 : tq_sh0 a0 = 10) (h1 : tq_sh0 a1 = 10) {out : tq_PI} (hf : FX10_take I L a0 a1 = some out) : tq_K S mX10_take (d + 1) [.ref a0, .ref a1] I L (tq_one2 (none) out L) := by
  unfold FX10_take at hf
  refine tq_K_of (by decide) (Nat.le_of_ble_eq_true rfl) (ls := [.ref a0, .ref a1]) rfl ?_
  refine tq_aload_n rX10_take_0 rfl ?_
  refine tq_aload_n rX10_take_1 rfl ?_
  refine ty_getI rX10_take_2 f_X10_9 rfl h1 ?_
  refine ty_putI rX10_take_5 f_X10_9 rfl h0 rfl ?_
  refine tq_aload_n rX10_take_8 rfl ?_
  refine ty_getR rX10_take_9 f_X10_15 rfl h1 (hp_10_1 h1).1 ?_
  refine tq_iconst (0 : Int32) rX10_take_12 (by decide) ?_
  refine tq_aload_n rX10_take_13 rfl ?_
  refine ty_getR rX10_take_14 f_X10_15 rfl h0 (hp_10_1 h0).1 ?_
  refine tq_iconst (0 : Int32) rX10_take_17 (by decide) ?_
  refine tq_bipush (40 : Int32) rX10_take_18 (by decide) ?_
  obtain ⟨g1, hf⟩ := tq_chk hf
  refine ty_copy rX10_take_20 (Nat.le_of_ble_eq_true rfl) n_X10_25 (by decide) (hp_10_1 h1).2.1 (hp_10_1 h0).2.1 (hp_10_1 h1).2.2 (hp_10_1 h0).2.2 g1 ?_
  refine tq_aload_n rX10_take_23 rfl ?_
  refine ty_getR rX10_take_24 f_X10_19 rfl h1 (hp_10_2 h1).1 ?_
  refine tq_iconst (0 : Int32) rX10_take_27 (by decide) ?_
  refine tq_aload_n rX10_take_28 rfl ?_
  refine ty_getR rX10_take_29 f_X10_19 rfl h0 (hp_10_2 h0).1 ?_
  refine tq_iconst (0 : Int32) rX10_take_32 (by decide) ?_
  refine tq_bipush (40 : Int32) rX10_take_33 (by decide) ?_
  obtain ⟨g2, hf⟩ := tq_chk hf
  refine ty_copy rX10_take_35 (Nat.le_of_ble_eq_true rfl) n_X10_25 (by decide) (hp_10_2 h1).2.1 (hp_10_2 h0).2.1 (hp_10_2 h1).2.2 (hp_10_2 h0).2.2 g2 ?_
  refine tq_aload_n rX10_take_38 rfl ?_
  refine ty_getR rX10_take_39 f_X10_22 rfl h1 (hp_10_3 h1).1 ?_
  refine tq_iconst (0 : Int32) rX10_take_42 (by decide) ?_
  refine tq_aload_n rX10_take_43 rfl ?_
  refine ty_getR rX10_take_44 f_X10_22 rfl h0 (hp_10_3 h0).1 ?_
  refine tq_iconst (0 : Int32) rX10_take_47 (by decide) ?_
  refine tq_bipush (40 : Int32) rX10_take_48 (by decide) ?_
  obtain ⟨g3, hf⟩ := tq_chk hf
  refine ty_copy rX10_take_50 (Nat.le_of_ble_eq_true rfl) n_X10_25 (by decide) (hp_10_3 h1).2.1 (hp_10_3 h0).2.1 (hp_10_3 h1).2.2 (hp_10_3 h0).2.2 g3 ?_
  refine ty_vret rX10_take_53 rfl rfl ?_
  have hf := Option.some.inj hf
  subst hf
  exact ⟨rfl, rfl, rfl⟩

abbrev mX4_take : tq_M := (yX4_take, cX4_take, 2, (Option.none : Option Jvm.ClassFile.FieldType), 0, 0)
theorem f_X4_15 : tq_fok RX4 15 4 1 := ⟨by decide, by decide, Or.inl (tq_sg1 _ (List.mem_of_getElem? (i := 115) rfl))⟩
theorem f_X4_19 : tq_fok RX4 19 4 2 := ⟨by decide, by decide, Or.inl (tq_sg1 _ (List.mem_of_getElem? (i := 116) rfl))⟩
theorem f_X4_9 : tq_fok RX4 9 4 0 := ⟨by decide, by decide, Or.inl (tq_sg1 _ (List.mem_of_getElem? (i := 111) rfl))⟩
theorem n_X4_22 : Cond.methodLink RX4 22 arraycopyName ∈ lw_tbl ∧ Cond.native arraycopyName ∈ lw_tbl ∧ Cond.static arraycopyName ∈ lw_tbl ∧ Cond.initialized "java/lang/System" ∈ lw_tbl := ⟨tq_sg3 _ (List.mem_of_getElem? (i := 167) rfl), tq_sg2 _ (List.mem_of_getElem? (i := 184) rfl), tq_sg2 _ (List.mem_of_getElem? (i := 183) rfl), tq_sg1 _ (List.mem_of_getElem? (i := 15) rfl)⟩
theorem rX4_take_0 : tq_D cX4_take 0 (.aload_n 0) 1 1 := ⟨by decide +kernel, rfl⟩
theorem rX4_take_1 : tq_D cX4_take 1 (.aload_n 1) 1 2 := ⟨by decide +kernel, rfl⟩
theorem rX4_take_2 : tq_D cX4_take 2 (.getfield 9) 3 5 := ⟨by decide +kernel, rfl⟩
theorem rX4_take_5 : tq_D cX4_take 5 (.putfield 9) 3 8 := ⟨by decide +kernel, rfl⟩
theorem rX4_take_8 : tq_D cX4_take 8 (.aload_n 1) 1 9 := ⟨by decide +kernel, rfl⟩
theorem rX4_take_9 : tq_D cX4_take 9 (.getfield 15) 3 12 := ⟨by decide +kernel, rfl⟩
theorem rX4_take_12 : tq_D cX4_take 12 (.iconst 0) 1 13 := ⟨by decide +kernel, rfl⟩
theorem rX4_take_13 : tq_D cX4_take 13 (.aload_n 0) 1 14 := ⟨by decide +kernel, rfl⟩
theorem rX4_take_14 : tq_D cX4_take 14 (.getfield 15) 3 17 := ⟨by decide +kernel, rfl⟩
theorem rX4_take_17 : tq_D cX4_take 17 (.iconst 0) 1 18 := ⟨by decide +kernel, rfl⟩
theorem rX4_take_18 : tq_D cX4_take 18 (.bipush 8) 2 20 := ⟨by decide +kernel, rfl⟩
theorem rX4_take_20 : tq_D cX4_take 20 (.invokestatic 22) 3 23 := ⟨by decide +kernel, rfl⟩
theorem rX4_take_23 : tq_D cX4_take 23 (.aload_n 1) 1 24 := ⟨by decide +kernel, rfl⟩
theorem rX4_take_24 : tq_D cX4_take 24 (.getfield 19) 3 27 := ⟨by decide +kernel, rfl⟩
theorem rX4_take_27 : tq_D cX4_take 27 (.iconst 0) 1 28 := ⟨by decide +kernel, rfl⟩
theorem rX4_take_28 : tq_D cX4_take 28 (.aload_n 0) 1 29 := ⟨by decide +kernel, rfl⟩
theorem rX4_take_29 : tq_D cX4_take 29 (.getfield 19) 3 32 := ⟨by decide +kernel, rfl⟩
theorem rX4_take_32 : tq_D cX4_take 32 (.iconst 0) 1 33 := ⟨by decide +kernel, rfl⟩
theorem rX4_take_33 : tq_D cX4_take 33 (.bipush 8) 2 35 := ⟨by decide +kernel, rfl⟩
theorem rX4_take_35 : tq_D cX4_take 35 (.invokestatic 22) 3 38 := ⟨by decide +kernel, rfl⟩
theorem rX4_take_38 : decode cX4_take 38 = .ok (.return_, 1) := by decide +kernel
noncomputable def FX4_take (I : tq_PI) (L : tq_PL) (a0 : Nat) (a1 : Nat) : Option (tq_PI) :=
  (if (0 ≤ (0 : Int32) ∧ 0 ≤ (0 : Int32) ∧ 0 ≤ (8 : Int32)) ∧ ((0 : Int32) : Int32).toNatClampNeg + ((8 : Int32) : Int32).toNatClampNeg ≤ 8 ∧ ((0 : Int32) : Int32).toNatClampNeg + ((8 : Int32) : Int32).toNatClampNeg ≤ 8 then (if (0 ≤ (0 : Int32) ∧ 0 ≤ (0 : Int32) ∧ 0 ≤ (8 : Int32)) ∧ ((0 : Int32) : Int32).toNatClampNeg + ((8 : Int32) : Int32).toNatClampNeg ≤ 8 ∧ ((0 : Int32) : Int32).toNatClampNeg + ((8 : Int32) : Int32).toNatClampNeg ≤ 8 then some (tq_cpr (tq_cpr (tq_up2 I a0 0 (I a1 0)) (tq_rg a1 1) (tq_rg a0 1) (0 : Int32) (0 : Int32) (8 : Int32)) (tq_rg a1 2) (tq_rg a0 2) (0 : Int32) (0 : Int32) (8 : Int32)) else none) else none)
set_option maxRecDepth 100000 in
set_option maxHeartbeats 4000000 in
theorem CX4_take {S : Nat × (Nat → Int32)} {d : Nat} {I : tq_PI} {L : tq_PL} {a0 : Nat} {a1 : Nat} (h0 : tq_sh0 a0 = 4) (h1 : tq_sh0 a1 = 4) {out : tq_PI} (hf : FX4_take I L a0 a1 = some out) : tq_K S mX4_take (d + 1) [.ref a0, .ref a1] I L (tq_one2 (none) out L) := by
  unfold FX4_take at hf
  refine tq_K_of (by decide) (Nat.le_of_ble_eq_true rfl) (ls := [.ref a0, .ref a1]) rfl ?_
  refine tq_aload_n rX4_take_0 rfl ?_
  refine tq_aload_n rX4_take_1 rfl ?_
  refine ty_getI rX4_take_2 f_X4_9 rfl h1 ?_
  refine ty_putI rX4_take_5 f_X4_9 rfl h0 rfl ?_
  refine tq_aload_n rX4_take_8 rfl ?_
  refine ty_getR rX4_take_9 f_X4_15 rfl h1 (hp_4_1 h1).1 ?_
  refine tq_iconst (0 : Int32) rX4_take_12 (by decide) ?_
  refine tq_aload_n rX4_take_13 rfl ?_
  refine ty_getR rX4_take_14 f_X4_15 rfl h0 (hp_4_1 h0).1 ?_
  refine tq_iconst (0 : Int32) rX4_take_17 (by decide) ?_
  refine tq_bipush (8 : Int32) rX4_take_18 (by decide) ?_
  obtain ⟨g1, hf⟩ := tq_chk hf
  refine ty_copy rX4_take_20 (Nat.le_of_ble_eq_true rfl) n_X4_22 (by decide) (hp_4_1 h1).2.1 (hp_4_1 h0).2.1 (hp_4_1 h1).2.2 (hp_4_1 h0).2.2 g1 ?_
  refine tq_aload_n rX4_take_23 rfl ?_
  refine ty_getR rX4_take_24 f_X4_19 rfl h1 (hp_4_2 h1).1 ?_
  refine tq_iconst (0 : Int32) rX4_take_27 (by decide) ?_
  refine tq_aload_n rX4_take_28 rfl ?_
  refine ty_getR rX4_take_29 f_X4_19 rfl h0 (hp_4_2 h0).1 ?_
  refine tq_iconst (0 : Int32) rX4_take_32 (by decide) ?_
  refine tq_bipush (8 : Int32) rX4_take_33 (by decide) ?_
  obtain ⟨g2, hf⟩ := tq_chk hf
  refine ty_copy rX4_take_35 (Nat.le_of_ble_eq_true rfl) n_X4_22 (by decide) (hp_4_2 h1).2.1 (hp_4_2 h0).2.1 (hp_4_2 h1).2.2 (hp_4_2 h0).2.2 g2 ?_
  refine ty_vret rX4_take_38 rfl rfl ?_
  have hf := Option.some.inj hf
  subst hf
  exact ⟨rfl, rfl, rfl⟩

abbrev mX9_take : tq_M := (yX9_take, cX9_take, 2, (Option.none : Option Jvm.ClassFile.FieldType), 0, 0)
theorem f_X9_15 : tq_fok RX9 15 9 1 := ⟨by decide, by decide, Or.inl (tq_sg1 _ (List.mem_of_getElem? (i := 133) rfl))⟩
theorem f_X9_9 : tq_fok RX9 9 9 0 := ⟨by decide, by decide, Or.inl (tq_sg1 _ (List.mem_of_getElem? (i := 129) rfl))⟩
theorem n_X9_19 : Cond.methodLink RX9 19 arraycopyName ∈ lw_tbl ∧ Cond.native arraycopyName ∈ lw_tbl ∧ Cond.static arraycopyName ∈ lw_tbl ∧ Cond.initialized "java/lang/System" ∈ lw_tbl := ⟨tq_sg3 _ (List.mem_of_getElem? (i := 176) rfl), tq_sg2 _ (List.mem_of_getElem? (i := 184) rfl), tq_sg2 _ (List.mem_of_getElem? (i := 183) rfl), tq_sg1 _ (List.mem_of_getElem? (i := 15) rfl)⟩
theorem rX9_take_0 : tq_D cX9_take 0 (.aload_n 0) 1 1 := ⟨by decide +kernel, rfl⟩
theorem rX9_take_1 : tq_D cX9_take 1 (.aload_n 1) 1 2 := ⟨by decide +kernel, rfl⟩
theorem rX9_take_2 : tq_D cX9_take 2 (.getfield 9) 3 5 := ⟨by decide +kernel, rfl⟩
theorem rX9_take_5 : tq_D cX9_take 5 (.putfield 9) 3 8 := ⟨by decide +kernel, rfl⟩
theorem rX9_take_8 : tq_D cX9_take 8 (.aload_n 1) 1 9 := ⟨by decide +kernel, rfl⟩
theorem rX9_take_9 : tq_D cX9_take 9 (.getfield 15) 3 12 := ⟨by decide +kernel, rfl⟩
theorem rX9_take_12 : tq_D cX9_take 12 (.iconst 0) 1 13 := ⟨by decide +kernel, rfl⟩
theorem rX9_take_13 : tq_D cX9_take 13 (.aload_n 0) 1 14 := ⟨by decide +kernel, rfl⟩
theorem rX9_take_14 : tq_D cX9_take 14 (.getfield 15) 3 17 := ⟨by decide +kernel, rfl⟩
theorem rX9_take_17 : tq_D cX9_take 17 (.iconst 0) 1 18 := ⟨by decide +kernel, rfl⟩
theorem rX9_take_18 : tq_D cX9_take 18 (.bipush 8) 2 20 := ⟨by decide +kernel, rfl⟩
theorem rX9_take_20 : tq_D cX9_take 20 (.invokestatic 19) 3 23 := ⟨by decide +kernel, rfl⟩
theorem rX9_take_23 : decode cX9_take 23 = .ok (.return_, 1) := by decide +kernel
noncomputable def FX9_take (I : tq_PI) (L : tq_PL) (a0 : Nat) (a1 : Nat) : Option (tq_PI) :=
  (if (0 ≤ (0 : Int32) ∧ 0 ≤ (0 : Int32) ∧ 0 ≤ (8 : Int32)) ∧ ((0 : Int32) : Int32).toNatClampNeg + ((8 : Int32) : Int32).toNatClampNeg ≤ 8 ∧ ((0 : Int32) : Int32).toNatClampNeg + ((8 : Int32) : Int32).toNatClampNeg ≤ 8 then some (tq_cpr (tq_up2 I a0 0 (I a1 0)) (tq_rg a1 1) (tq_rg a0 1) (0 : Int32) (0 : Int32) (8 : Int32)) else none)
set_option maxRecDepth 100000 in
set_option maxHeartbeats 4000000 in
theorem CX9_take {S : Nat × (Nat → Int32)} {d : Nat} {I : tq_PI} {L : tq_PL} {a0 : Nat} {a1 : Nat} (h0 : tq_sh0 a0 = 9) (h1 : tq_sh0 a1 = 9) {out : tq_PI} (hf : FX9_take I L a0 a1 = some out) : tq_K S mX9_take (d + 1) [.ref a0, .ref a1] I L (tq_one2 (none) out L) := by
  unfold FX9_take at hf
  refine tq_K_of (by decide) (Nat.le_of_ble_eq_true rfl) (ls := [.ref a0, .ref a1]) rfl ?_
  refine tq_aload_n rX9_take_0 rfl ?_
  refine tq_aload_n rX9_take_1 rfl ?_
  refine ty_getI rX9_take_2 f_X9_9 rfl h1 ?_
  refine ty_putI rX9_take_5 f_X9_9 rfl h0 rfl ?_
  refine tq_aload_n rX9_take_8 rfl ?_
  refine ty_getR rX9_take_9 f_X9_15 rfl h1 (hp_9_1 h1).1 ?_
  refine tq_iconst (0 : Int32) rX9_take_12 (by decide) ?_
  refine tq_aload_n rX9_take_13 rfl ?_
  refine ty_getR rX9_take_14 f_X9_15 rfl h0 (hp_9_1 h0).1 ?_
  refine tq_iconst (0 : Int32) rX9_take_17 (by decide) ?_
  refine tq_bipush (8 : Int32) rX9_take_18 (by decide) ?_
  obtain ⟨g1, hf⟩ := tq_chk hf
  refine ty_copy rX9_take_20 (Nat.le_of_ble_eq_true rfl) n_X9_19 (by decide) (hp_9_1 h1).2.1 (hp_9_1 h0).2.1 (hp_9_1 h1).2.2 (hp_9_1 h0).2.2 g1 ?_
  refine ty_vret rX9_take_23 rfl rfl ?_
  have hf := Option.some.inj hf
  subst hf
  exact ⟨rfl, rfl, rfl⟩

abbrev mX0_take : tq_M := (yX0_take, cX0_take, 3, (Option.none : Option Jvm.ClassFile.FieldType), 0, 0)
theorem moX3_take : tq_mok mX3_take 1 := ⟨tq_sg1 _ (List.mem_of_getElem? (i := 3) rfl), tq_sg3 _ (List.mem_of_getElem? (i := 144) rfl), ⟨by decide, by decide, by decide +kernel⟩, by decide⟩
theorem mvX3_take : 3 < 13 ∧ (tq_cl 3).1 = mX3_take.1.cls ∧ Cond.instanceMethod mX3_take.1 ∈ lw_tbl ∧ Cond.selects mX3_take.1.cls mX3_take.1 mX3_take.1 ∈ lw_tbl := ⟨by decide, rfl, tq_sg3 _ (List.mem_of_getElem? (i := 142) rfl), tq_sg3 _ (List.mem_of_getElem? (i := 143) rfl)⟩
theorem moX4_take : tq_mok mX4_take 1 := ⟨tq_sg1 _ (List.mem_of_getElem? (i := 5) rfl), tq_sg3 _ (List.mem_of_getElem? (i := 166) rfl), ⟨by decide, by decide, by decide +kernel⟩, by decide⟩
theorem mvX4_take : 4 < 13 ∧ (tq_cl 4).1 = mX4_take.1.cls ∧ Cond.instanceMethod mX4_take.1 ∈ lw_tbl ∧ Cond.selects mX4_take.1.cls mX4_take.1 mX4_take.1 ∈ lw_tbl := ⟨by decide, rfl, tq_sg3 _ (List.mem_of_getElem? (i := 164) rfl), tq_sg3 _ (List.mem_of_getElem? (i := 165) rfl)⟩
theorem moX9_take : tq_mok mX9_take 1 := ⟨tq_sg1 _ (List.mem_of_getElem? (i := 6) rfl), tq_sg3 _ (List.mem_of_getElem? (i := 175) rfl), ⟨by decide, by decide, by decide +kernel⟩, by decide⟩
theorem mvX9_take : 9 < 13 ∧ (tq_cl 9).1 = mX9_take.1.cls ∧ Cond.instanceMethod mX9_take.1 ∈ lw_tbl ∧ Cond.selects mX9_take.1.cls mX9_take.1 mX9_take.1 ∈ lw_tbl := ⟨by decide, rfl, tq_sg3 _ (List.mem_of_getElem? (i := 173) rfl), tq_sg3 _ (List.mem_of_getElem? (i := 174) rfl)⟩
theorem moX10_take : tq_mok mX10_take 1 := ⟨tq_sg1 _ (List.mem_of_getElem? (i := 4) rfl), tq_sg3 _ (List.mem_of_getElem? (i := 157) rfl), ⟨by decide, by decide, by decide +kernel⟩, by decide⟩
theorem mvX10_take : 10 < 13 ∧ (tq_cl 10).1 = mX10_take.1.cls ∧ Cond.instanceMethod mX10_take.1 ∈ lw_tbl ∧ Cond.selects mX10_take.1.cls mX10_take.1 mX10_take.1 ∈ lw_tbl := ⟨by decide, rfl, tq_sg3 _ (List.mem_of_getElem? (i := 155) rfl), tq_sg3 _ (List.mem_of_getElem? (i := 156) rfl)⟩
theorem f_X0_15 : tq_fok RX0 15 0 1 := ⟨by decide, by decide, Or.inl (tq_sg1 _ (List.mem_of_getElem? (i := 141) rfl))⟩
theorem f_X0_19 : tq_fok RX0 19 0 2 := ⟨by decide, by decide, Or.inl (tq_sg1 _ (List.mem_of_getElem? (i := 143) rfl))⟩
theorem f_X0_22 : tq_fok RX0 22 0 3 := ⟨by decide, by decide, Or.inl (tq_sg1 _ (List.mem_of_getElem? (i := 145) rfl))⟩
theorem f_X0_25 : tq_fok RX0 25 0 4 := ⟨by decide, by decide, Or.inl (tq_sg1 _ (List.mem_of_getElem? (i := 147) rfl))⟩
theorem f_X0_31 : tq_fok RX0 31 0 5 := ⟨by decide, by decide, Or.inl (tq_sg1 _ (List.mem_of_getElem? (i := 148) rfl))⟩
theorem f_X0_37 : tq_fok RX0 37 0 6 := ⟨by decide, by decide, Or.inl (tq_sg1 _ (List.mem_of_getElem? (i := 149) rfl))⟩
theorem f_X0_43 : tq_fok RX0 43 0 7 := ⟨by decide, by decide, Or.inl (tq_sg1 _ (List.mem_of_getElem? (i := 150) rfl))⟩
theorem f_X0_49 : tq_fok RX0 49 0 8 := ⟨by decide, by decide, Or.inl (tq_sg1 _ (List.mem_of_getElem? (i := 151) rfl))⟩
theorem f_X0_9 : tq_fok RX0 9 0 0 := ⟨by decide, by decide, Or.inl (tq_sg1 _ (List.mem_of_getElem? (i := 139) rfl))⟩
theorem l_X0_63 : tq_lok RX0 63 mX3_take.1 := Or.inl (tq_sg3 _ (List.mem_of_getElem? (i := 141) rfl))
theorem l_X0_67 : tq_lok RX0 67 mX10_take.1 := Or.inl (tq_sg3 _ (List.mem_of_getElem? (i := 154) rfl))
theorem l_X0_70 : tq_lok RX0 70 mX4_take.1 := Or.inl (tq_sg3 _ (List.mem_of_getElem? (i := 163) rfl))
theorem l_X0_73 : tq_lok RX0 73 mX9_take.1 := Or.inl (tq_sg3 _ (List.mem_of_getElem? (i := 172) rfl))
theorem n_X0_57 : Cond.methodLink RX0 57 arraycopyName ∈ lw_tbl ∧ Cond.native arraycopyName ∈ lw_tbl ∧ Cond.static arraycopyName ∈ lw_tbl ∧ Cond.initialized "java/lang/System" ∈ lw_tbl := ⟨tq_sg6 _ (List.mem_of_getElem? (i := 62) rfl), tq_sg2 _ (List.mem_of_getElem? (i := 184) rfl), tq_sg2 _ (List.mem_of_getElem? (i := 183) rfl), tq_sg1 _ (List.mem_of_getElem? (i := 15) rfl)⟩
theorem rX0_take_0 : tq_D cX0_take 0 (.aload_n 1) 1 1 := ⟨by decide +kernel, rfl⟩
theorem rX0_take_1 : tq_D cX0_take 1 (.getfield 9) 3 4 := ⟨by decide +kernel, rfl⟩
theorem rX0_take_4 : tq_D cX0_take 4 (.iconst 0) 1 5 := ⟨by decide +kernel, rfl⟩
theorem rX0_take_5 : tq_D cX0_take 5 (.aload_n 0) 1 6 := ⟨by decide +kernel, rfl⟩
theorem rX0_take_6 : tq_D cX0_take 6 (.getfield 9) 3 9 := ⟨by decide +kernel, rfl⟩
theorem rX0_take_9 : tq_D cX0_take 9 (.iconst 0) 1 10 := ⟨by decide +kernel, rfl⟩
theorem rX0_take_10 : tq_D cX0_take 10 (.sipush 600) 3 13 := ⟨by decide +kernel, rfl⟩
theorem rX0_take_13 : tq_D cX0_take 13 (.invokestatic 57) 3 16 := ⟨by decide +kernel, rfl⟩
theorem rX0_take_16 : tq_D cX0_take 16 (.aload_n 0) 1 17 := ⟨by decide +kernel, rfl⟩
theorem rX0_take_17 : tq_D cX0_take 17 (.aload_n 1) 1 18 := ⟨by decide +kernel, rfl⟩
theorem rX0_take_18 : tq_D cX0_take 18 (.getfield 15) 3 21 := ⟨by decide +kernel, rfl⟩
theorem rX0_take_21 : tq_D cX0_take 21 (.putfield 15) 3 24 := ⟨by decide +kernel, rfl⟩
theorem rX0_take_24 : tq_D cX0_take 24 (.aload_n 0) 1 25 := ⟨by decide +kernel, rfl⟩
theorem rX0_take_25 : tq_D cX0_take 25 (.aload_n 1) 1 26 := ⟨by decide +kernel, rfl⟩
theorem rX0_take_26 : tq_D cX0_take 26 (.getfield 19) 3 29 := ⟨by decide +kernel, rfl⟩
theorem rX0_take_29 : tq_D cX0_take 29 (.putfield 19) 3 32 := ⟨by decide +kernel, rfl⟩
theorem rX0_take_32 : tq_D cX0_take 32 (.aload_n 0) 1 33 := ⟨by decide +kernel, rfl⟩
theorem rX0_take_33 : tq_D cX0_take 33 (.aload_n 1) 1 34 := ⟨by decide +kernel, rfl⟩
theorem rX0_take_34 : tq_D cX0_take 34 (.getfield 22) 3 37 := ⟨by decide +kernel, rfl⟩
theorem rX0_take_37 : tq_D cX0_take 37 (.putfield 22) 3 40 := ⟨by decide +kernel, rfl⟩
theorem rX0_take_40 : tq_D cX0_take 40 (.aload_n 1) 1 41 := ⟨by decide +kernel, rfl⟩
theorem rX0_take_41 : tq_D cX0_take 41 (.getfield 25) 3 44 := ⟨by decide +kernel, rfl⟩
theorem rX0_take_44 : tq_D cX0_take 44 (.iconst 0) 1 45 := ⟨by decide +kernel, rfl⟩
theorem rX0_take_45 : tq_D cX0_take 45 (.aload_n 0) 1 46 := ⟨by decide +kernel, rfl⟩
theorem rX0_take_46 : tq_D cX0_take 46 (.getfield 25) 3 49 := ⟨by decide +kernel, rfl⟩
theorem rX0_take_49 : tq_D cX0_take 49 (.iconst 0) 1 50 := ⟨by decide +kernel, rfl⟩
theorem rX0_take_50 : tq_D cX0_take 50 (.iconst 4) 1 51 := ⟨by decide +kernel, rfl⟩
theorem rX0_take_51 : tq_D cX0_take 51 (.invokestatic 57) 3 54 := ⟨by decide +kernel, rfl⟩
theorem rX0_take_54 : tq_D cX0_take 54 (.iconst 0) 1 55 := ⟨by decide +kernel, rfl⟩
theorem rX0_take_55 : tq_D cX0_take 55 (.istore_n 2) 1 56 := ⟨by decide +kernel, rfl⟩
theorem rX0_take_56 : tq_D cX0_take 56 (.iload_n 2) 1 57 := ⟨by decide +kernel, rfl⟩
theorem rX0_take_57 : tq_D cX0_take 57 (.iconst 2) 1 58 := ⟨by decide +kernel, rfl⟩
theorem rX0_take_58 : tq_J cX0_take 58 (.if_icmp .ge) 127 61 := ⟨69, by decide +kernel, by decide, rfl⟩
theorem rX0_take_61 : tq_D cX0_take 61 (.aload_n 0) 1 62 := ⟨by decide +kernel, rfl⟩
theorem rX0_take_62 : tq_D cX0_take 62 (.getfield 31) 3 65 := ⟨by decide +kernel, rfl⟩
theorem rX0_take_65 : tq_D cX0_take 65 (.iload_n 2) 1 66 := ⟨by decide +kernel, rfl⟩
theorem rX0_take_66 : tq_D cX0_take 66 (.aaload) 1 67 := ⟨by decide +kernel, rfl⟩
theorem rX0_take_67 : tq_D cX0_take 67 (.aload_n 1) 1 68 := ⟨by decide +kernel, rfl⟩
theorem rX0_take_68 : tq_D cX0_take 68 (.getfield 31) 3 71 := ⟨by decide +kernel, rfl⟩
theorem rX0_take_71 : tq_D cX0_take 71 (.iload_n 2) 1 72 := ⟨by decide +kernel, rfl⟩
theorem rX0_take_72 : tq_D cX0_take 72 (.aaload) 1 73 := ⟨by decide +kernel, rfl⟩
theorem rX0_take_73 : tq_D cX0_take 73 (.invokevirtual 63) 3 76 := ⟨by decide +kernel, rfl⟩
theorem rX0_take_76 : tq_D cX0_take 76 (.aload_n 0) 1 77 := ⟨by decide +kernel, rfl⟩
theorem rX0_take_77 : tq_D cX0_take 77 (.getfield 37) 3 80 := ⟨by decide +kernel, rfl⟩
theorem rX0_take_80 : tq_D cX0_take 80 (.iload_n 2) 1 81 := ⟨by decide +kernel, rfl⟩
theorem rX0_take_81 : tq_D cX0_take 81 (.aaload) 1 82 := ⟨by decide +kernel, rfl⟩
theorem rX0_take_82 : tq_D cX0_take 82 (.aload_n 1) 1 83 := ⟨by decide +kernel, rfl⟩
theorem rX0_take_83 : tq_D cX0_take 83 (.getfield 37) 3 86 := ⟨by decide +kernel, rfl⟩
theorem rX0_take_86 : tq_D cX0_take 86 (.iload_n 2) 1 87 := ⟨by decide +kernel, rfl⟩
theorem rX0_take_87 : tq_D cX0_take 87 (.aaload) 1 88 := ⟨by decide +kernel, rfl⟩
theorem rX0_take_88 : tq_D cX0_take 88 (.invokevirtual 67) 3 91 := ⟨by decide +kernel, rfl⟩
theorem rX0_take_91 : tq_D cX0_take 91 (.aload_n 0) 1 92 := ⟨by decide +kernel, rfl⟩
theorem rX0_take_92 : tq_D cX0_take 92 (.getfield 43) 3 95 := ⟨by decide +kernel, rfl⟩
theorem rX0_take_95 : tq_D cX0_take 95 (.iload_n 2) 1 96 := ⟨by decide +kernel, rfl⟩
theorem rX0_take_96 : tq_D cX0_take 96 (.aaload) 1 97 := ⟨by decide +kernel, rfl⟩
theorem rX0_take_97 : tq_D cX0_take 97 (.aload_n 1) 1 98 := ⟨by decide +kernel, rfl⟩
theorem rX0_take_98 : tq_D cX0_take 98 (.getfield 43) 3 101 := ⟨by decide +kernel, rfl⟩
theorem rX0_take_101 : tq_D cX0_take 101 (.iload_n 2) 1 102 := ⟨by decide +kernel, rfl⟩
theorem rX0_take_102 : tq_D cX0_take 102 (.aaload) 1 103 := ⟨by decide +kernel, rfl⟩
theorem rX0_take_103 : tq_D cX0_take 103 (.invokevirtual 70) 3 106 := ⟨by decide +kernel, rfl⟩
theorem rX0_take_106 : tq_D cX0_take 106 (.aload_n 0) 1 107 := ⟨by decide +kernel, rfl⟩
theorem rX0_take_107 : tq_D cX0_take 107 (.getfield 49) 3 110 := ⟨by decide +kernel, rfl⟩
theorem rX0_take_110 : tq_D cX0_take 110 (.iload_n 2) 1 111 := ⟨by decide +kernel, rfl⟩
theorem rX0_take_111 : tq_D cX0_take 111 (.aaload) 1 112 := ⟨by decide +kernel, rfl⟩
theorem rX0_take_112 : tq_D cX0_take 112 (.aload_n 1) 1 113 := ⟨by decide +kernel, rfl⟩
theorem rX0_take_113 : tq_D cX0_take 113 (.getfield 49) 3 116 := ⟨by decide +kernel, rfl⟩
theorem rX0_take_116 : tq_D cX0_take 116 (.iload_n 2) 1 117 := ⟨by decide +kernel, rfl⟩
theorem rX0_take_117 : tq_D cX0_take 117 (.aaload) 1 118 := ⟨by decide +kernel, rfl⟩
theorem rX0_take_118 : tq_D cX0_take 118 (.invokevirtual 73) 3 121 := ⟨by decide +kernel, rfl⟩
theorem rX0_take_121 : tq_D cX0_take 121 (.iinc 2 1) 3 124 := ⟨by decide +kernel, rfl⟩
theorem rX0_take_124 : tq_J cX0_take 124 .goto 56 127 := ⟨(-68), by decide +kernel, by decide, rfl⟩
theorem rX0_take_127 : decode cX0_take 127 = .ok (.return_, 1) := by decide +kernel
noncomputable def FX0_take_s56 (I : tq_PI) (L : tq_PL) (a0 : Nat) (a1 : Nat) (a2 : Int32) : Option ((Int32 × tq_PI × tq_PL) ⊕ (tq_PI × tq_PL)) :=
  (if (2 : Int32) ≤ a2 then some (.inr (I, L)) else (if 0 ≤ a2 ∧ a2 < 2 then (if 0 ≤ a2 ∧ a2 < 2 then (tq_let (FX3_take I L ((tq_rg (tq_rg a0 5) a2.toNatClampNeg)) ((tq_rg (tq_rg a1 5) a2.toNatClampNeg))) fun p6 => (if 0 ≤ a2 ∧ a2 < 2 then (if 0 ≤ a2 ∧ a2 < 2 then ((FX10_take p6.1 p6.2 ((tq_rg (tq_rg a0 6) a2.toNatClampNeg)) ((tq_rg (tq_rg a1 6) a2.toNatClampNeg))).bind fun p9 => (if 0 ≤ a2 ∧ a2 < 2 then (if 0 ≤ a2 ∧ a2 < 2 then ((FX4_take p9 p6.2 ((tq_rg (tq_rg a0 7) a2.toNatClampNeg)) ((tq_rg (tq_rg a1 7) a2.toNatClampNeg))).bind fun p12 => (if 0 ≤ a2 ∧ a2 < 2 then (if 0 ≤ a2 ∧ a2 < 2 then ((FX9_take p12 p6.2 ((tq_rg (tq_rg a0 8) a2.toNatClampNeg)) ((tq_rg (tq_rg a1 8) a2.toNatClampNeg))).bind fun p15 => some (.inl ((a2 + 1), p15, p6.2))) else none) else none)) else none) else none)) else none) else none)) else none) else none))
noncomputable def FX0_take (I : tq_PI) (L : tq_PL) (a0 : Nat) (a1 : Nat) : Option (tq_PI × tq_PL) :=
  (if (0 ≤ (0 : Int32) ∧ 0 ≤ (0 : Int32) ∧ 0 ≤ (600 : Int32)) ∧ ((0 : Int32) : Int32).toNatClampNeg + ((600 : Int32) : Int32).toNatClampNeg ≤ 600 ∧ ((0 : Int32) : Int32).toNatClampNeg + ((600 : Int32) : Int32).toNatClampNeg ≤ 600 then (if (0 ≤ (0 : Int32) ∧ 0 ≤ (0 : Int32) ∧ 0 ≤ (4 : Int32)) ∧ ((0 : Int32) : Int32).toNatClampNeg + ((4 : Int32) : Int32).toNatClampNeg ≤ 4 ∧ ((0 : Int32) : Int32).toNatClampNeg + ((4 : Int32) : Int32).toNatClampNeg ≤ 4 then ((tq_it (fun p : Int32 × tq_PI × tq_PL => FX0_take_s56 p.2.1 p.2.2 a0 a1 p.1) tq_N ((0 : Int32), (tq_cpr (tq_up2 (tq_up2 (tq_up2 (tq_cpr I (tq_rg a1 0) (tq_rg a0 0) (0 : Int32) (0 : Int32) (600 : Int32)) a0 1 (((tq_cpr I (tq_rg a1 0) (tq_rg a0 0) (0 : Int32) (0 : Int32) (600 : Int32))) a1 1)) a0 2 (((tq_up2 (tq_cpr I (tq_rg a1 0) (tq_rg a0 0) (0 : Int32) (0 : Int32) (600 : Int32)) a0 1 (((tq_cpr I (tq_rg a1 0) (tq_rg a0 0) (0 : Int32) (0 : Int32) (600 : Int32))) a1 1))) a1 2)) a0 3 (((tq_up2 (tq_up2 (tq_cpr I (tq_rg a1 0) (tq_rg a0 0) (0 : Int32) (0 : Int32) (600 : Int32)) a0 1 (((tq_cpr I (tq_rg a1 0) (tq_rg a0 0) (0 : Int32) (0 : Int32) (600 : Int32))) a1 1)) a0 2 (((tq_up2 (tq_cpr I (tq_rg a1 0) (tq_rg a0 0) (0 : Int32) (0 : Int32) (600 : Int32)) a0 1 (((tq_cpr I (tq_rg a1 0) (tq_rg a0 0) (0 : Int32) (0 : Int32) (600 : Int32))) a1 1))) a1 2))) a1 3)) (tq_rg a1 4) (tq_rg a0 4) (0 : Int32) (0 : Int32) (4 : Int32)), L)).bind fun p16 => some (p16.1, p16.2)) else none) else none)
set_option maxRecDepth 100000 in
set_option maxHeartbeats 4000000 in
theorem FX0_take_s56_x {S : Nat × (Nat → Int32)} {d : Nat} {I : tq_PI} {L : tq_PL} {a0 : Nat} {a1 : Nat} {a2 : Int32} (h0 : tq_sh0 a0 = 0) (h1 : tq_sh0 a1 = 0) {q0 : Option Value → tq_PI → tq_PL → Prop} {out : (Int32 × tq_PI × tq_PL) ⊕ (tq_PI × tq_PL)} (hf : FX0_take_s56 I L a0 a1 a2 = some out) (hk : Sum.elim (fun p : Int32 × tq_PI × tq_PL => tq_X S mX0_take (d + 2) tq_k0 56 ([.ref a0, .ref a1, .int p.1]) [] (tq_st p.2.1 p.2.2) (tq_Q q0)) (fun p : tq_PI × tq_PL => tq_X S mX0_take (d + 2) tq_k0 127 ([tq_u, tq_u, tq_u]) [] (tq_st p.1 p.2) (tq_Q q0)) out) : tq_X S mX0_take (d + 2) tq_k0 56 ([.ref a0, .ref a1, .int a2]) [] (tq_st I L) (tq_Q q0) := by
  unfold FX0_take_s56 at hf
  refine tq_iload_n rX0_take_56 rfl ?_
  refine tq_iconst (2 : Int32) rX0_take_57 (by decide) ?_
  refine tq_icmp_ge rX0_take_58 (fun c3 => ?_) (fun c3 => ?_)
  · rw [if_pos c3] at hf
    have hf := Option.some.inj hf
    subst hf
    exact tq_forget _ (tq_le_u (tq_le_u (tq_le_u tq_le_n))) hk
  · rw [if_neg c3] at hf
    refine tq_aload_n rX0_take_61 rfl ?_
    refine ty_getR rX0_take_62 f_X0_31 rfl h0 (hp_0_5 h0).1 ?_
    refine tq_iload_n rX0_take_65 rfl ?_
    obtain ⟨g4, hf⟩ := tq_chk hf
    have g4r := hq_113 (hp_0_5 h0).2.1 (tq_bl (n := 2) rfl (by decide) g4)
    refine ty_aald (v := 2) rX0_take_66 (hp_0_5 h0).2.1 (by decide) (hp_0_5 h0).2.2 rfl (by decide) g4 g4r.1 ?_
    refine tq_aload_n rX0_take_67 rfl ?_
    refine ty_getR rX0_take_68 f_X0_31 rfl h1 (hp_0_5 h1).1 ?_
    refine tq_iload_n rX0_take_71 rfl ?_
    obtain ⟨g5, hf⟩ := tq_chk hf
    have g5r := hq_113 (hp_0_5 h1).2.1 (tq_bl (n := 2) rfl (by decide) g5)
    refine ty_aald (v := 2) rX0_take_72 (hp_0_5 h1).2.1 (by decide) (hp_0_5 h1).2.2 rfl (by decide) g5 g5r.1 ?_
    obtain ⟨p6, e6, hf⟩ := tq_let_elim hf
    refine ty_callVV ([.ref (tq_rg (tq_rg a1 5) a2.toNatClampNeg)]) ([]) rX0_take_73 l_X0_63 moX3_take mvX3_take g4r.2 rfl rfl (Nat.le_of_ble_eq_true rfl) ⟨rfl, rfl⟩ (CX3_take g4r.2 g5r.2 e6) ?_
    refine tq_aload_n rX0_take_76 rfl ?_
    refine ty_getR rX0_take_77 f_X0_37 rfl h0 (hp_0_6 h0).1 ?_
    refine tq_iload_n rX0_take_80 rfl ?_
    obtain ⟨g7, hf⟩ := tq_chk hf
    have g7r := hq_120 (hp_0_6 h0).2.1 (tq_bl (n := 2) rfl (by decide) g7)
    refine ty_aald (v := 2) rX0_take_81 (hp_0_6 h0).2.1 (by decide) (hp_0_6 h0).2.2 rfl (by decide) g7 g7r.1 ?_
    refine tq_aload_n rX0_take_82 rfl ?_
    refine ty_getR rX0_take_83 f_X0_37 rfl h1 (hp_0_6 h1).1 ?_
    refine tq_iload_n rX0_take_86 rfl ?_
    obtain ⟨g8, hf⟩ := tq_chk hf
    have g8r := hq_120 (hp_0_6 h1).2.1 (tq_bl (n := 2) rfl (by decide) g8)
    refine ty_aald (v := 2) rX0_take_87 (hp_0_6 h1).2.1 (by decide) (hp_0_6 h1).2.2 rfl (by decide) g8 g8r.1 ?_
    obtain ⟨p9, e9, hf⟩ := Option.bind_eq_some_iff.mp hf
    refine ty_callVV ([.ref (tq_rg (tq_rg a1 6) a2.toNatClampNeg)]) ([]) rX0_take_88 l_X0_67 moX10_take mvX10_take g7r.2 rfl rfl (Nat.le_of_ble_eq_true rfl) ⟨rfl, rfl⟩ (CX10_take g7r.2 g8r.2 e9) ?_
    refine tq_aload_n rX0_take_91 rfl ?_
    refine ty_getR rX0_take_92 f_X0_43 rfl h0 (hp_0_7 h0).1 ?_
    refine tq_iload_n rX0_take_95 rfl ?_
    obtain ⟨g10, hf⟩ := tq_chk hf
    have g10r := hq_114 (hp_0_7 h0).2.1 (tq_bl (n := 2) rfl (by decide) g10)
    refine ty_aald (v := 2) rX0_take_96 (hp_0_7 h0).2.1 (by decide) (hp_0_7 h0).2.2 rfl (by decide) g10 g10r.1 ?_
    refine tq_aload_n rX0_take_97 rfl ?_
    refine ty_getR rX0_take_98 f_X0_43 rfl h1 (hp_0_7 h1).1 ?_
    refine tq_iload_n rX0_take_101 rfl ?_
    obtain ⟨g11, hf⟩ := tq_chk hf
    have g11r := hq_114 (hp_0_7 h1).2.1 (tq_bl (n := 2) rfl (by decide) g11)
    refine ty_aald (v := 2) rX0_take_102 (hp_0_7 h1).2.1 (by decide) (hp_0_7 h1).2.2 rfl (by decide) g11 g11r.1 ?_
    obtain ⟨p12, e12, hf⟩ := Option.bind_eq_some_iff.mp hf
    refine ty_callVV ([.ref (tq_rg (tq_rg a1 7) a2.toNatClampNeg)]) ([]) rX0_take_103 l_X0_70 moX4_take mvX4_take g10r.2 rfl rfl (Nat.le_of_ble_eq_true rfl) ⟨rfl, rfl⟩ (CX4_take g10r.2 g11r.2 e12) ?_
    refine tq_aload_n rX0_take_106 rfl ?_
    refine ty_getR rX0_take_107 f_X0_49 rfl h0 (hp_0_8 h0).1 ?_
    refine tq_iload_n rX0_take_110 rfl ?_
    obtain ⟨g13, hf⟩ := tq_chk hf
    have g13r := hq_119 (hp_0_8 h0).2.1 (tq_bl (n := 2) rfl (by decide) g13)
    refine ty_aald (v := 2) rX0_take_111 (hp_0_8 h0).2.1 (by decide) (hp_0_8 h0).2.2 rfl (by decide) g13 g13r.1 ?_
    refine tq_aload_n rX0_take_112 rfl ?_
    refine ty_getR rX0_take_113 f_X0_49 rfl h1 (hp_0_8 h1).1 ?_
    refine tq_iload_n rX0_take_116 rfl ?_
    obtain ⟨g14, hf⟩ := tq_chk hf
    have g14r := hq_119 (hp_0_8 h1).2.1 (tq_bl (n := 2) rfl (by decide) g14)
    refine ty_aald (v := 2) rX0_take_117 (hp_0_8 h1).2.1 (by decide) (hp_0_8 h1).2.2 rfl (by decide) g14 g14r.1 ?_
    obtain ⟨p15, e15, hf⟩ := Option.bind_eq_some_iff.mp hf
    refine ty_callVV ([.ref (tq_rg (tq_rg a1 8) a2.toNatClampNeg)]) ([]) rX0_take_118 l_X0_73 moX9_take mvX9_take g13r.2 rfl rfl (Nat.le_of_ble_eq_true rfl) ⟨rfl, rfl⟩ (CX9_take g13r.2 g14r.2 e15) ?_
    refine tq_iinc (a2 + 1) ([.ref a0, .ref a1, .int (a2 + 1)]) rX0_take_121 rfl (tq_inc (by decide)) (Nat.le_of_ble_eq_true rfl) rfl ?_
    refine tq_goto rX0_take_124 ?_
    have hf := Option.some.inj hf
    subst hf
    exact tq_forget _ (tq_le_s (tq_le_s (tq_le_s tq_le_n))) hk

set_option maxRecDepth 100000 in
set_option maxHeartbeats 4000000 in
theorem CX0_take {S : Nat × (Nat → Int32)} {d : Nat} {I : tq_PI} {L : tq_PL} {a0 : Nat} {a1 : Nat} (h0 : tq_sh0 a0 = 0) (h1 : tq_sh0 a1 = 0) {out : tq_PI × tq_PL} (hf : FX0_take I L a0 a1 = some out) : tq_K S mX0_take (d + 2) [.ref a0, .ref a1] I L (tq_one2 (none) out.1 out.2) := by
  unfold FX0_take at hf
  refine tq_K_of (by decide) (Nat.le_of_ble_eq_true rfl) (ls := [.ref a0, .ref a1, tq_u]) rfl ?_
  refine tq_aload_n rX0_take_0 rfl ?_
  refine ty_getR rX0_take_1 f_X0_9 rfl h1 (hp_0_0 h1).1 ?_
  refine tq_iconst (0 : Int32) rX0_take_4 (by decide) ?_
  refine tq_aload_n rX0_take_5 rfl ?_
  refine ty_getR rX0_take_6 f_X0_9 rfl h0 (hp_0_0 h0).1 ?_
  refine tq_iconst (0 : Int32) rX0_take_9 (by decide) ?_
  refine tq_sipush (600 : Int32) rX0_take_10 (by decide) ?_
  obtain ⟨g1, hf⟩ := tq_chk hf
  refine ty_copy rX0_take_13 (Nat.le_of_ble_eq_true rfl) n_X0_57 (by decide) (hp_0_0 h1).2.1 (hp_0_0 h0).2.1 (hp_0_0 h1).2.2 (hp_0_0 h0).2.2 g1 ?_
  refine tq_aload_n rX0_take_16 rfl ?_
  refine tq_aload_n rX0_take_17 rfl ?_
  refine ty_getI rX0_take_18 f_X0_15 rfl h1 ?_
  refine ty_putI rX0_take_21 f_X0_15 rfl h0 rfl ?_
  refine tq_aload_n rX0_take_24 rfl ?_
  refine tq_aload_n rX0_take_25 rfl ?_
  refine ty_getI rX0_take_26 f_X0_19 rfl h1 ?_
  refine ty_putI rX0_take_29 f_X0_19 rfl h0 rfl ?_
  refine tq_aload_n rX0_take_32 rfl ?_
  refine tq_aload_n rX0_take_33 rfl ?_
  refine ty_getI rX0_take_34 f_X0_22 rfl h1 ?_
  refine ty_putI rX0_take_37 f_X0_22 rfl h0 rfl ?_
  refine tq_aload_n rX0_take_40 rfl ?_
  refine ty_getR rX0_take_41 f_X0_25 rfl h1 (hp_0_4 h1).1 ?_
  refine tq_iconst (0 : Int32) rX0_take_44 (by decide) ?_
  refine tq_aload_n rX0_take_45 rfl ?_
  refine ty_getR rX0_take_46 f_X0_25 rfl h0 (hp_0_4 h0).1 ?_
  refine tq_iconst (0 : Int32) rX0_take_49 (by decide) ?_
  refine tq_iconst (4 : Int32) rX0_take_50 (by decide) ?_
  obtain ⟨g2, hf⟩ := tq_chk hf
  refine ty_copy rX0_take_51 (Nat.le_of_ble_eq_true rfl) n_X0_57 (by decide) (hp_0_4 h1).2.1 (hp_0_4 h0).2.1 (hp_0_4 h1).2.2 (hp_0_4 h0).2.2 g2 ?_
  refine tq_iconst (0 : Int32) rX0_take_54 (by decide) ?_
  refine tq_istore_n ([.ref a0, .ref a1, .int (0 : Int32)]) rX0_take_55 (Nat.le_of_ble_eq_true rfl) rfl ?_
  obtain ⟨p16, e16, hf⟩ := Option.bind_eq_some_iff.mp hf
  refine tq_forget _ (tq_le_s (tq_le_s (tq_le_s tq_le_n))) ?_
  refine tq_it_elim (P := fun p : Int32 × tq_PI × tq_PL => tq_X S mX0_take (d + 2) tq_k0 56 ([.ref a0, .ref a1, .int p.1]) [] (tq_st p.2.1 p.2.2) (tq_Q (tq_one2 (none) out.1 out.2))) (R := fun p : tq_PI × tq_PL => tq_X S mX0_take (d + 2) tq_k0 127 ([tq_u, tq_u, tq_u]) [] (tq_st p.1 p.2) (tq_Q (tq_one2 (none) out.1 out.2))) (fun p o hp hk => FX0_take_s56_x  h0 h1 hp hk) _ (((0 : Int32), (tq_cpr (tq_up2 (tq_up2 (tq_up2 (tq_cpr I (tq_rg a1 0) (tq_rg a0 0) (0 : Int32) (0 : Int32) (600 : Int32)) a0 1 (((tq_cpr I (tq_rg a1 0) (tq_rg a0 0) (0 : Int32) (0 : Int32) (600 : Int32))) a1 1)) a0 2 (((tq_up2 (tq_cpr I (tq_rg a1 0) (tq_rg a0 0) (0 : Int32) (0 : Int32) (600 : Int32)) a0 1 (((tq_cpr I (tq_rg a1 0) (tq_rg a0 0) (0 : Int32) (0 : Int32) (600 : Int32))) a1 1))) a1 2)) a0 3 (((tq_up2 (tq_up2 (tq_cpr I (tq_rg a1 0) (tq_rg a0 0) (0 : Int32) (0 : Int32) (600 : Int32)) a0 1 (((tq_cpr I (tq_rg a1 0) (tq_rg a0 0) (0 : Int32) (0 : Int32) (600 : Int32))) a1 1)) a0 2 (((tq_up2 (tq_cpr I (tq_rg a1 0) (tq_rg a0 0) (0 : Int32) (0 : Int32) (600 : Int32)) a0 1 (((tq_cpr I (tq_rg a1 0) (tq_rg a0 0) (0 : Int32) (0 : Int32) (600 : Int32))) a1 1))) a1 2))) a1 3)) (tq_rg a1 4) (tq_rg a0 4) (0 : Int32) (0 : Int32) (4 : Int32)), L)) _ e16 ?_
  show tq_X _ _ _ _ _ _ _ _ _
  refine ty_vret rX0_take_127 rfl rfl ?_
  have hf := Option.some.inj hf
  subst hf
  exact ⟨rfl, rfl, rfl⟩

abbrev mX0_append : tq_M := (yX0_append, cX0_append, 3, (Option.none : Option Jvm.ClassFile.FieldType), 0, 0)
theorem rX0_append_0 : tq_D cX0_append 0 (.bipush 24) 2 2 := ⟨by decide +kernel, rfl⟩
theorem rX0_append_2 : tq_D cX0_append 2 (.istore_n 2) 1 3 := ⟨by decide +kernel, rfl⟩
theorem rX0_append_3 : tq_D cX0_append 3 (.iload_n 2) 1 4 := ⟨by decide +kernel, rfl⟩
theorem rX0_append_4 : tq_J cX0_append 4 (.ifCond .lt) 55 7 := ⟨51, by decide +kernel, by decide, rfl⟩
theorem rX0_append_7 : tq_D cX0_append 7 (.aload_n 0) 1 8 := ⟨by decide +kernel, rfl⟩
theorem rX0_append_8 : tq_D cX0_append 8 (.getfield 15) 3 11 := ⟨by decide +kernel, rfl⟩
theorem rX0_append_11 : tq_J cX0_append 11 (.ifCond .lt) 49 14 := ⟨38, by decide +kernel, by decide, rfl⟩
theorem rX0_append_14 : tq_D cX0_append 14 (.aload_n 0) 1 15 := ⟨by decide +kernel, rfl⟩
theorem rX0_append_15 : tq_D cX0_append 15 (.getfield 15) 3 18 := ⟨by decide +kernel, rfl⟩
theorem rX0_append_18 : tq_D cX0_append 18 (.aload_n 0) 1 19 := ⟨by decide +kernel, rfl⟩
theorem rX0_append_19 : tq_D cX0_append 19 (.getfield 9) 3 22 := ⟨by decide +kernel, rfl⟩
theorem rX0_append_22 : tq_D cX0_append 22 (.arraylength) 1 23 := ⟨by decide +kernel, rfl⟩
theorem rX0_append_23 : tq_J cX0_append 23 (.if_icmp .ge) 49 26 := ⟨26, by decide +kernel, by decide, rfl⟩
theorem rX0_append_26 : tq_D cX0_append 26 (.aload_n 0) 1 27 := ⟨by decide +kernel, rfl⟩
theorem rX0_append_27 : tq_D cX0_append 27 (.getfield 9) 3 30 := ⟨by decide +kernel, rfl⟩
theorem rX0_append_30 : tq_D cX0_append 30 (.aload_n 0) 1 31 := ⟨by decide +kernel, rfl⟩
theorem rX0_append_31 : tq_D cX0_append 31 (.getfield 15) 3 34 := ⟨by decide +kernel, rfl⟩
theorem rX0_append_34 : tq_D cX0_append 34 (.iload_n 1) 1 35 := ⟨by decide +kernel, rfl⟩
theorem rX0_append_35 : tq_D cX0_append 35 (.iload_n 2) 1 36 := ⟨by decide +kernel, rfl⟩
theorem rX0_append_36 : tq_D cX0_append 36 (.iushr) 1 37 := ⟨by decide +kernel, rfl⟩
theorem rX0_append_37 : tq_D cX0_append 37 (.i2b) 1 38 := ⟨by decide +kernel, rfl⟩
theorem rX0_append_38 : tq_D cX0_append 38 (.bastore) 1 39 := ⟨by decide +kernel, rfl⟩
theorem rX0_append_39 : tq_D cX0_append 39 (.aload_n 0) 1 40 := ⟨by decide +kernel, rfl⟩
theorem rX0_append_40 : tq_D cX0_append 40 (.dup) 1 41 := ⟨by decide +kernel, rfl⟩
theorem rX0_append_41 : tq_D cX0_append 41 (.getfield 15) 3 44 := ⟨by decide +kernel, rfl⟩
theorem rX0_append_44 : tq_D cX0_append 44 (.iconst 1) 1 45 := ⟨by decide +kernel, rfl⟩
theorem rX0_append_45 : tq_D cX0_append 45 (.iadd) 1 46 := ⟨by decide +kernel, rfl⟩
theorem rX0_append_46 : tq_D cX0_append 46 (.putfield 15) 3 49 := ⟨by decide +kernel, rfl⟩
theorem rX0_append_49 : tq_D cX0_append 49 (.iinc 2 (-8)) 3 52 := ⟨by decide +kernel, rfl⟩
theorem rX0_append_52 : tq_J cX0_append 52 .goto 3 55 := ⟨(-49), by decide +kernel, by decide, rfl⟩
theorem rX0_append_55 : decode cX0_append 55 = .ok (.return_, 1) := by decide +kernel
noncomputable def FX0_append_j49L3 (I : tq_PI) (L : tq_PL) (a0 : Nat) (a1 : Int32) (a2 : Int32) : Option ((Int32 × tq_PI) ⊕ (tq_PI)) :=
  some (.inl ((a2 + (-8)), I))
noncomputable def FX0_append_s3 (I : tq_PI) (L : tq_PL) (a0 : Nat) (a1 : Int32) (a2 : Int32) : Option ((Int32 × tq_PI) ⊕ (tq_PI)) :=
  (if a2 < 0 then some (.inr I) else (if (I a0 1) < 0 then (FX0_append_j49L3 I L a0 a1 a2) else (if (600 : Int32) ≤ (I a0 1) then (FX0_append_j49L3 I L a0 a1 a2) else (if 0 ≤ (I a0 1) ∧ (I a0 1) < 600 then (FX0_append_j49L3 ((tq_up2 (tq_up2 I (tq_rg a0 0) ((I a0 1)).toNatClampNeg (((Int32.toInt8 ((Int32.toUInt32 a1 >>> (Int32.toUInt32 a2 &&& Int32.toUInt32 31)).toInt32)).toInt32)).toInt8.toInt32) a0 1 ((((tq_up2 I (tq_rg a0 0) ((I a0 1)).toNatClampNeg (((Int32.toInt8 ((Int32.toUInt32 a1 >>> (Int32.toUInt32 a2 &&& Int32.toUInt32 31)).toInt32)).toInt32)).toInt8.toInt32)) a0 1) + (1 : Int32)))) L a0 a1 a2) else none))))
noncomputable def FX0_append (I : tq_PI) (L : tq_PL) (a0 : Nat) (a1 : Int32) : Option (tq_PI) :=
  ((tq_it (fun p : Int32 × tq_PI => FX0_append_s3 p.2 L a0 a1 p.1) tq_N ((24 : Int32), I)).bind fun p5 => some p5)
set_option maxRecDepth 100000 in
set_option maxHeartbeats 4000000 in
theorem FX0_append_j49L3_x {S : Nat × (Nat → Int32)} {d : Nat} {I : tq_PI} {L : tq_PL} {a0 : Nat} {a1 : Int32} {a2 : Int32} (h0 : tq_sh0 a0 = 0) {q0 : Option Value → tq_PI → tq_PL → Prop} {out : (Int32 × tq_PI) ⊕ (tq_PI)} (hf : FX0_append_j49L3 I L a0 a1 a2 = some out) (hk : Sum.elim (fun p : Int32 × tq_PI => tq_X S mX0_append d tq_k0 3 ([.ref a0, .int a1, .int p.1]) [] (tq_st p.2 L) (tq_Q q0)) (fun p : tq_PI => tq_X S mX0_append d tq_k0 55 ([tq_u, tq_u, tq_u]) [] (tq_st p L) (tq_Q q0)) out) : tq_X S mX0_append d tq_k0 49 ([.ref a0, .int a1, .int a2]) ([]) (tq_st I L) (tq_Q q0) := by
  unfold FX0_append_j49L3 at hf
  refine tq_iinc (a2 + (-8)) ([.ref a0, .int a1, .int (a2 + (-8))]) rX0_append_49 rfl (tq_inc (by decide)) (Nat.le_of_ble_eq_true rfl) rfl ?_
  refine tq_goto rX0_append_52 ?_
  have hf := Option.some.inj hf
  subst hf
  exact tq_forget _ (tq_le_s (tq_le_s (tq_le_s tq_le_n))) hk

set_option maxRecDepth 100000 in
set_option maxHeartbeats 4000000 in
theorem FX0_append_s3_x {S : Nat × (Nat → Int32)} {d : Nat} {I : tq_PI} {L : tq_PL} {a0 : Nat} {a1 : Int32} {a2 : Int32} (h0 : tq_sh0 a0 = 0) {q0 : Option Value → tq_PI → tq_PL → Prop} {out : (Int32 × tq_PI) ⊕ (tq_PI)} (hf : FX0_append_s3 I L a0 a1 a2 = some out) (hk : Sum.elim (fun p : Int32 × tq_PI => tq_X S mX0_append d tq_k0 3 ([.ref a0, .int a1, .int p.1]) [] (tq_st p.2 L) (tq_Q q0)) (fun p : tq_PI => tq_X S mX0_append d tq_k0 55 ([tq_u, tq_u, tq_u]) [] (tq_st p L) (tq_Q q0)) out) : tq_X S mX0_append d tq_k0 3 ([.ref a0, .int a1, .int a2]) [] (tq_st I L) (tq_Q q0) := by
  unfold FX0_append_s3 at hf
  refine tq_iload_n rX0_append_3 rfl ?_
  refine tq_if_lt rX0_append_4 (fun c1 => ?_) (fun c1 => ?_)
  · rw [if_pos c1] at hf
    have hf := Option.some.inj hf
    subst hf
    exact tq_forget _ (tq_le_u (tq_le_u (tq_le_u tq_le_n))) hk
  · rw [if_neg c1] at hf
    refine tq_aload_n rX0_append_7 rfl ?_
    refine ty_getI rX0_append_8 f_X0_15 rfl h0 ?_
    refine tq_if_lt rX0_append_11 (fun c2 => ?_) (fun c2 => ?_)
    · rw [if_pos c2] at hf
      exact tq_forget _ (tq_le_s (tq_le_s (tq_le_s tq_le_n))) (FX0_append_j49L3_x  h0 hf hk)
    · rw [if_neg c2] at hf
      refine tq_aload_n rX0_append_14 rfl ?_
      refine ty_getI rX0_append_15 f_X0_15 rfl h0 ?_
      refine tq_aload_n rX0_append_18 rfl ?_
      refine ty_getR rX0_append_19 f_X0_9 rfl h0 (hp_0_0 h0).1 ?_
      refine ty_alen (v := 600) rX0_append_22 (hp_0_0 h0).2.1 (by decide) (hp_0_0 h0).2.2 rfl ?_
      refine tq_icmp_ge rX0_append_23 (fun c3 => ?_) (fun c3 => ?_)
      · rw [if_pos c3] at hf
        exact tq_forget _ (tq_le_s (tq_le_s (tq_le_s tq_le_n))) (FX0_append_j49L3_x  h0 hf hk)
      · rw [if_neg c3] at hf
        refine tq_aload_n rX0_append_26 rfl ?_
        refine ty_getR rX0_append_27 f_X0_9 rfl h0 (hp_0_0 h0).1 ?_
        refine tq_aload_n rX0_append_30 rfl ?_
        refine ty_getI rX0_append_31 f_X0_15 rfl h0 ?_
        refine tq_iload_n rX0_append_34 rfl ?_
        refine tq_iload_n rX0_append_35 rfl ?_
        refine tq_iushr rX0_append_36 ?_
        refine tq_i2b rX0_append_37 ?_
        obtain ⟨g4, hf⟩ := tq_chk hf
        refine ty_bast (v := 600) rX0_append_38 (hp_0_0 h0).2.1 (hp_0_0 h0).2.2 rfl (by decide) g4 ?_
        refine tq_aload_n rX0_append_39 rfl ?_
        refine tq_dup rX0_append_40 rfl ?_
        refine ty_getI rX0_append_41 f_X0_15 rfl h0 ?_
        refine tq_iconst (1 : Int32) rX0_append_44 (by decide) ?_
        refine tq_iadd rX0_append_45 ?_
        refine ty_putI rX0_append_46 f_X0_15 rfl h0 rfl ?_
        exact tq_forget _ (tq_le_s (tq_le_s (tq_le_s tq_le_n))) (FX0_append_j49L3_x  h0 hf hk)

set_option maxRecDepth 100000 in
set_option maxHeartbeats 4000000 in
theorem CX0_append {S : Nat × (Nat → Int32)} {d : Nat} {I : tq_PI} {L : tq_PL} {a0 : Nat} {a1 : Int32} (h0 : tq_sh0 a0 = 0) {out : tq_PI} (hf : FX0_append I L a0 a1 = some out) : tq_K S mX0_append d [.ref a0, .int a1] I L (tq_one2 (none) out L) := by
  unfold FX0_append at hf
  refine tq_K_of (by decide) (Nat.le_of_ble_eq_true rfl) (ls := [.ref a0, .int a1, tq_u]) rfl ?_
  refine tq_bipush (24 : Int32) rX0_append_0 (by decide) ?_
  refine tq_istore_n ([.ref a0, .int a1, .int (24 : Int32)]) rX0_append_2 (Nat.le_of_ble_eq_true rfl) rfl ?_
  obtain ⟨p5, e5, hf⟩ := Option.bind_eq_some_iff.mp hf
  refine tq_forget _ (tq_le_s (tq_le_s (tq_le_s tq_le_n))) ?_
  refine tq_it_elim (P := fun p : Int32 × tq_PI => tq_X S mX0_append d tq_k0 3 ([.ref a0, .int a1, .int p.1]) [] (tq_st p.2 L) (tq_Q (tq_one2 (none) out L))) (R := fun p : tq_PI => tq_X S mX0_append d tq_k0 55 ([tq_u, tq_u, tq_u]) [] (tq_st p L) (tq_Q (tq_one2 (none) out L))) (fun p o hp hk => FX0_append_s3_x  h0 hp hk) _ (((24 : Int32), I)) _ e5 ?_
  show tq_X _ _ _ _ _ _ _ _ _
  refine ty_vret rX0_append_55 rfl rfl ?_
  have hf := Option.some.inj hf
  subst hf
  exact ⟨rfl, rfl, rfl⟩

abbrev mX0_countOf : tq_M := (yX0_countOf, cX0_countOf, 2, (Option.some Jvm.ClassFile.FieldType.int), 0, 0)
theorem rX0_countOf_0 : tq_D cX0_countOf 0 (.iload_n 1) 1 1 := ⟨by decide +kernel, rfl⟩
theorem rX0_countOf_1 : tq_J cX0_countOf 1 (.ifCond .lt) 13 4 := ⟨12, by decide +kernel, by decide, rfl⟩
theorem rX0_countOf_4 : tq_D cX0_countOf 4 (.iload_n 1) 1 5 := ⟨by decide +kernel, rfl⟩
theorem rX0_countOf_5 : tq_D cX0_countOf 5 (.aload_n 0) 1 6 := ⟨by decide +kernel, rfl⟩
theorem rX0_countOf_6 : tq_D cX0_countOf 6 (.getfield 25) 3 9 := ⟨by decide +kernel, rfl⟩
theorem rX0_countOf_9 : tq_D cX0_countOf 9 (.arraylength) 1 10 := ⟨by decide +kernel, rfl⟩
theorem rX0_countOf_10 : tq_J cX0_countOf 10 (.if_icmp .lt) 17 13 := ⟨7, by decide +kernel, by decide, rfl⟩
theorem rX0_countOf_13 : tq_D cX0_countOf 13 (.iconst 0) 1 14 := ⟨by decide +kernel, rfl⟩
theorem rX0_countOf_14 : tq_J cX0_countOf 14 .goto 23 17 := ⟨9, by decide +kernel, by decide, rfl⟩
theorem rX0_countOf_17 : tq_D cX0_countOf 17 (.aload_n 0) 1 18 := ⟨by decide +kernel, rfl⟩
theorem rX0_countOf_18 : tq_D cX0_countOf 18 (.getfield 25) 3 21 := ⟨by decide +kernel, rfl⟩
theorem rX0_countOf_21 : tq_D cX0_countOf 21 (.iload_n 1) 1 22 := ⟨by decide +kernel, rfl⟩
theorem rX0_countOf_22 : tq_D cX0_countOf 22 (.iaload) 1 23 := ⟨by decide +kernel, rfl⟩
theorem rX0_countOf_23 : decode cX0_countOf 23 = .ok (.ireturn, 1) := by decide +kernel
noncomputable def FX0_countOf_j13 (I : tq_PI) (L : tq_PL)  : Option (Int32) :=
  some (0 : Int32)
noncomputable def FX0_countOf (I : tq_PI) (L : tq_PL) (a0 : Nat) (a1 : Int32) : Option (Int32) :=
  (if a1 < 0 then (FX0_countOf_j13 I L ) else (if a1 < (4 : Int32) then (if 0 ≤ a1 ∧ a1 < 4 then some (I (tq_rg a0 4) a1.toNatClampNeg) else none) else (FX0_countOf_j13 I L )))
set_option maxRecDepth 100000 in
set_option maxHeartbeats 4000000 in
theorem FX0_countOf_j13_x {S : Nat × (Nat → Int32)} {d : Nat} {I : tq_PI} {L : tq_PL}   {q0 : Option Value → tq_PI → tq_PL → Prop} {out : Int32} (hf : FX0_countOf_j13 I L = some out) (hk : q0 (some (.int out)) I L) : tq_X S mX0_countOf d tq_k0 13 ([tq_u, tq_u]) ([]) (tq_st I L) (tq_Q q0) := by
  unfold FX0_countOf_j13 at hf
  refine tq_iconst (0 : Int32) rX0_countOf_13 (by decide) ?_
  refine tq_goto rX0_countOf_14 ?_
  refine ty_iret rX0_countOf_23 rfl rfl ?_
  have hf := Option.some.inj hf
  subst hf
  exact hk

set_option maxRecDepth 100000 in
set_option maxHeartbeats 4000000 in
theorem CX0_countOf {S : Nat × (Nat → Int32)} {d : Nat} {I : tq_PI} {L : tq_PL} {a0 : Nat} {a1 : Int32} (h0 : tq_sh0 a0 = 0) {out : Int32} (hf : FX0_countOf I L a0 a1 = some out) : tq_K S mX0_countOf d [.ref a0, .int a1] I L (tq_one2 (some (.int out)) I L) := by
  unfold FX0_countOf at hf
  refine tq_K_of (by decide) (Nat.le_of_ble_eq_true rfl) (ls := [.ref a0, .int a1]) rfl ?_
  refine tq_iload_n rX0_countOf_0 rfl ?_
  refine tq_if_lt rX0_countOf_1 (fun c1 => ?_) (fun c1 => ?_)
  · rw [if_pos c1] at hf
    exact tq_forget _ (tq_le_u (tq_le_u tq_le_n)) (FX0_countOf_j13_x   hf ⟨rfl, rfl, rfl⟩)
  · rw [if_neg c1] at hf
    refine tq_iload_n rX0_countOf_4 rfl ?_
    refine tq_aload_n rX0_countOf_5 rfl ?_
    refine ty_getR rX0_countOf_6 f_X0_25 rfl h0 (hp_0_4 h0).1 ?_
    refine ty_alen (v := 4) rX0_countOf_9 (hp_0_4 h0).2.1 (by decide) (hp_0_4 h0).2.2 rfl ?_
    refine tq_icmp_lt rX0_countOf_10 (fun c2 => ?_) (fun c2 => ?_)
    · rw [if_pos c2] at hf
      refine tq_aload_n rX0_countOf_17 rfl ?_
      refine ty_getR rX0_countOf_18 f_X0_25 rfl h0 (hp_0_4 h0).1 ?_
      refine tq_iload_n rX0_countOf_21 rfl ?_
      obtain ⟨g3, hf⟩ := tq_chk hf
      refine ty_iald (v := 4) rX0_countOf_22 (hp_0_4 h0).2.1 (hp_0_4 h0).2.2 rfl (by decide) g3 ?_
      refine ty_iret rX0_countOf_23 rfl rfl ?_
      have hf := Option.some.inj hf
      subst hf
      exact ⟨rfl, rfl, rfl⟩
    · rw [if_neg c2] at hf
      exact tq_forget _ (tq_le_u (tq_le_u tq_le_n)) (FX0_countOf_j13_x   hf ⟨rfl, rfl, rfl⟩)

abbrev mX0_hillAt : tq_M := (yX0_hillAt, cX0_hillAt, 2, (Option.some (Jvm.ClassFile.FieldType.object "TwoQuarries$Hill")), 0, 0)
theorem moX0_countOf : tq_mok mX0_countOf 1 := ⟨tq_sg1 _ (List.mem_of_getElem? (i := 2) rfl), tq_sg2 _ (List.mem_of_getElem? (i := 171) rfl), ⟨by decide, by decide, by decide +kernel⟩, by decide⟩
theorem mvX0_countOf : 0 < 13 ∧ (tq_cl 0).1 = mX0_countOf.1.cls ∧ Cond.instanceMethod mX0_countOf.1 ∈ lw_tbl ∧ Cond.selects mX0_countOf.1.cls mX0_countOf.1 mX0_countOf.1 ∈ lw_tbl := ⟨by decide, rfl, tq_sg2 _ (List.mem_of_getElem? (i := 169) rfl), tq_sg2 _ (List.mem_of_getElem? (i := 170) rfl)⟩
theorem l_X0_76 : tq_lok RX0 76 mX0_countOf.1 := Or.inl (tq_sg3 _ (List.mem_of_getElem? (i := 189) rfl))
theorem rX0_hillAt_0 : tq_D cX0_hillAt 0 (.iload_n 1) 1 1 := ⟨by decide +kernel, rfl⟩
theorem rX0_hillAt_1 : tq_J cX0_hillAt 1 (.ifCond .lt) 22 4 := ⟨21, by decide +kernel, by decide, rfl⟩
theorem rX0_hillAt_4 : tq_D cX0_hillAt 4 (.iload_n 1) 1 5 := ⟨by decide +kernel, rfl⟩
theorem rX0_hillAt_5 : tq_D cX0_hillAt 5 (.aload_n 0) 1 6 := ⟨by decide +kernel, rfl⟩
theorem rX0_hillAt_6 : tq_D cX0_hillAt 6 (.iconst 0) 1 7 := ⟨by decide +kernel, rfl⟩
theorem rX0_hillAt_7 : tq_D cX0_hillAt 7 (.invokevirtual 76) 3 10 := ⟨by decide +kernel, rfl⟩
theorem rX0_hillAt_10 : tq_J cX0_hillAt 10 (.if_icmp .ge) 22 13 := ⟨12, by decide +kernel, by decide, rfl⟩
theorem rX0_hillAt_13 : tq_D cX0_hillAt 13 (.iload_n 1) 1 14 := ⟨by decide +kernel, rfl⟩
theorem rX0_hillAt_14 : tq_D cX0_hillAt 14 (.aload_n 0) 1 15 := ⟨by decide +kernel, rfl⟩
theorem rX0_hillAt_15 : tq_D cX0_hillAt 15 (.getfield 31) 3 18 := ⟨by decide +kernel, rfl⟩
theorem rX0_hillAt_18 : tq_D cX0_hillAt 18 (.arraylength) 1 19 := ⟨by decide +kernel, rfl⟩
theorem rX0_hillAt_19 : tq_J cX0_hillAt 19 (.if_icmp .lt) 26 22 := ⟨7, by decide +kernel, by decide, rfl⟩
theorem rX0_hillAt_22 : tq_D cX0_hillAt 22 (.aconst_null) 1 23 := ⟨by decide +kernel, rfl⟩
theorem rX0_hillAt_23 : tq_J cX0_hillAt 23 .goto 32 26 := ⟨9, by decide +kernel, by decide, rfl⟩
theorem rX0_hillAt_26 : tq_D cX0_hillAt 26 (.aload_n 0) 1 27 := ⟨by decide +kernel, rfl⟩
theorem rX0_hillAt_27 : tq_D cX0_hillAt 27 (.getfield 31) 3 30 := ⟨by decide +kernel, rfl⟩
theorem rX0_hillAt_30 : tq_D cX0_hillAt 30 (.iload_n 1) 1 31 := ⟨by decide +kernel, rfl⟩
theorem rX0_hillAt_31 : tq_D cX0_hillAt 31 (.aaload) 1 32 := ⟨by decide +kernel, rfl⟩
theorem rX0_hillAt_32 : decode cX0_hillAt 32 = .ok (.areturn, 1) := by decide +kernel
noncomputable def FX0_hillAt_j22 (I : tq_PI) (L : tq_PL)  : Option (Option Nat) :=
  some none
noncomputable def FX0_hillAt (I : tq_PI) (L : tq_PL) (a0 : Nat) (a1 : Int32) : Option (Option Nat) :=
  (if a1 < 0 then (FX0_hillAt_j22 I L ) else ((FX0_countOf I L a0 ((0 : Int32))).bind fun p2 => (if p2 ≤ a1 then (FX0_hillAt_j22 I L ) else (if a1 < (2 : Int32) then (if 0 ≤ a1 ∧ a1 < 2 then some (some (tq_rg (tq_rg a0 5) a1.toNatClampNeg)) else none) else (FX0_hillAt_j22 I L )))))
set_option maxRecDepth 100000 in
set_option maxHeartbeats 4000000 in
theorem FX0_hillAt_j22_x {S : Nat × (Nat → Int32)} {d : Nat} {I : tq_PI} {L : tq_PL}   {q0 : Option Value → tq_PI → tq_PL → Prop} {out : Option Nat} (hf : FX0_hillAt_j22 I L = some out) (hk : q0 (some (tq_rv out)) I L) : tq_X S mX0_hillAt (d + 1) tq_k0 22 ([tq_u, tq_u]) ([]) (tq_st I L) (tq_Q q0) := by
  unfold FX0_hillAt_j22 at hf
  refine tq_null rX0_hillAt_22 ?_
  refine tq_goto rX0_hillAt_23 ?_
  refine ty_aretN rX0_hillAt_32 rfl rfl ?_
  have hf := Option.some.inj hf
  subst hf
  exact hk

set_option maxRecDepth 100000 in
set_option maxHeartbeats 4000000 in
theorem CX0_hillAt {S : Nat × (Nat → Int32)} {d : Nat} {I : tq_PI} {L : tq_PL} {a0 : Nat} {a1 : Int32} (h0 : tq_sh0 a0 = 0) {out : Option Nat} (hf : FX0_hillAt I L a0 a1 = some out) : tq_K S mX0_hillAt (d + 1) [.ref a0, .int a1] I L (tq_one2 (some (tq_rv out)) I L) := by
  unfold FX0_hillAt at hf
  refine tq_K_of (by decide) (Nat.le_of_ble_eq_true rfl) (ls := [.ref a0, .int a1]) rfl ?_
  refine tq_iload_n rX0_hillAt_0 rfl ?_
  refine tq_if_lt rX0_hillAt_1 (fun c1 => ?_) (fun c1 => ?_)
  · rw [if_pos c1] at hf
    exact tq_forget _ (tq_le_u (tq_le_u tq_le_n)) (FX0_hillAt_j22_x   hf ⟨rfl, rfl, rfl⟩)
  · rw [if_neg c1] at hf
    refine tq_iload_n rX0_hillAt_4 rfl ?_
    refine tq_aload_n rX0_hillAt_5 rfl ?_
    refine tq_iconst (0 : Int32) rX0_hillAt_6 (by decide) ?_
    obtain ⟨p2, e2, hf⟩ := Option.bind_eq_some_iff.mp hf
    refine ty_callVI p2 ([.int (0 : Int32)]) ([.int a1]) rX0_hillAt_7 l_X0_76 moX0_countOf mvX0_countOf h0 rfl rfl (Nat.le_of_ble_eq_true rfl) ⟨rfl, rfl⟩ (CX0_countOf h0 e2) ?_
    refine tq_icmp_ge rX0_hillAt_10 (fun c3 => ?_) (fun c3 => ?_)
    · rw [if_pos c3] at hf
      exact tq_forget _ (tq_le_u (tq_le_u tq_le_n)) (FX0_hillAt_j22_x   hf ⟨rfl, rfl, rfl⟩)
    · rw [if_neg c3] at hf
      refine tq_iload_n rX0_hillAt_13 rfl ?_
      refine tq_aload_n rX0_hillAt_14 rfl ?_
      refine ty_getR rX0_hillAt_15 f_X0_31 rfl h0 (hp_0_5 h0).1 ?_
      refine ty_alen (v := 2) rX0_hillAt_18 (hp_0_5 h0).2.1 (by decide) (hp_0_5 h0).2.2 rfl ?_
      refine tq_icmp_lt rX0_hillAt_19 (fun c4 => ?_) (fun c4 => ?_)
      · rw [if_pos c4] at hf
        refine tq_aload_n rX0_hillAt_26 rfl ?_
        refine ty_getR rX0_hillAt_27 f_X0_31 rfl h0 (hp_0_5 h0).1 ?_
        refine tq_iload_n rX0_hillAt_30 rfl ?_
        obtain ⟨g5, hf⟩ := tq_chk hf
        have g5r := hq_113 (hp_0_5 h0).2.1 (tq_bl (n := 2) rfl (by decide) g5)
        refine ty_aald (v := 2) rX0_hillAt_31 (hp_0_5 h0).2.1 (by decide) (hp_0_5 h0).2.2 rfl (by decide) g5 g5r.1 ?_
        refine ty_aret rX0_hillAt_32 rfl rfl ?_
        have hf := Option.some.inj hf
        subst hf
        exact ⟨rfl, rfl, rfl⟩
      · rw [if_neg c4] at hf
        exact tq_forget _ (tq_le_u (tq_le_u tq_le_n)) (FX0_hillAt_j22_x   hf ⟨rfl, rfl, rfl⟩)

theorem RX0_hillAt {I : tq_PI} {L : tq_PL} {a0 : Nat} {a1 : Int32} (h0 : tq_sh0 a0 = 0) {out : Option Nat} (hf : FX0_hillAt I L a0 a1 = some out) {t : Nat} (ht : out = some t) : tq_sh0 t = 3 := by
  unfold FX0_hillAt at hf
  by_cases c1 : a1 < 0
  · rw [if_pos c1] at hf
    cases hf
    cases ht
  rw [if_neg c1] at hf
  obtain ⟨p, e, hf⟩ := Option.bind_eq_some_iff.mp hf
  by_cases c2 : p ≤ a1
  · rw [if_pos c2] at hf
    cases hf
    cases ht
  rw [if_neg c2] at hf
  by_cases c3 : a1 < (2 : Int32)
  · rw [if_pos c3] at hf
    obtain ⟨g, hf⟩ := tq_chk hf
    cases hf
    cases ht
    exact (hq_113 (hp_0_5 h0).2.1 (tq_bl (n := 2) rfl (by decide) g)).2
  · rw [if_neg c3] at hf
    cases hf
    cases ht
abbrev mX0_yearAt : tq_M := (yX0_yearAt, cX0_yearAt, 2, (Option.some (Jvm.ClassFile.FieldType.object "TwoQuarries$Year")), 0, 0)
theorem rX0_yearAt_0 : tq_D cX0_yearAt 0 (.iload_n 1) 1 1 := ⟨by decide +kernel, rfl⟩
theorem rX0_yearAt_1 : tq_J cX0_yearAt 1 (.ifCond .lt) 22 4 := ⟨21, by decide +kernel, by decide, rfl⟩
theorem rX0_yearAt_4 : tq_D cX0_yearAt 4 (.iload_n 1) 1 5 := ⟨by decide +kernel, rfl⟩
theorem rX0_yearAt_5 : tq_D cX0_yearAt 5 (.aload_n 0) 1 6 := ⟨by decide +kernel, rfl⟩
theorem rX0_yearAt_6 : tq_D cX0_yearAt 6 (.iconst 1) 1 7 := ⟨by decide +kernel, rfl⟩
theorem rX0_yearAt_7 : tq_D cX0_yearAt 7 (.invokevirtual 76) 3 10 := ⟨by decide +kernel, rfl⟩
theorem rX0_yearAt_10 : tq_J cX0_yearAt 10 (.if_icmp .ge) 22 13 := ⟨12, by decide +kernel, by decide, rfl⟩
theorem rX0_yearAt_13 : tq_D cX0_yearAt 13 (.iload_n 1) 1 14 := ⟨by decide +kernel, rfl⟩
theorem rX0_yearAt_14 : tq_D cX0_yearAt 14 (.aload_n 0) 1 15 := ⟨by decide +kernel, rfl⟩
theorem rX0_yearAt_15 : tq_D cX0_yearAt 15 (.getfield 37) 3 18 := ⟨by decide +kernel, rfl⟩
theorem rX0_yearAt_18 : tq_D cX0_yearAt 18 (.arraylength) 1 19 := ⟨by decide +kernel, rfl⟩
theorem rX0_yearAt_19 : tq_J cX0_yearAt 19 (.if_icmp .lt) 26 22 := ⟨7, by decide +kernel, by decide, rfl⟩
theorem rX0_yearAt_22 : tq_D cX0_yearAt 22 (.aconst_null) 1 23 := ⟨by decide +kernel, rfl⟩
theorem rX0_yearAt_23 : tq_J cX0_yearAt 23 .goto 32 26 := ⟨9, by decide +kernel, by decide, rfl⟩
theorem rX0_yearAt_26 : tq_D cX0_yearAt 26 (.aload_n 0) 1 27 := ⟨by decide +kernel, rfl⟩
theorem rX0_yearAt_27 : tq_D cX0_yearAt 27 (.getfield 37) 3 30 := ⟨by decide +kernel, rfl⟩
theorem rX0_yearAt_30 : tq_D cX0_yearAt 30 (.iload_n 1) 1 31 := ⟨by decide +kernel, rfl⟩
theorem rX0_yearAt_31 : tq_D cX0_yearAt 31 (.aaload) 1 32 := ⟨by decide +kernel, rfl⟩
theorem rX0_yearAt_32 : decode cX0_yearAt 32 = .ok (.areturn, 1) := by decide +kernel
noncomputable def FX0_yearAt_j22 (I : tq_PI) (L : tq_PL)  : Option (Option Nat) :=
  some none
noncomputable def FX0_yearAt (I : tq_PI) (L : tq_PL) (a0 : Nat) (a1 : Int32) : Option (Option Nat) :=
  (if a1 < 0 then (FX0_yearAt_j22 I L ) else ((FX0_countOf I L a0 ((1 : Int32))).bind fun p2 => (if p2 ≤ a1 then (FX0_yearAt_j22 I L ) else (if a1 < (2 : Int32) then (if 0 ≤ a1 ∧ a1 < 2 then some (some (tq_rg (tq_rg a0 6) a1.toNatClampNeg)) else none) else (FX0_yearAt_j22 I L )))))
set_option maxRecDepth 100000 in
set_option maxHeartbeats 4000000 in
theorem FX0_yearAt_j22_x {S : Nat × (Nat → Int32)} {d : Nat} {I : tq_PI} {L : tq_PL}   {q0 : Option Value → tq_PI → tq_PL → Prop} {out : Option Nat} (hf : FX0_yearAt_j22 I L = some out) (hk : q0 (some (tq_rv out)) I L) : tq_X S mX0_yearAt (d + 1) tq_k0 22 ([tq_u, tq_u]) ([]) (tq_st I L) (tq_Q q0) := by
  unfold FX0_yearAt_j22 at hf
  refine tq_null rX0_yearAt_22 ?_
  refine tq_goto rX0_yearAt_23 ?_
  refine ty_aretN rX0_yearAt_32 rfl rfl ?_
  have hf := Option.some.inj hf
  subst hf
  exact hk

set_option maxRecDepth 100000 in
set_option maxHeartbeats 4000000 in
theorem CX0_yearAt {S : Nat × (Nat → Int32)} {d : Nat} {I : tq_PI} {L : tq_PL} {a0 : Nat} {a1 : Int32} (h0 : tq_sh0 a0 = 0) {out : Option Nat} (hf : FX0_yearAt I L a0 a1 = some out) : tq_K S mX0_yearAt (d + 1) [.ref a0, .int a1] I L (tq_one2 (some (tq_rv out)) I L) := by
  unfold FX0_yearAt at hf
  refine tq_K_of (by decide) (Nat.le_of_ble_eq_true rfl) (ls := [.ref a0, .int a1]) rfl ?_
  refine tq_iload_n rX0_yearAt_0 rfl ?_
  refine tq_if_lt rX0_yearAt_1 (fun c1 => ?_) (fun c1 => ?_)
  · rw [if_pos c1] at hf
    exact tq_forget _ (tq_le_u (tq_le_u tq_le_n)) (FX0_yearAt_j22_x   hf ⟨rfl, rfl, rfl⟩)
  · rw [if_neg c1] at hf
    refine tq_iload_n rX0_yearAt_4 rfl ?_
    refine tq_aload_n rX0_yearAt_5 rfl ?_
    refine tq_iconst (1 : Int32) rX0_yearAt_6 (by decide) ?_
    obtain ⟨p2, e2, hf⟩ := Option.bind_eq_some_iff.mp hf
    refine ty_callVI p2 ([.int (1 : Int32)]) ([.int a1]) rX0_yearAt_7 l_X0_76 moX0_countOf mvX0_countOf h0 rfl rfl (Nat.le_of_ble_eq_true rfl) ⟨rfl, rfl⟩ (CX0_countOf h0 e2) ?_
    refine tq_icmp_ge rX0_yearAt_10 (fun c3 => ?_) (fun c3 => ?_)
    · rw [if_pos c3] at hf
      exact tq_forget _ (tq_le_u (tq_le_u tq_le_n)) (FX0_yearAt_j22_x   hf ⟨rfl, rfl, rfl⟩)
    · rw [if_neg c3] at hf
      refine tq_iload_n rX0_yearAt_13 rfl ?_
      refine tq_aload_n rX0_yearAt_14 rfl ?_
      refine ty_getR rX0_yearAt_15 f_X0_37 rfl h0 (hp_0_6 h0).1 ?_
      refine ty_alen (v := 2) rX0_yearAt_18 (hp_0_6 h0).2.1 (by decide) (hp_0_6 h0).2.2 rfl ?_
      refine tq_icmp_lt rX0_yearAt_19 (fun c4 => ?_) (fun c4 => ?_)
      · rw [if_pos c4] at hf
        refine tq_aload_n rX0_yearAt_26 rfl ?_
        refine ty_getR rX0_yearAt_27 f_X0_37 rfl h0 (hp_0_6 h0).1 ?_
        refine tq_iload_n rX0_yearAt_30 rfl ?_
        obtain ⟨g5, hf⟩ := tq_chk hf
        have g5r := hq_120 (hp_0_6 h0).2.1 (tq_bl (n := 2) rfl (by decide) g5)
        refine ty_aald (v := 2) rX0_yearAt_31 (hp_0_6 h0).2.1 (by decide) (hp_0_6 h0).2.2 rfl (by decide) g5 g5r.1 ?_
        refine ty_aret rX0_yearAt_32 rfl rfl ?_
        have hf := Option.some.inj hf
        subst hf
        exact ⟨rfl, rfl, rfl⟩
      · rw [if_neg c4] at hf
        exact tq_forget _ (tq_le_u (tq_le_u tq_le_n)) (FX0_yearAt_j22_x   hf ⟨rfl, rfl, rfl⟩)

theorem RX0_yearAt {I : tq_PI} {L : tq_PL} {a0 : Nat} {a1 : Int32} (h0 : tq_sh0 a0 = 0) {out : Option Nat} (hf : FX0_yearAt I L a0 a1 = some out) {t : Nat} (ht : out = some t) : tq_sh0 t = 10 := by
  unfold FX0_yearAt at hf
  by_cases c1 : a1 < 0
  · rw [if_pos c1] at hf
    cases hf
    cases ht
  rw [if_neg c1] at hf
  obtain ⟨p, e, hf⟩ := Option.bind_eq_some_iff.mp hf
  by_cases c2 : p ≤ a1
  · rw [if_pos c2] at hf
    cases hf
    cases ht
  rw [if_neg c2] at hf
  by_cases c3 : a1 < (2 : Int32)
  · rw [if_pos c3] at hf
    obtain ⟨g, hf⟩ := tq_chk hf
    cases hf
    cases ht
    exact (hq_120 (hp_0_6 h0).2.1 (tq_bl (n := 2) rfl (by decide) g)).2
  · rw [if_neg c3] at hf
    cases hf
    cases ht
abbrev mX0_logAt : tq_M := (yX0_logAt, cX0_logAt, 2, (Option.some (Jvm.ClassFile.FieldType.object "TwoQuarries$Log")), 0, 0)
theorem rX0_logAt_0 : tq_D cX0_logAt 0 (.iload_n 1) 1 1 := ⟨by decide +kernel, rfl⟩
theorem rX0_logAt_1 : tq_J cX0_logAt 1 (.ifCond .lt) 22 4 := ⟨21, by decide +kernel, by decide, rfl⟩
theorem rX0_logAt_4 : tq_D cX0_logAt 4 (.iload_n 1) 1 5 := ⟨by decide +kernel, rfl⟩
theorem rX0_logAt_5 : tq_D cX0_logAt 5 (.aload_n 0) 1 6 := ⟨by decide +kernel, rfl⟩
theorem rX0_logAt_6 : tq_D cX0_logAt 6 (.iconst 2) 1 7 := ⟨by decide +kernel, rfl⟩
theorem rX0_logAt_7 : tq_D cX0_logAt 7 (.invokevirtual 76) 3 10 := ⟨by decide +kernel, rfl⟩
theorem rX0_logAt_10 : tq_J cX0_logAt 10 (.if_icmp .ge) 22 13 := ⟨12, by decide +kernel, by decide, rfl⟩
theorem rX0_logAt_13 : tq_D cX0_logAt 13 (.iload_n 1) 1 14 := ⟨by decide +kernel, rfl⟩
theorem rX0_logAt_14 : tq_D cX0_logAt 14 (.aload_n 0) 1 15 := ⟨by decide +kernel, rfl⟩
theorem rX0_logAt_15 : tq_D cX0_logAt 15 (.getfield 43) 3 18 := ⟨by decide +kernel, rfl⟩
theorem rX0_logAt_18 : tq_D cX0_logAt 18 (.arraylength) 1 19 := ⟨by decide +kernel, rfl⟩
theorem rX0_logAt_19 : tq_J cX0_logAt 19 (.if_icmp .lt) 26 22 := ⟨7, by decide +kernel, by decide, rfl⟩
theorem rX0_logAt_22 : tq_D cX0_logAt 22 (.aconst_null) 1 23 := ⟨by decide +kernel, rfl⟩
theorem rX0_logAt_23 : tq_J cX0_logAt 23 .goto 32 26 := ⟨9, by decide +kernel, by decide, rfl⟩
theorem rX0_logAt_26 : tq_D cX0_logAt 26 (.aload_n 0) 1 27 := ⟨by decide +kernel, rfl⟩
theorem rX0_logAt_27 : tq_D cX0_logAt 27 (.getfield 43) 3 30 := ⟨by decide +kernel, rfl⟩
theorem rX0_logAt_30 : tq_D cX0_logAt 30 (.iload_n 1) 1 31 := ⟨by decide +kernel, rfl⟩
theorem rX0_logAt_31 : tq_D cX0_logAt 31 (.aaload) 1 32 := ⟨by decide +kernel, rfl⟩
theorem rX0_logAt_32 : decode cX0_logAt 32 = .ok (.areturn, 1) := by decide +kernel
noncomputable def FX0_logAt_j22 (I : tq_PI) (L : tq_PL)  : Option (Option Nat) :=
  some none
noncomputable def FX0_logAt (I : tq_PI) (L : tq_PL) (a0 : Nat) (a1 : Int32) : Option (Option Nat) :=
  (if a1 < 0 then (FX0_logAt_j22 I L ) else ((FX0_countOf I L a0 ((2 : Int32))).bind fun p2 => (if p2 ≤ a1 then (FX0_logAt_j22 I L ) else (if a1 < (2 : Int32) then (if 0 ≤ a1 ∧ a1 < 2 then some (some (tq_rg (tq_rg a0 7) a1.toNatClampNeg)) else none) else (FX0_logAt_j22 I L )))))
set_option maxRecDepth 100000 in
set_option maxHeartbeats 4000000 in
theorem FX0_logAt_j22_x {S : Nat × (Nat → Int32)} {d : Nat} {I : tq_PI} {L : tq_PL}   {q0 : Option Value → tq_PI → tq_PL → Prop} {out : Option Nat} (hf : FX0_logAt_j22 I L = some out) (hk : q0 (some (tq_rv out)) I L) : tq_X S mX0_logAt (d + 1) tq_k0 22 ([tq_u, tq_u]) ([]) (tq_st I L) (tq_Q q0) := by
  unfold FX0_logAt_j22 at hf
  refine tq_null rX0_logAt_22 ?_
  refine tq_goto rX0_logAt_23 ?_
  refine ty_aretN rX0_logAt_32 rfl rfl ?_
  have hf := Option.some.inj hf
  subst hf
  exact hk

set_option maxRecDepth 100000 in
set_option maxHeartbeats 4000000 in
theorem CX0_logAt {S : Nat × (Nat → Int32)} {d : Nat} {I : tq_PI} {L : tq_PL} {a0 : Nat} {a1 : Int32} (h0 : tq_sh0 a0 = 0) {out : Option Nat} (hf : FX0_logAt I L a0 a1 = some out) : tq_K S mX0_logAt (d + 1) [.ref a0, .int a1] I L (tq_one2 (some (tq_rv out)) I L) := by
  unfold FX0_logAt at hf
  refine tq_K_of (by decide) (Nat.le_of_ble_eq_true rfl) (ls := [.ref a0, .int a1]) rfl ?_
  refine tq_iload_n rX0_logAt_0 rfl ?_
  refine tq_if_lt rX0_logAt_1 (fun c1 => ?_) (fun c1 => ?_)
  · rw [if_pos c1] at hf
    exact tq_forget _ (tq_le_u (tq_le_u tq_le_n)) (FX0_logAt_j22_x   hf ⟨rfl, rfl, rfl⟩)
  · rw [if_neg c1] at hf
    refine tq_iload_n rX0_logAt_4 rfl ?_
    refine tq_aload_n rX0_logAt_5 rfl ?_
    refine tq_iconst (2 : Int32) rX0_logAt_6 (by decide) ?_
    obtain ⟨p2, e2, hf⟩ := Option.bind_eq_some_iff.mp hf
    refine ty_callVI p2 ([.int (2 : Int32)]) ([.int a1]) rX0_logAt_7 l_X0_76 moX0_countOf mvX0_countOf h0 rfl rfl (Nat.le_of_ble_eq_true rfl) ⟨rfl, rfl⟩ (CX0_countOf h0 e2) ?_
    refine tq_icmp_ge rX0_logAt_10 (fun c3 => ?_) (fun c3 => ?_)
    · rw [if_pos c3] at hf
      exact tq_forget _ (tq_le_u (tq_le_u tq_le_n)) (FX0_logAt_j22_x   hf ⟨rfl, rfl, rfl⟩)
    · rw [if_neg c3] at hf
      refine tq_iload_n rX0_logAt_13 rfl ?_
      refine tq_aload_n rX0_logAt_14 rfl ?_
      refine ty_getR rX0_logAt_15 f_X0_43 rfl h0 (hp_0_7 h0).1 ?_
      refine ty_alen (v := 2) rX0_logAt_18 (hp_0_7 h0).2.1 (by decide) (hp_0_7 h0).2.2 rfl ?_
      refine tq_icmp_lt rX0_logAt_19 (fun c4 => ?_) (fun c4 => ?_)
      · rw [if_pos c4] at hf
        refine tq_aload_n rX0_logAt_26 rfl ?_
        refine ty_getR rX0_logAt_27 f_X0_43 rfl h0 (hp_0_7 h0).1 ?_
        refine tq_iload_n rX0_logAt_30 rfl ?_
        obtain ⟨g5, hf⟩ := tq_chk hf
        have g5r := hq_114 (hp_0_7 h0).2.1 (tq_bl (n := 2) rfl (by decide) g5)
        refine ty_aald (v := 2) rX0_logAt_31 (hp_0_7 h0).2.1 (by decide) (hp_0_7 h0).2.2 rfl (by decide) g5 g5r.1 ?_
        refine ty_aret rX0_logAt_32 rfl rfl ?_
        have hf := Option.some.inj hf
        subst hf
        exact ⟨rfl, rfl, rfl⟩
      · rw [if_neg c4] at hf
        exact tq_forget _ (tq_le_u (tq_le_u tq_le_n)) (FX0_logAt_j22_x   hf ⟨rfl, rfl, rfl⟩)

theorem RX0_logAt {I : tq_PI} {L : tq_PL} {a0 : Nat} {a1 : Int32} (h0 : tq_sh0 a0 = 0) {out : Option Nat} (hf : FX0_logAt I L a0 a1 = some out) {t : Nat} (ht : out = some t) : tq_sh0 t = 4 := by
  unfold FX0_logAt at hf
  by_cases c1 : a1 < 0
  · rw [if_pos c1] at hf
    cases hf
    cases ht
  rw [if_neg c1] at hf
  obtain ⟨p, e, hf⟩ := Option.bind_eq_some_iff.mp hf
  by_cases c2 : p ≤ a1
  · rw [if_pos c2] at hf
    cases hf
    cases ht
  rw [if_neg c2] at hf
  by_cases c3 : a1 < (2 : Int32)
  · rw [if_pos c3] at hf
    obtain ⟨g, hf⟩ := tq_chk hf
    cases hf
    cases ht
    exact (hq_114 (hp_0_7 h0).2.1 (tq_bl (n := 2) rfl (by decide) g)).2
  · rw [if_neg c3] at hf
    cases hf
    cases ht
abbrev mX0_talkAt : tq_M := (yX0_talkAt, cX0_talkAt, 2, (Option.some (Jvm.ClassFile.FieldType.object "TwoQuarries$Talk")), 0, 0)
theorem rX0_talkAt_0 : tq_D cX0_talkAt 0 (.iload_n 1) 1 1 := ⟨by decide +kernel, rfl⟩
theorem rX0_talkAt_1 : tq_J cX0_talkAt 1 (.ifCond .lt) 22 4 := ⟨21, by decide +kernel, by decide, rfl⟩
theorem rX0_talkAt_4 : tq_D cX0_talkAt 4 (.iload_n 1) 1 5 := ⟨by decide +kernel, rfl⟩
theorem rX0_talkAt_5 : tq_D cX0_talkAt 5 (.aload_n 0) 1 6 := ⟨by decide +kernel, rfl⟩
theorem rX0_talkAt_6 : tq_D cX0_talkAt 6 (.iconst 3) 1 7 := ⟨by decide +kernel, rfl⟩
theorem rX0_talkAt_7 : tq_D cX0_talkAt 7 (.invokevirtual 76) 3 10 := ⟨by decide +kernel, rfl⟩
theorem rX0_talkAt_10 : tq_J cX0_talkAt 10 (.if_icmp .ge) 22 13 := ⟨12, by decide +kernel, by decide, rfl⟩
theorem rX0_talkAt_13 : tq_D cX0_talkAt 13 (.iload_n 1) 1 14 := ⟨by decide +kernel, rfl⟩
theorem rX0_talkAt_14 : tq_D cX0_talkAt 14 (.aload_n 0) 1 15 := ⟨by decide +kernel, rfl⟩
theorem rX0_talkAt_15 : tq_D cX0_talkAt 15 (.getfield 49) 3 18 := ⟨by decide +kernel, rfl⟩
theorem rX0_talkAt_18 : tq_D cX0_talkAt 18 (.arraylength) 1 19 := ⟨by decide +kernel, rfl⟩
theorem rX0_talkAt_19 : tq_J cX0_talkAt 19 (.if_icmp .lt) 26 22 := ⟨7, by decide +kernel, by decide, rfl⟩
theorem rX0_talkAt_22 : tq_D cX0_talkAt 22 (.aconst_null) 1 23 := ⟨by decide +kernel, rfl⟩
theorem rX0_talkAt_23 : tq_J cX0_talkAt 23 .goto 32 26 := ⟨9, by decide +kernel, by decide, rfl⟩
theorem rX0_talkAt_26 : tq_D cX0_talkAt 26 (.aload_n 0) 1 27 := ⟨by decide +kernel, rfl⟩
theorem rX0_talkAt_27 : tq_D cX0_talkAt 27 (.getfield 49) 3 30 := ⟨by decide +kernel, rfl⟩
theorem rX0_talkAt_30 : tq_D cX0_talkAt 30 (.iload_n 1) 1 31 := ⟨by decide +kernel, rfl⟩
theorem rX0_talkAt_31 : tq_D cX0_talkAt 31 (.aaload) 1 32 := ⟨by decide +kernel, rfl⟩
theorem rX0_talkAt_32 : decode cX0_talkAt 32 = .ok (.areturn, 1) := by decide +kernel
noncomputable def FX0_talkAt_j22 (I : tq_PI) (L : tq_PL)  : Option (Option Nat) :=
  some none
noncomputable def FX0_talkAt (I : tq_PI) (L : tq_PL) (a0 : Nat) (a1 : Int32) : Option (Option Nat) :=
  (if a1 < 0 then (FX0_talkAt_j22 I L ) else ((FX0_countOf I L a0 ((3 : Int32))).bind fun p2 => (if p2 ≤ a1 then (FX0_talkAt_j22 I L ) else (if a1 < (2 : Int32) then (if 0 ≤ a1 ∧ a1 < 2 then some (some (tq_rg (tq_rg a0 8) a1.toNatClampNeg)) else none) else (FX0_talkAt_j22 I L )))))
set_option maxRecDepth 100000 in
set_option maxHeartbeats 4000000 in
theorem FX0_talkAt_j22_x {S : Nat × (Nat → Int32)} {d : Nat} {I : tq_PI} {L : tq_PL}   {q0 : Option Value → tq_PI → tq_PL → Prop} {out : Option Nat} (hf : FX0_talkAt_j22 I L = some out) (hk : q0 (some (tq_rv out)) I L) : tq_X S mX0_talkAt (d + 1) tq_k0 22 ([tq_u, tq_u]) ([]) (tq_st I L) (tq_Q q0) := by
  unfold FX0_talkAt_j22 at hf
  refine tq_null rX0_talkAt_22 ?_
  refine tq_goto rX0_talkAt_23 ?_
  refine ty_aretN rX0_talkAt_32 rfl rfl ?_
  have hf := Option.some.inj hf
  subst hf
  exact hk

set_option maxRecDepth 100000 in
set_option maxHeartbeats 4000000 in
theorem CX0_talkAt {S : Nat × (Nat → Int32)} {d : Nat} {I : tq_PI} {L : tq_PL} {a0 : Nat} {a1 : Int32} (h0 : tq_sh0 a0 = 0) {out : Option Nat} (hf : FX0_talkAt I L a0 a1 = some out) : tq_K S mX0_talkAt (d + 1) [.ref a0, .int a1] I L (tq_one2 (some (tq_rv out)) I L) := by
  unfold FX0_talkAt at hf
  refine tq_K_of (by decide) (Nat.le_of_ble_eq_true rfl) (ls := [.ref a0, .int a1]) rfl ?_
  refine tq_iload_n rX0_talkAt_0 rfl ?_
  refine tq_if_lt rX0_talkAt_1 (fun c1 => ?_) (fun c1 => ?_)
  · rw [if_pos c1] at hf
    exact tq_forget _ (tq_le_u (tq_le_u tq_le_n)) (FX0_talkAt_j22_x   hf ⟨rfl, rfl, rfl⟩)
  · rw [if_neg c1] at hf
    refine tq_iload_n rX0_talkAt_4 rfl ?_
    refine tq_aload_n rX0_talkAt_5 rfl ?_
    refine tq_iconst (3 : Int32) rX0_talkAt_6 (by decide) ?_
    obtain ⟨p2, e2, hf⟩ := Option.bind_eq_some_iff.mp hf
    refine ty_callVI p2 ([.int (3 : Int32)]) ([.int a1]) rX0_talkAt_7 l_X0_76 moX0_countOf mvX0_countOf h0 rfl rfl (Nat.le_of_ble_eq_true rfl) ⟨rfl, rfl⟩ (CX0_countOf h0 e2) ?_
    refine tq_icmp_ge rX0_talkAt_10 (fun c3 => ?_) (fun c3 => ?_)
    · rw [if_pos c3] at hf
      exact tq_forget _ (tq_le_u (tq_le_u tq_le_n)) (FX0_talkAt_j22_x   hf ⟨rfl, rfl, rfl⟩)
    · rw [if_neg c3] at hf
      refine tq_iload_n rX0_talkAt_13 rfl ?_
      refine tq_aload_n rX0_talkAt_14 rfl ?_
      refine ty_getR rX0_talkAt_15 f_X0_49 rfl h0 (hp_0_8 h0).1 ?_
      refine ty_alen (v := 2) rX0_talkAt_18 (hp_0_8 h0).2.1 (by decide) (hp_0_8 h0).2.2 rfl ?_
      refine tq_icmp_lt rX0_talkAt_19 (fun c4 => ?_) (fun c4 => ?_)
      · rw [if_pos c4] at hf
        refine tq_aload_n rX0_talkAt_26 rfl ?_
        refine ty_getR rX0_talkAt_27 f_X0_49 rfl h0 (hp_0_8 h0).1 ?_
        refine tq_iload_n rX0_talkAt_30 rfl ?_
        obtain ⟨g5, hf⟩ := tq_chk hf
        have g5r := hq_119 (hp_0_8 h0).2.1 (tq_bl (n := 2) rfl (by decide) g5)
        refine ty_aald (v := 2) rX0_talkAt_31 (hp_0_8 h0).2.1 (by decide) (hp_0_8 h0).2.2 rfl (by decide) g5 g5r.1 ?_
        refine ty_aret rX0_talkAt_32 rfl rfl ?_
        have hf := Option.some.inj hf
        subst hf
        exact ⟨rfl, rfl, rfl⟩
      · rw [if_neg c4] at hf
        exact tq_forget _ (tq_le_u (tq_le_u tq_le_n)) (FX0_talkAt_j22_x   hf ⟨rfl, rfl, rfl⟩)

theorem RX0_talkAt {I : tq_PI} {L : tq_PL} {a0 : Nat} {a1 : Int32} (h0 : tq_sh0 a0 = 0) {out : Option Nat} (hf : FX0_talkAt I L a0 a1 = some out) {t : Nat} (ht : out = some t) : tq_sh0 t = 9 := by
  unfold FX0_talkAt at hf
  by_cases c1 : a1 < 0
  · rw [if_pos c1] at hf
    cases hf
    cases ht
  rw [if_neg c1] at hf
  obtain ⟨p, e, hf⟩ := Option.bind_eq_some_iff.mp hf
  by_cases c2 : p ≤ a1
  · rw [if_pos c2] at hf
    cases hf
    cases ht
  rw [if_neg c2] at hf
  by_cases c3 : a1 < (2 : Int32)
  · rw [if_pos c3] at hf
    obtain ⟨g, hf⟩ := tq_chk hf
    cases hf
    cases ht
    exact (hq_119 (hp_0_8 h0).2.1 (tq_bl (n := 2) rfl (by decide) g)).2
  · rw [if_neg c3] at hf
    cases hf
    cases ht
abbrev mX0_noteKept : tq_M := (yX0_noteKept, cX0_noteKept, 3, (Option.none : Option Jvm.ClassFile.FieldType), 0, 0)
theorem n_X0_84 : Cond.methodLink RX0 84 Lib.Math.max.name ∈ lw_tbl ∧ Cond.static Lib.Math.max.name ∈ lw_tbl ∧ Cond.initialized "java/lang/Math" ∈ lw_tbl ∧ Cond.code Lib.Math.max.name Lib.Math.max.code 2 (some .int) ∈ lw_tbl := ⟨tq_sg3 _ (List.mem_of_getElem? (i := 149) rfl), tq_sg2 _ (List.mem_of_getElem? (i := 180) rfl), tq_sg1 _ (List.mem_of_getElem? (i := 14) rfl), tq_sg2 _ (List.mem_of_getElem? (i := 181) rfl)⟩
theorem rX0_noteKept_0 : tq_D cX0_noteKept 0 (.iload_n 1) 1 1 := ⟨by decide +kernel, rfl⟩
theorem rX0_noteKept_1 : tq_J cX0_noteKept 1 (.ifCond .lt) 31 4 := ⟨30, by decide +kernel, by decide, rfl⟩
theorem rX0_noteKept_4 : tq_D cX0_noteKept 4 (.iload_n 1) 1 5 := ⟨by decide +kernel, rfl⟩
theorem rX0_noteKept_5 : tq_D cX0_noteKept 5 (.aload_n 0) 1 6 := ⟨by decide +kernel, rfl⟩
theorem rX0_noteKept_6 : tq_D cX0_noteKept 6 (.getfield 25) 3 9 := ⟨by decide +kernel, rfl⟩
theorem rX0_noteKept_9 : tq_D cX0_noteKept 9 (.arraylength) 1 10 := ⟨by decide +kernel, rfl⟩
theorem rX0_noteKept_10 : tq_J cX0_noteKept 10 (.if_icmp .ge) 31 13 := ⟨21, by decide +kernel, by decide, rfl⟩
theorem rX0_noteKept_13 : tq_D cX0_noteKept 13 (.aload_n 0) 1 14 := ⟨by decide +kernel, rfl⟩
theorem rX0_noteKept_14 : tq_D cX0_noteKept 14 (.getfield 25) 3 17 := ⟨by decide +kernel, rfl⟩
theorem rX0_noteKept_17 : tq_D cX0_noteKept 17 (.iload_n 1) 1 18 := ⟨by decide +kernel, rfl⟩
theorem rX0_noteKept_18 : tq_D cX0_noteKept 18 (.aload_n 0) 1 19 := ⟨by decide +kernel, rfl⟩
theorem rX0_noteKept_19 : tq_D cX0_noteKept 19 (.getfield 25) 3 22 := ⟨by decide +kernel, rfl⟩
theorem rX0_noteKept_22 : tq_D cX0_noteKept 22 (.iload_n 1) 1 23 := ⟨by decide +kernel, rfl⟩
theorem rX0_noteKept_23 : tq_D cX0_noteKept 23 (.iaload) 1 24 := ⟨by decide +kernel, rfl⟩
theorem rX0_noteKept_24 : tq_D cX0_noteKept 24 (.iload_n 2) 1 25 := ⟨by decide +kernel, rfl⟩
theorem rX0_noteKept_25 : tq_D cX0_noteKept 25 (.iconst 1) 1 26 := ⟨by decide +kernel, rfl⟩
theorem rX0_noteKept_26 : tq_D cX0_noteKept 26 (.iadd) 1 27 := ⟨by decide +kernel, rfl⟩
theorem rX0_noteKept_27 : tq_D cX0_noteKept 27 (.invokestatic 84) 3 30 := ⟨by decide +kernel, rfl⟩
theorem rX0_noteKept_30 : tq_D cX0_noteKept 30 (.iastore) 1 31 := ⟨by decide +kernel, rfl⟩
theorem rX0_noteKept_31 : decode cX0_noteKept 31 = .ok (.return_, 1) := by decide +kernel
noncomputable def FX0_noteKept (I : tq_PI) (L : tq_PL) (a0 : Nat) (a1 : Int32) (a2 : Int32) : Option (tq_PI) :=
  (if a1 < 0 then some I else (if (4 : Int32) ≤ a1 then some I else (if 0 ≤ a1 ∧ a1 < 4 then (if 0 ≤ a1 ∧ a1 < 4 then some (tq_up2 I (tq_rg a0 4) a1.toNatClampNeg (if (I (tq_rg a0 4) a1.toNatClampNeg) < (a2 + (1 : Int32)) then (a2 + (1 : Int32)) else (I (tq_rg a0 4) a1.toNatClampNeg))) else none) else none)))
set_option maxRecDepth 100000 in
set_option maxHeartbeats 4000000 in
theorem CX0_noteKept {S : Nat × (Nat → Int32)} {d : Nat} {I : tq_PI} {L : tq_PL} {a0 : Nat} {a1 : Int32} {a2 : Int32} (h0 : tq_sh0 a0 = 0) {out : tq_PI} (hf : FX0_noteKept I L a0 a1 a2 = some out) : tq_K S mX0_noteKept (d + 1) [.ref a0, .int a1, .int a2] I L (tq_one2 (none) out L) := by
  unfold FX0_noteKept at hf
  refine tq_K_of (by decide) (Nat.le_of_ble_eq_true rfl) (ls := [.ref a0, .int a1, .int a2]) rfl ?_
  refine tq_iload_n rX0_noteKept_0 rfl ?_
  refine tq_if_lt rX0_noteKept_1 (fun c1 => ?_) (fun c1 => ?_)
  · rw [if_pos c1] at hf
    refine ty_vret rX0_noteKept_31 rfl rfl ?_
    have hf := Option.some.inj hf
    subst hf
    exact ⟨rfl, rfl, rfl⟩
  · rw [if_neg c1] at hf
    refine tq_iload_n rX0_noteKept_4 rfl ?_
    refine tq_aload_n rX0_noteKept_5 rfl ?_
    refine ty_getR rX0_noteKept_6 f_X0_25 rfl h0 (hp_0_4 h0).1 ?_
    refine ty_alen (v := 4) rX0_noteKept_9 (hp_0_4 h0).2.1 (by decide) (hp_0_4 h0).2.2 rfl ?_
    refine tq_icmp_ge rX0_noteKept_10 (fun c2 => ?_) (fun c2 => ?_)
    · rw [if_pos c2] at hf
      refine ty_vret rX0_noteKept_31 rfl rfl ?_
      have hf := Option.some.inj hf
      subst hf
      exact ⟨rfl, rfl, rfl⟩
    · rw [if_neg c2] at hf
      refine tq_aload_n rX0_noteKept_13 rfl ?_
      refine ty_getR rX0_noteKept_14 f_X0_25 rfl h0 (hp_0_4 h0).1 ?_
      refine tq_iload_n rX0_noteKept_17 rfl ?_
      refine tq_aload_n rX0_noteKept_18 rfl ?_
      refine ty_getR rX0_noteKept_19 f_X0_25 rfl h0 (hp_0_4 h0).1 ?_
      refine tq_iload_n rX0_noteKept_22 rfl ?_
      obtain ⟨g3, hf⟩ := tq_chk hf
      refine ty_iald (v := 4) rX0_noteKept_23 (hp_0_4 h0).2.1 (hp_0_4 h0).2.2 rfl (by decide) g3 ?_
      refine tq_iload_n rX0_noteKept_24 rfl ?_
      refine tq_iconst (1 : Int32) rX0_noteKept_25 (by decide) ?_
      refine tq_iadd rX0_noteKept_26 ?_
      refine tq_mmax rX0_noteKept_27 (Nat.le_of_ble_eq_true rfl) n_X0_84 ?_
      obtain ⟨g4, hf⟩ := tq_chk hf
      refine ty_iast (v := 4) rX0_noteKept_30 (hp_0_4 h0).2.1 (hp_0_4 h0).2.2 rfl (by decide) g4 ?_
      refine ty_vret rX0_noteKept_31 rfl rfl ?_
      have hf := Option.some.inj hf
      subst hf
      exact ⟨rfl, rfl, rfl⟩

abbrev mX0_keepHill : tq_M := (yX0_keepHill, cX0_keepHill, 3, (Option.none : Option Jvm.ClassFile.FieldType), 0, 0)
theorem moX0_noteKept : tq_mok mX0_noteKept 2 := ⟨tq_sg1 _ (List.mem_of_getElem? (i := 2) rfl), tq_sg3 _ (List.mem_of_getElem? (i := 148) rfl), ⟨by decide, by decide, by decide +kernel⟩, by decide⟩
theorem mvX0_noteKept : 0 < 13 ∧ (tq_cl 0).1 = mX0_noteKept.1.cls ∧ Cond.instanceMethod mX0_noteKept.1 ∈ lw_tbl ∧ Cond.selects mX0_noteKept.1.cls mX0_noteKept.1 mX0_noteKept.1 ∈ lw_tbl := ⟨by decide, rfl, tq_sg3 _ (List.mem_of_getElem? (i := 147) rfl), List.mem_append_left _ (List.mem_map.mpr ⟨_, List.mem_of_getElem? (i := 18) rfl, rfl⟩)⟩
theorem l_X0_80 : tq_lok RX0 80 mX0_noteKept.1 := Or.inl (tq_sg3 _ (List.mem_of_getElem? (i := 145) rfl))
theorem rX0_keepHill_0 : tq_D cX0_keepHill 0 (.iload_n 1) 1 1 := ⟨by decide +kernel, rfl⟩
theorem rX0_keepHill_1 : tq_J cX0_keepHill 1 (.ifCond .lt) 29 4 := ⟨28, by decide +kernel, by decide, rfl⟩
theorem rX0_keepHill_4 : tq_D cX0_keepHill 4 (.iload_n 1) 1 5 := ⟨by decide +kernel, rfl⟩
theorem rX0_keepHill_5 : tq_D cX0_keepHill 5 (.aload_n 0) 1 6 := ⟨by decide +kernel, rfl⟩
theorem rX0_keepHill_6 : tq_D cX0_keepHill 6 (.getfield 31) 3 9 := ⟨by decide +kernel, rfl⟩
theorem rX0_keepHill_9 : tq_D cX0_keepHill 9 (.arraylength) 1 10 := ⟨by decide +kernel, rfl⟩
theorem rX0_keepHill_10 : tq_J cX0_keepHill 10 (.if_icmp .ge) 29 13 := ⟨19, by decide +kernel, by decide, rfl⟩
theorem rX0_keepHill_13 : tq_D cX0_keepHill 13 (.aload_n 0) 1 14 := ⟨by decide +kernel, rfl⟩
theorem rX0_keepHill_14 : tq_D cX0_keepHill 14 (.getfield 31) 3 17 := ⟨by decide +kernel, rfl⟩
theorem rX0_keepHill_17 : tq_D cX0_keepHill 17 (.iload_n 1) 1 18 := ⟨by decide +kernel, rfl⟩
theorem rX0_keepHill_18 : tq_D cX0_keepHill 18 (.aaload) 1 19 := ⟨by decide +kernel, rfl⟩
theorem rX0_keepHill_19 : tq_D cX0_keepHill 19 (.aload_n 2) 1 20 := ⟨by decide +kernel, rfl⟩
theorem rX0_keepHill_20 : tq_D cX0_keepHill 20 (.invokevirtual 63) 3 23 := ⟨by decide +kernel, rfl⟩
theorem rX0_keepHill_23 : tq_D cX0_keepHill 23 (.aload_n 0) 1 24 := ⟨by decide +kernel, rfl⟩
theorem rX0_keepHill_24 : tq_D cX0_keepHill 24 (.iconst 0) 1 25 := ⟨by decide +kernel, rfl⟩
theorem rX0_keepHill_25 : tq_D cX0_keepHill 25 (.iload_n 1) 1 26 := ⟨by decide +kernel, rfl⟩
theorem rX0_keepHill_26 : tq_D cX0_keepHill 26 (.invokevirtual 80) 3 29 := ⟨by decide +kernel, rfl⟩
theorem rX0_keepHill_29 : decode cX0_keepHill 29 = .ok (.return_, 1) := by decide +kernel
noncomputable def FX0_keepHill (I : tq_PI) (L : tq_PL) (a0 : Nat) (a1 : Int32) (a2 : Nat) : Option (tq_PI × tq_PL) :=
  (if a1 < 0 then some (I, L) else (if (2 : Int32) ≤ a1 then some (I, L) else (if 0 ≤ a1 ∧ a1 < 2 then (tq_let (FX3_take I L ((tq_rg (tq_rg a0 5) a1.toNatClampNeg)) a2) fun p4 => ((FX0_noteKept p4.1 p4.2 a0 ((0 : Int32)) a1).bind fun p5 => some (p5, p4.2))) else none)))
set_option maxRecDepth 100000 in
set_option maxHeartbeats 4000000 in
theorem CX0_keepHill {S : Nat × (Nat → Int32)} {d : Nat} {I : tq_PI} {L : tq_PL} {a0 : Nat} {a1 : Int32} {a2 : Nat} (h0 : tq_sh0 a0 = 0) (h2 : tq_sh0 a2 = 3) {out : tq_PI × tq_PL} (hf : FX0_keepHill I L a0 a1 a2 = some out) : tq_K S mX0_keepHill (d + 2) [.ref a0, .int a1, .ref a2] I L (tq_one2 (none) out.1 out.2) := by
  unfold FX0_keepHill at hf
  refine tq_K_of (by decide) (Nat.le_of_ble_eq_true rfl) (ls := [.ref a0, .int a1, .ref a2]) rfl ?_
  refine tq_iload_n rX0_keepHill_0 rfl ?_
  refine tq_if_lt rX0_keepHill_1 (fun c1 => ?_) (fun c1 => ?_)
  · rw [if_pos c1] at hf
    refine ty_vret rX0_keepHill_29 rfl rfl ?_
    have hf := Option.some.inj hf
    subst hf
    exact ⟨rfl, rfl, rfl⟩
  · rw [if_neg c1] at hf
    refine tq_iload_n rX0_keepHill_4 rfl ?_
    refine tq_aload_n rX0_keepHill_5 rfl ?_
    refine ty_getR rX0_keepHill_6 f_X0_31 rfl h0 (hp_0_5 h0).1 ?_
    refine ty_alen (v := 2) rX0_keepHill_9 (hp_0_5 h0).2.1 (by decide) (hp_0_5 h0).2.2 rfl ?_
    refine tq_icmp_ge rX0_keepHill_10 (fun c2 => ?_) (fun c2 => ?_)
    · rw [if_pos c2] at hf
      refine ty_vret rX0_keepHill_29 rfl rfl ?_
      have hf := Option.some.inj hf
      subst hf
      exact ⟨rfl, rfl, rfl⟩
    · rw [if_neg c2] at hf
      refine tq_aload_n rX0_keepHill_13 rfl ?_
      refine ty_getR rX0_keepHill_14 f_X0_31 rfl h0 (hp_0_5 h0).1 ?_
      refine tq_iload_n rX0_keepHill_17 rfl ?_
      obtain ⟨g3, hf⟩ := tq_chk hf
      have g3r := hq_113 (hp_0_5 h0).2.1 (tq_bl (n := 2) rfl (by decide) g3)
      refine ty_aald (v := 2) rX0_keepHill_18 (hp_0_5 h0).2.1 (by decide) (hp_0_5 h0).2.2 rfl (by decide) g3 g3r.1 ?_
      refine tq_aload_n rX0_keepHill_19 rfl ?_
      obtain ⟨p4, e4, hf⟩ := tq_let_elim hf
      refine ty_callVV ([.ref a2]) ([]) rX0_keepHill_20 l_X0_63 moX3_take mvX3_take g3r.2 rfl rfl (Nat.le_of_ble_eq_true rfl) ⟨rfl, rfl⟩ (CX3_take g3r.2 h2 e4) ?_
      refine tq_aload_n rX0_keepHill_23 rfl ?_
      refine tq_iconst (0 : Int32) rX0_keepHill_24 (by decide) ?_
      refine tq_iload_n rX0_keepHill_25 rfl ?_
      obtain ⟨p5, e5, hf⟩ := Option.bind_eq_some_iff.mp hf
      refine ty_callVV ([.int (0 : Int32), .int a1]) ([]) rX0_keepHill_26 l_X0_80 moX0_noteKept mvX0_noteKept h0 rfl rfl (Nat.le_of_ble_eq_true rfl) ⟨rfl, rfl⟩ (CX0_noteKept h0 e5) ?_
      refine ty_vret rX0_keepHill_29 rfl rfl ?_
      have hf := Option.some.inj hf
      subst hf
      exact ⟨rfl, rfl, rfl⟩

abbrev mX0_keepYear : tq_M := (yX0_keepYear, cX0_keepYear, 3, (Option.none : Option Jvm.ClassFile.FieldType), 0, 0)
theorem rX0_keepYear_0 : tq_D cX0_keepYear 0 (.iload_n 1) 1 1 := ⟨by decide +kernel, rfl⟩
theorem rX0_keepYear_1 : tq_J cX0_keepYear 1 (.ifCond .lt) 29 4 := ⟨28, by decide +kernel, by decide, rfl⟩
theorem rX0_keepYear_4 : tq_D cX0_keepYear 4 (.iload_n 1) 1 5 := ⟨by decide +kernel, rfl⟩
theorem rX0_keepYear_5 : tq_D cX0_keepYear 5 (.aload_n 0) 1 6 := ⟨by decide +kernel, rfl⟩
theorem rX0_keepYear_6 : tq_D cX0_keepYear 6 (.getfield 37) 3 9 := ⟨by decide +kernel, rfl⟩
theorem rX0_keepYear_9 : tq_D cX0_keepYear 9 (.arraylength) 1 10 := ⟨by decide +kernel, rfl⟩
theorem rX0_keepYear_10 : tq_J cX0_keepYear 10 (.if_icmp .ge) 29 13 := ⟨19, by decide +kernel, by decide, rfl⟩
theorem rX0_keepYear_13 : tq_D cX0_keepYear 13 (.aload_n 0) 1 14 := ⟨by decide +kernel, rfl⟩
theorem rX0_keepYear_14 : tq_D cX0_keepYear 14 (.getfield 37) 3 17 := ⟨by decide +kernel, rfl⟩
theorem rX0_keepYear_17 : tq_D cX0_keepYear 17 (.iload_n 1) 1 18 := ⟨by decide +kernel, rfl⟩
theorem rX0_keepYear_18 : tq_D cX0_keepYear 18 (.aaload) 1 19 := ⟨by decide +kernel, rfl⟩
theorem rX0_keepYear_19 : tq_D cX0_keepYear 19 (.aload_n 2) 1 20 := ⟨by decide +kernel, rfl⟩
theorem rX0_keepYear_20 : tq_D cX0_keepYear 20 (.invokevirtual 67) 3 23 := ⟨by decide +kernel, rfl⟩
theorem rX0_keepYear_23 : tq_D cX0_keepYear 23 (.aload_n 0) 1 24 := ⟨by decide +kernel, rfl⟩
theorem rX0_keepYear_24 : tq_D cX0_keepYear 24 (.iconst 1) 1 25 := ⟨by decide +kernel, rfl⟩
theorem rX0_keepYear_25 : tq_D cX0_keepYear 25 (.iload_n 1) 1 26 := ⟨by decide +kernel, rfl⟩
theorem rX0_keepYear_26 : tq_D cX0_keepYear 26 (.invokevirtual 80) 3 29 := ⟨by decide +kernel, rfl⟩
theorem rX0_keepYear_29 : decode cX0_keepYear 29 = .ok (.return_, 1) := by decide +kernel
noncomputable def FX0_keepYear (I : tq_PI) (L : tq_PL) (a0 : Nat) (a1 : Int32) (a2 : Nat) : Option (tq_PI) :=
  (if a1 < 0 then some I else (if (2 : Int32) ≤ a1 then some I else (if 0 ≤ a1 ∧ a1 < 2 then ((FX10_take I L ((tq_rg (tq_rg a0 6) a1.toNatClampNeg)) a2).bind fun p4 => ((FX0_noteKept p4 L a0 ((1 : Int32)) a1).bind fun p5 => some p5)) else none)))
set_option maxRecDepth 100000 in
set_option maxHeartbeats 4000000 in
theorem CX0_keepYear {S : Nat × (Nat → Int32)} {d : Nat} {I : tq_PI} {L : tq_PL} {a0 : Nat} {a1 : Int32} {a2 : Nat} (h0 : tq_sh0 a0 = 0) (h2 : tq_sh0 a2 = 10) {out : tq_PI} (hf : FX0_keepYear I L a0 a1 a2 = some out) : tq_K S mX0_keepYear (d + 2) [.ref a0, .int a1, .ref a2] I L (tq_one2 (none) out L) := by
  unfold FX0_keepYear at hf
  refine tq_K_of (by decide) (Nat.le_of_ble_eq_true rfl) (ls := [.ref a0, .int a1, .ref a2]) rfl ?_
  refine tq_iload_n rX0_keepYear_0 rfl ?_
  refine tq_if_lt rX0_keepYear_1 (fun c1 => ?_) (fun c1 => ?_)
  · rw [if_pos c1] at hf
    refine ty_vret rX0_keepYear_29 rfl rfl ?_
    have hf := Option.some.inj hf
    subst hf
    exact ⟨rfl, rfl, rfl⟩
  · rw [if_neg c1] at hf
    refine tq_iload_n rX0_keepYear_4 rfl ?_
    refine tq_aload_n rX0_keepYear_5 rfl ?_
    refine ty_getR rX0_keepYear_6 f_X0_37 rfl h0 (hp_0_6 h0).1 ?_
    refine ty_alen (v := 2) rX0_keepYear_9 (hp_0_6 h0).2.1 (by decide) (hp_0_6 h0).2.2 rfl ?_
    refine tq_icmp_ge rX0_keepYear_10 (fun c2 => ?_) (fun c2 => ?_)
    · rw [if_pos c2] at hf
      refine ty_vret rX0_keepYear_29 rfl rfl ?_
      have hf := Option.some.inj hf
      subst hf
      exact ⟨rfl, rfl, rfl⟩
    · rw [if_neg c2] at hf
      refine tq_aload_n rX0_keepYear_13 rfl ?_
      refine ty_getR rX0_keepYear_14 f_X0_37 rfl h0 (hp_0_6 h0).1 ?_
      refine tq_iload_n rX0_keepYear_17 rfl ?_
      obtain ⟨g3, hf⟩ := tq_chk hf
      have g3r := hq_120 (hp_0_6 h0).2.1 (tq_bl (n := 2) rfl (by decide) g3)
      refine ty_aald (v := 2) rX0_keepYear_18 (hp_0_6 h0).2.1 (by decide) (hp_0_6 h0).2.2 rfl (by decide) g3 g3r.1 ?_
      refine tq_aload_n rX0_keepYear_19 rfl ?_
      obtain ⟨p4, e4, hf⟩ := Option.bind_eq_some_iff.mp hf
      refine ty_callVV ([.ref a2]) ([]) rX0_keepYear_20 l_X0_67 moX10_take mvX10_take g3r.2 rfl rfl (Nat.le_of_ble_eq_true rfl) ⟨rfl, rfl⟩ (CX10_take g3r.2 h2 e4) ?_
      refine tq_aload_n rX0_keepYear_23 rfl ?_
      refine tq_iconst (1 : Int32) rX0_keepYear_24 (by decide) ?_
      refine tq_iload_n rX0_keepYear_25 rfl ?_
      obtain ⟨p5, e5, hf⟩ := Option.bind_eq_some_iff.mp hf
      refine ty_callVV ([.int (1 : Int32), .int a1]) ([]) rX0_keepYear_26 l_X0_80 moX0_noteKept mvX0_noteKept h0 rfl rfl (Nat.le_of_ble_eq_true rfl) ⟨rfl, rfl⟩ (CX0_noteKept h0 e5) ?_
      refine ty_vret rX0_keepYear_29 rfl rfl ?_
      have hf := Option.some.inj hf
      subst hf
      exact ⟨rfl, rfl, rfl⟩

abbrev mX0_keepLog : tq_M := (yX0_keepLog, cX0_keepLog, 3, (Option.none : Option Jvm.ClassFile.FieldType), 0, 0)
theorem rX0_keepLog_0 : tq_D cX0_keepLog 0 (.iload_n 1) 1 1 := ⟨by decide +kernel, rfl⟩
theorem rX0_keepLog_1 : tq_J cX0_keepLog 1 (.ifCond .lt) 29 4 := ⟨28, by decide +kernel, by decide, rfl⟩
theorem rX0_keepLog_4 : tq_D cX0_keepLog 4 (.iload_n 1) 1 5 := ⟨by decide +kernel, rfl⟩
theorem rX0_keepLog_5 : tq_D cX0_keepLog 5 (.aload_n 0) 1 6 := ⟨by decide +kernel, rfl⟩
theorem rX0_keepLog_6 : tq_D cX0_keepLog 6 (.getfield 43) 3 9 := ⟨by decide +kernel, rfl⟩
theorem rX0_keepLog_9 : tq_D cX0_keepLog 9 (.arraylength) 1 10 := ⟨by decide +kernel, rfl⟩
theorem rX0_keepLog_10 : tq_J cX0_keepLog 10 (.if_icmp .ge) 29 13 := ⟨19, by decide +kernel, by decide, rfl⟩
theorem rX0_keepLog_13 : tq_D cX0_keepLog 13 (.aload_n 0) 1 14 := ⟨by decide +kernel, rfl⟩
theorem rX0_keepLog_14 : tq_D cX0_keepLog 14 (.getfield 43) 3 17 := ⟨by decide +kernel, rfl⟩
theorem rX0_keepLog_17 : tq_D cX0_keepLog 17 (.iload_n 1) 1 18 := ⟨by decide +kernel, rfl⟩
theorem rX0_keepLog_18 : tq_D cX0_keepLog 18 (.aaload) 1 19 := ⟨by decide +kernel, rfl⟩
theorem rX0_keepLog_19 : tq_D cX0_keepLog 19 (.aload_n 2) 1 20 := ⟨by decide +kernel, rfl⟩
theorem rX0_keepLog_20 : tq_D cX0_keepLog 20 (.invokevirtual 70) 3 23 := ⟨by decide +kernel, rfl⟩
theorem rX0_keepLog_23 : tq_D cX0_keepLog 23 (.aload_n 0) 1 24 := ⟨by decide +kernel, rfl⟩
theorem rX0_keepLog_24 : tq_D cX0_keepLog 24 (.iconst 2) 1 25 := ⟨by decide +kernel, rfl⟩
theorem rX0_keepLog_25 : tq_D cX0_keepLog 25 (.iload_n 1) 1 26 := ⟨by decide +kernel, rfl⟩
theorem rX0_keepLog_26 : tq_D cX0_keepLog 26 (.invokevirtual 80) 3 29 := ⟨by decide +kernel, rfl⟩
theorem rX0_keepLog_29 : decode cX0_keepLog 29 = .ok (.return_, 1) := by decide +kernel
noncomputable def FX0_keepLog (I : tq_PI) (L : tq_PL) (a0 : Nat) (a1 : Int32) (a2 : Nat) : Option (tq_PI) :=
  (if a1 < 0 then some I else (if (2 : Int32) ≤ a1 then some I else (if 0 ≤ a1 ∧ a1 < 2 then ((FX4_take I L ((tq_rg (tq_rg a0 7) a1.toNatClampNeg)) a2).bind fun p4 => ((FX0_noteKept p4 L a0 ((2 : Int32)) a1).bind fun p5 => some p5)) else none)))
set_option maxRecDepth 100000 in
set_option maxHeartbeats 4000000 in
theorem CX0_keepLog {S : Nat × (Nat → Int32)} {d : Nat} {I : tq_PI} {L : tq_PL} {a0 : Nat} {a1 : Int32} {a2 : Nat} (h0 : tq_sh0 a0 = 0) (h2 : tq_sh0 a2 = 4) {out : tq_PI} (hf : FX0_keepLog I L a0 a1 a2 = some out) : tq_K S mX0_keepLog (d + 2) [.ref a0, .int a1, .ref a2] I L (tq_one2 (none) out L) := by
  unfold FX0_keepLog at hf
  refine tq_K_of (by decide) (Nat.le_of_ble_eq_true rfl) (ls := [.ref a0, .int a1, .ref a2]) rfl ?_
  refine tq_iload_n rX0_keepLog_0 rfl ?_
  refine tq_if_lt rX0_keepLog_1 (fun c1 => ?_) (fun c1 => ?_)
  · rw [if_pos c1] at hf
    refine ty_vret rX0_keepLog_29 rfl rfl ?_
    have hf := Option.some.inj hf
    subst hf
    exact ⟨rfl, rfl, rfl⟩
  · rw [if_neg c1] at hf
    refine tq_iload_n rX0_keepLog_4 rfl ?_
    refine tq_aload_n rX0_keepLog_5 rfl ?_
    refine ty_getR rX0_keepLog_6 f_X0_43 rfl h0 (hp_0_7 h0).1 ?_
    refine ty_alen (v := 2) rX0_keepLog_9 (hp_0_7 h0).2.1 (by decide) (hp_0_7 h0).2.2 rfl ?_
    refine tq_icmp_ge rX0_keepLog_10 (fun c2 => ?_) (fun c2 => ?_)
    · rw [if_pos c2] at hf
      refine ty_vret rX0_keepLog_29 rfl rfl ?_
      have hf := Option.some.inj hf
      subst hf
      exact ⟨rfl, rfl, rfl⟩
    · rw [if_neg c2] at hf
      refine tq_aload_n rX0_keepLog_13 rfl ?_
      refine ty_getR rX0_keepLog_14 f_X0_43 rfl h0 (hp_0_7 h0).1 ?_
      refine tq_iload_n rX0_keepLog_17 rfl ?_
      obtain ⟨g3, hf⟩ := tq_chk hf
      have g3r := hq_114 (hp_0_7 h0).2.1 (tq_bl (n := 2) rfl (by decide) g3)
      refine ty_aald (v := 2) rX0_keepLog_18 (hp_0_7 h0).2.1 (by decide) (hp_0_7 h0).2.2 rfl (by decide) g3 g3r.1 ?_
      refine tq_aload_n rX0_keepLog_19 rfl ?_
      obtain ⟨p4, e4, hf⟩ := Option.bind_eq_some_iff.mp hf
      refine ty_callVV ([.ref a2]) ([]) rX0_keepLog_20 l_X0_70 moX4_take mvX4_take g3r.2 rfl rfl (Nat.le_of_ble_eq_true rfl) ⟨rfl, rfl⟩ (CX4_take g3r.2 h2 e4) ?_
      refine tq_aload_n rX0_keepLog_23 rfl ?_
      refine tq_iconst (2 : Int32) rX0_keepLog_24 (by decide) ?_
      refine tq_iload_n rX0_keepLog_25 rfl ?_
      obtain ⟨p5, e5, hf⟩ := Option.bind_eq_some_iff.mp hf
      refine ty_callVV ([.int (2 : Int32), .int a1]) ([]) rX0_keepLog_26 l_X0_80 moX0_noteKept mvX0_noteKept h0 rfl rfl (Nat.le_of_ble_eq_true rfl) ⟨rfl, rfl⟩ (CX0_noteKept h0 e5) ?_
      refine ty_vret rX0_keepLog_29 rfl rfl ?_
      have hf := Option.some.inj hf
      subst hf
      exact ⟨rfl, rfl, rfl⟩

abbrev mX0_keepTalk : tq_M := (yX0_keepTalk, cX0_keepTalk, 3, (Option.none : Option Jvm.ClassFile.FieldType), 0, 0)
theorem rX0_keepTalk_0 : tq_D cX0_keepTalk 0 (.iload_n 1) 1 1 := ⟨by decide +kernel, rfl⟩
theorem rX0_keepTalk_1 : tq_J cX0_keepTalk 1 (.ifCond .lt) 29 4 := ⟨28, by decide +kernel, by decide, rfl⟩
theorem rX0_keepTalk_4 : tq_D cX0_keepTalk 4 (.iload_n 1) 1 5 := ⟨by decide +kernel, rfl⟩
theorem rX0_keepTalk_5 : tq_D cX0_keepTalk 5 (.aload_n 0) 1 6 := ⟨by decide +kernel, rfl⟩
theorem rX0_keepTalk_6 : tq_D cX0_keepTalk 6 (.getfield 49) 3 9 := ⟨by decide +kernel, rfl⟩
theorem rX0_keepTalk_9 : tq_D cX0_keepTalk 9 (.arraylength) 1 10 := ⟨by decide +kernel, rfl⟩
theorem rX0_keepTalk_10 : tq_J cX0_keepTalk 10 (.if_icmp .ge) 29 13 := ⟨19, by decide +kernel, by decide, rfl⟩
theorem rX0_keepTalk_13 : tq_D cX0_keepTalk 13 (.aload_n 0) 1 14 := ⟨by decide +kernel, rfl⟩
theorem rX0_keepTalk_14 : tq_D cX0_keepTalk 14 (.getfield 49) 3 17 := ⟨by decide +kernel, rfl⟩
theorem rX0_keepTalk_17 : tq_D cX0_keepTalk 17 (.iload_n 1) 1 18 := ⟨by decide +kernel, rfl⟩
theorem rX0_keepTalk_18 : tq_D cX0_keepTalk 18 (.aaload) 1 19 := ⟨by decide +kernel, rfl⟩
theorem rX0_keepTalk_19 : tq_D cX0_keepTalk 19 (.aload_n 2) 1 20 := ⟨by decide +kernel, rfl⟩
theorem rX0_keepTalk_20 : tq_D cX0_keepTalk 20 (.invokevirtual 73) 3 23 := ⟨by decide +kernel, rfl⟩
theorem rX0_keepTalk_23 : tq_D cX0_keepTalk 23 (.aload_n 0) 1 24 := ⟨by decide +kernel, rfl⟩
theorem rX0_keepTalk_24 : tq_D cX0_keepTalk 24 (.iconst 3) 1 25 := ⟨by decide +kernel, rfl⟩
theorem rX0_keepTalk_25 : tq_D cX0_keepTalk 25 (.iload_n 1) 1 26 := ⟨by decide +kernel, rfl⟩
theorem rX0_keepTalk_26 : tq_D cX0_keepTalk 26 (.invokevirtual 80) 3 29 := ⟨by decide +kernel, rfl⟩
theorem rX0_keepTalk_29 : decode cX0_keepTalk 29 = .ok (.return_, 1) := by decide +kernel
noncomputable def FX0_keepTalk (I : tq_PI) (L : tq_PL) (a0 : Nat) (a1 : Int32) (a2 : Nat) : Option (tq_PI) :=
  (if a1 < 0 then some I else (if (2 : Int32) ≤ a1 then some I else (if 0 ≤ a1 ∧ a1 < 2 then ((FX9_take I L ((tq_rg (tq_rg a0 8) a1.toNatClampNeg)) a2).bind fun p4 => ((FX0_noteKept p4 L a0 ((3 : Int32)) a1).bind fun p5 => some p5)) else none)))
set_option maxRecDepth 100000 in
set_option maxHeartbeats 4000000 in
theorem CX0_keepTalk {S : Nat × (Nat → Int32)} {d : Nat} {I : tq_PI} {L : tq_PL} {a0 : Nat} {a1 : Int32} {a2 : Nat} (h0 : tq_sh0 a0 = 0) (h2 : tq_sh0 a2 = 9) {out : tq_PI} (hf : FX0_keepTalk I L a0 a1 a2 = some out) : tq_K S mX0_keepTalk (d + 2) [.ref a0, .int a1, .ref a2] I L (tq_one2 (none) out L) := by
  unfold FX0_keepTalk at hf
  refine tq_K_of (by decide) (Nat.le_of_ble_eq_true rfl) (ls := [.ref a0, .int a1, .ref a2]) rfl ?_
  refine tq_iload_n rX0_keepTalk_0 rfl ?_
  refine tq_if_lt rX0_keepTalk_1 (fun c1 => ?_) (fun c1 => ?_)
  · rw [if_pos c1] at hf
    refine ty_vret rX0_keepTalk_29 rfl rfl ?_
    have hf := Option.some.inj hf
    subst hf
    exact ⟨rfl, rfl, rfl⟩
  · rw [if_neg c1] at hf
    refine tq_iload_n rX0_keepTalk_4 rfl ?_
    refine tq_aload_n rX0_keepTalk_5 rfl ?_
    refine ty_getR rX0_keepTalk_6 f_X0_49 rfl h0 (hp_0_8 h0).1 ?_
    refine ty_alen (v := 2) rX0_keepTalk_9 (hp_0_8 h0).2.1 (by decide) (hp_0_8 h0).2.2 rfl ?_
    refine tq_icmp_ge rX0_keepTalk_10 (fun c2 => ?_) (fun c2 => ?_)
    · rw [if_pos c2] at hf
      refine ty_vret rX0_keepTalk_29 rfl rfl ?_
      have hf := Option.some.inj hf
      subst hf
      exact ⟨rfl, rfl, rfl⟩
    · rw [if_neg c2] at hf
      refine tq_aload_n rX0_keepTalk_13 rfl ?_
      refine ty_getR rX0_keepTalk_14 f_X0_49 rfl h0 (hp_0_8 h0).1 ?_
      refine tq_iload_n rX0_keepTalk_17 rfl ?_
      obtain ⟨g3, hf⟩ := tq_chk hf
      have g3r := hq_119 (hp_0_8 h0).2.1 (tq_bl (n := 2) rfl (by decide) g3)
      refine ty_aald (v := 2) rX0_keepTalk_18 (hp_0_8 h0).2.1 (by decide) (hp_0_8 h0).2.2 rfl (by decide) g3 g3r.1 ?_
      refine tq_aload_n rX0_keepTalk_19 rfl ?_
      obtain ⟨p4, e4, hf⟩ := Option.bind_eq_some_iff.mp hf
      refine ty_callVV ([.ref a2]) ([]) rX0_keepTalk_20 l_X0_73 moX9_take mvX9_take g3r.2 rfl rfl (Nat.le_of_ble_eq_true rfl) ⟨rfl, rfl⟩ (CX9_take g3r.2 h2 e4) ?_
      refine tq_aload_n rX0_keepTalk_23 rfl ?_
      refine tq_iconst (3 : Int32) rX0_keepTalk_24 (by decide) ?_
      refine tq_iload_n rX0_keepTalk_25 rfl ?_
      obtain ⟨p5, e5, hf⟩ := Option.bind_eq_some_iff.mp hf
      refine ty_callVV ([.int (3 : Int32), .int a1]) ([]) rX0_keepTalk_26 l_X0_80 moX0_noteKept mvX0_noteKept h0 rfl rfl (Nat.le_of_ble_eq_true rfl) ⟨rfl, rfl⟩ (CX0_noteKept h0 e5) ?_
      refine ty_vret rX0_keepTalk_29 rfl rfl ?_
      have hf := Option.some.inj hf
      subst hf
      exact ⟨rfl, rfl, rfl⟩

abbrev mX9_oftenAt : tq_M := (yX9_oftenAt, cX9_oftenAt, 2, (Option.some Jvm.ClassFile.FieldType.int), 0, 0)
theorem rX9_oftenAt_0 : tq_D cX9_oftenAt 0 (.iload_n 1) 1 1 := ⟨by decide +kernel, rfl⟩
theorem rX9_oftenAt_1 : tq_J cX9_oftenAt 1 (.ifCond .lt) 21 4 := ⟨20, by decide +kernel, by decide, rfl⟩
theorem rX9_oftenAt_4 : tq_D cX9_oftenAt 4 (.iload_n 1) 1 5 := ⟨by decide +kernel, rfl⟩
theorem rX9_oftenAt_5 : tq_D cX9_oftenAt 5 (.aload_n 0) 1 6 := ⟨by decide +kernel, rfl⟩
theorem rX9_oftenAt_6 : tq_D cX9_oftenAt 6 (.getfield 9) 3 9 := ⟨by decide +kernel, rfl⟩
theorem rX9_oftenAt_9 : tq_J cX9_oftenAt 9 (.if_icmp .ge) 21 12 := ⟨12, by decide +kernel, by decide, rfl⟩
theorem rX9_oftenAt_12 : tq_D cX9_oftenAt 12 (.iload_n 1) 1 13 := ⟨by decide +kernel, rfl⟩
theorem rX9_oftenAt_13 : tq_D cX9_oftenAt 13 (.aload_n 0) 1 14 := ⟨by decide +kernel, rfl⟩
theorem rX9_oftenAt_14 : tq_D cX9_oftenAt 14 (.getfield 15) 3 17 := ⟨by decide +kernel, rfl⟩
theorem rX9_oftenAt_17 : tq_D cX9_oftenAt 17 (.arraylength) 1 18 := ⟨by decide +kernel, rfl⟩
theorem rX9_oftenAt_18 : tq_J cX9_oftenAt 18 (.if_icmp .lt) 25 21 := ⟨7, by decide +kernel, by decide, rfl⟩
theorem rX9_oftenAt_21 : tq_D cX9_oftenAt 21 (.iconst (-1)) 1 22 := ⟨by decide +kernel, rfl⟩
theorem rX9_oftenAt_22 : tq_J cX9_oftenAt 22 .goto 31 25 := ⟨9, by decide +kernel, by decide, rfl⟩
theorem rX9_oftenAt_25 : tq_D cX9_oftenAt 25 (.aload_n 0) 1 26 := ⟨by decide +kernel, rfl⟩
theorem rX9_oftenAt_26 : tq_D cX9_oftenAt 26 (.getfield 15) 3 29 := ⟨by decide +kernel, rfl⟩
theorem rX9_oftenAt_29 : tq_D cX9_oftenAt 29 (.iload_n 1) 1 30 := ⟨by decide +kernel, rfl⟩
theorem rX9_oftenAt_30 : tq_D cX9_oftenAt 30 (.iaload) 1 31 := ⟨by decide +kernel, rfl⟩
theorem rX9_oftenAt_31 : decode cX9_oftenAt 31 = .ok (.ireturn, 1) := by decide +kernel
noncomputable def FX9_oftenAt_j21 (I : tq_PI) (L : tq_PL)  : Option (Int32) :=
  some (-1 : Int32)
noncomputable def FX9_oftenAt (I : tq_PI) (L : tq_PL) (a0 : Nat) (a1 : Int32) : Option (Int32) :=
  (if a1 < 0 then (FX9_oftenAt_j21 I L ) else (if (I a0 0) ≤ a1 then (FX9_oftenAt_j21 I L ) else (if a1 < (8 : Int32) then (if 0 ≤ a1 ∧ a1 < 8 then some (I (tq_rg a0 1) a1.toNatClampNeg) else none) else (FX9_oftenAt_j21 I L ))))
set_option maxRecDepth 100000 in
set_option maxHeartbeats 4000000 in
theorem FX9_oftenAt_j21_x {S : Nat × (Nat → Int32)} {d : Nat} {I : tq_PI} {L : tq_PL}   {q0 : Option Value → tq_PI → tq_PL → Prop} {out : Int32} (hf : FX9_oftenAt_j21 I L = some out) (hk : q0 (some (.int out)) I L) : tq_X S mX9_oftenAt d tq_k0 21 ([tq_u, tq_u]) ([]) (tq_st I L) (tq_Q q0) := by
  unfold FX9_oftenAt_j21 at hf
  refine tq_iconst (-1 : Int32) rX9_oftenAt_21 (by decide) ?_
  refine tq_goto rX9_oftenAt_22 ?_
  refine ty_iret rX9_oftenAt_31 rfl rfl ?_
  have hf := Option.some.inj hf
  subst hf
  exact hk

set_option maxRecDepth 100000 in
set_option maxHeartbeats 4000000 in
theorem CX9_oftenAt {S : Nat × (Nat → Int32)} {d : Nat} {I : tq_PI} {L : tq_PL} {a0 : Nat} {a1 : Int32} (h0 : tq_sh0 a0 = 9) {out : Int32} (hf : FX9_oftenAt I L a0 a1 = some out) : tq_K S mX9_oftenAt d [.ref a0, .int a1] I L (tq_one2 (some (.int out)) I L) := by
  unfold FX9_oftenAt at hf
  refine tq_K_of (by decide) (Nat.le_of_ble_eq_true rfl) (ls := [.ref a0, .int a1]) rfl ?_
  refine tq_iload_n rX9_oftenAt_0 rfl ?_
  refine tq_if_lt rX9_oftenAt_1 (fun c1 => ?_) (fun c1 => ?_)
  · rw [if_pos c1] at hf
    exact tq_forget _ (tq_le_u (tq_le_u tq_le_n)) (FX9_oftenAt_j21_x   hf ⟨rfl, rfl, rfl⟩)
  · rw [if_neg c1] at hf
    refine tq_iload_n rX9_oftenAt_4 rfl ?_
    refine tq_aload_n rX9_oftenAt_5 rfl ?_
    refine ty_getI rX9_oftenAt_6 f_X9_9 rfl h0 ?_
    refine tq_icmp_ge rX9_oftenAt_9 (fun c2 => ?_) (fun c2 => ?_)
    · rw [if_pos c2] at hf
      exact tq_forget _ (tq_le_u (tq_le_u tq_le_n)) (FX9_oftenAt_j21_x   hf ⟨rfl, rfl, rfl⟩)
    · rw [if_neg c2] at hf
      refine tq_iload_n rX9_oftenAt_12 rfl ?_
      refine tq_aload_n rX9_oftenAt_13 rfl ?_
      refine ty_getR rX9_oftenAt_14 f_X9_15 rfl h0 (hp_9_1 h0).1 ?_
      refine ty_alen (v := 8) rX9_oftenAt_17 (hp_9_1 h0).2.1 (by decide) (hp_9_1 h0).2.2 rfl ?_
      refine tq_icmp_lt rX9_oftenAt_18 (fun c3 => ?_) (fun c3 => ?_)
      · rw [if_pos c3] at hf
        refine tq_aload_n rX9_oftenAt_25 rfl ?_
        refine ty_getR rX9_oftenAt_26 f_X9_15 rfl h0 (hp_9_1 h0).1 ?_
        refine tq_iload_n rX9_oftenAt_29 rfl ?_
        obtain ⟨g4, hf⟩ := tq_chk hf
        refine ty_iald (v := 8) rX9_oftenAt_30 (hp_9_1 h0).2.1 (hp_9_1 h0).2.2 rfl (by decide) g4 ?_
        refine ty_iret rX9_oftenAt_31 rfl rfl ?_
        have hf := Option.some.inj hf
        subst hf
        exact ⟨rfl, rfl, rfl⟩
      · rw [if_neg c3] at hf
        exact tq_forget _ (tq_le_u (tq_le_u tq_le_n)) (FX9_oftenAt_j21_x   hf ⟨rfl, rfl, rfl⟩)

abbrev mX9_rankOf : tq_M := (yX9_rankOf, cX9_rankOf, 4, (Option.some Jvm.ClassFile.FieldType.int), 0, 0)
theorem moX9_oftenAt : tq_mok mX9_oftenAt 1 := ⟨tq_sg1 _ (List.mem_of_getElem? (i := 6) rfl), tq_sg5 _ (List.mem_of_getElem? (i := 114) rfl), ⟨by decide, by decide, by decide +kernel⟩, by decide⟩
theorem mvX9_oftenAt : 9 < 13 ∧ (tq_cl 9).1 = mX9_oftenAt.1.cls ∧ Cond.instanceMethod mX9_oftenAt.1 ∈ lw_tbl ∧ Cond.selects mX9_oftenAt.1.cls mX9_oftenAt.1 mX9_oftenAt.1 ∈ lw_tbl := ⟨by decide, rfl, tq_sg5 _ (List.mem_of_getElem? (i := 112) rfl), tq_sg5 _ (List.mem_of_getElem? (i := 113) rfl)⟩
theorem l_X9_25 : tq_lok RX9 25 mX9_oftenAt.1 := Or.inl (tq_sg5 _ (List.mem_of_getElem? (i := 111) rfl))
theorem rX9_rankOf_0 : tq_D cX9_rankOf 0 (.iload_n 1) 1 1 := ⟨by decide +kernel, rfl⟩
theorem rX9_rankOf_1 : tq_J cX9_rankOf 1 (.ifCond .lt) 12 4 := ⟨11, by decide +kernel, by decide, rfl⟩
theorem rX9_rankOf_4 : tq_D cX9_rankOf 4 (.iload_n 1) 1 5 := ⟨by decide +kernel, rfl⟩
theorem rX9_rankOf_5 : tq_D cX9_rankOf 5 (.aload_n 0) 1 6 := ⟨by decide +kernel, rfl⟩
theorem rX9_rankOf_6 : tq_D cX9_rankOf 6 (.getfield 9) 3 9 := ⟨by decide +kernel, rfl⟩
theorem rX9_rankOf_9 : tq_J cX9_rankOf 9 (.if_icmp .lt) 14 12 := ⟨5, by decide +kernel, by decide, rfl⟩
theorem rX9_rankOf_12 : tq_D cX9_rankOf 12 (.iconst (-1)) 1 13 := ⟨by decide +kernel, rfl⟩
theorem rX9_rankOf_13 : decode cX9_rankOf 13 = .ok (.ireturn, 1) := by decide +kernel
theorem rX9_rankOf_14 : tq_D cX9_rankOf 14 (.iconst 1) 1 15 := ⟨by decide +kernel, rfl⟩
theorem rX9_rankOf_15 : tq_D cX9_rankOf 15 (.istore_n 2) 1 16 := ⟨by decide +kernel, rfl⟩
theorem rX9_rankOf_16 : tq_D cX9_rankOf 16 (.iconst 0) 1 17 := ⟨by decide +kernel, rfl⟩
theorem rX9_rankOf_17 : tq_D cX9_rankOf 17 (.istore_n 3) 1 18 := ⟨by decide +kernel, rfl⟩
theorem rX9_rankOf_18 : tq_D cX9_rankOf 18 (.iload_n 3) 1 19 := ⟨by decide +kernel, rfl⟩
theorem rX9_rankOf_19 : tq_D cX9_rankOf 19 (.aload_n 0) 1 20 := ⟨by decide +kernel, rfl⟩
theorem rX9_rankOf_20 : tq_D cX9_rankOf 20 (.getfield 9) 3 23 := ⟨by decide +kernel, rfl⟩
theorem rX9_rankOf_23 : tq_J cX9_rankOf 23 (.if_icmp .ge) 66 26 := ⟨43, by decide +kernel, by decide, rfl⟩
theorem rX9_rankOf_26 : tq_D cX9_rankOf 26 (.aload_n 0) 1 27 := ⟨by decide +kernel, rfl⟩
theorem rX9_rankOf_27 : tq_D cX9_rankOf 27 (.iload_n 3) 1 28 := ⟨by decide +kernel, rfl⟩
theorem rX9_rankOf_28 : tq_D cX9_rankOf 28 (.invokevirtual 25) 3 31 := ⟨by decide +kernel, rfl⟩
theorem rX9_rankOf_31 : tq_D cX9_rankOf 31 (.aload_n 0) 1 32 := ⟨by decide +kernel, rfl⟩
theorem rX9_rankOf_32 : tq_D cX9_rankOf 32 (.iload_n 1) 1 33 := ⟨by decide +kernel, rfl⟩
theorem rX9_rankOf_33 : tq_D cX9_rankOf 33 (.invokevirtual 25) 3 36 := ⟨by decide +kernel, rfl⟩
theorem rX9_rankOf_36 : tq_J cX9_rankOf 36 (.if_icmp .gt) 57 39 := ⟨21, by decide +kernel, by decide, rfl⟩
theorem rX9_rankOf_39 : tq_D cX9_rankOf 39 (.aload_n 0) 1 40 := ⟨by decide +kernel, rfl⟩
theorem rX9_rankOf_40 : tq_D cX9_rankOf 40 (.iload_n 3) 1 41 := ⟨by decide +kernel, rfl⟩
theorem rX9_rankOf_41 : tq_D cX9_rankOf 41 (.invokevirtual 25) 3 44 := ⟨by decide +kernel, rfl⟩
theorem rX9_rankOf_44 : tq_D cX9_rankOf 44 (.aload_n 0) 1 45 := ⟨by decide +kernel, rfl⟩
theorem rX9_rankOf_45 : tq_D cX9_rankOf 45 (.iload_n 1) 1 46 := ⟨by decide +kernel, rfl⟩
theorem rX9_rankOf_46 : tq_D cX9_rankOf 46 (.invokevirtual 25) 3 49 := ⟨by decide +kernel, rfl⟩
theorem rX9_rankOf_49 : tq_J cX9_rankOf 49 (.if_icmp .ne) 60 52 := ⟨11, by decide +kernel, by decide, rfl⟩
theorem rX9_rankOf_52 : tq_D cX9_rankOf 52 (.iload_n 3) 1 53 := ⟨by decide +kernel, rfl⟩
theorem rX9_rankOf_53 : tq_D cX9_rankOf 53 (.iload_n 1) 1 54 := ⟨by decide +kernel, rfl⟩
theorem rX9_rankOf_54 : tq_J cX9_rankOf 54 (.if_icmp .ge) 60 57 := ⟨6, by decide +kernel, by decide, rfl⟩
theorem rX9_rankOf_57 : tq_D cX9_rankOf 57 (.iinc 2 1) 3 60 := ⟨by decide +kernel, rfl⟩
theorem rX9_rankOf_60 : tq_D cX9_rankOf 60 (.iinc 3 1) 3 63 := ⟨by decide +kernel, rfl⟩
theorem rX9_rankOf_63 : tq_J cX9_rankOf 63 .goto 18 66 := ⟨(-45), by decide +kernel, by decide, rfl⟩
theorem rX9_rankOf_66 : tq_D cX9_rankOf 66 (.iload_n 2) 1 67 := ⟨by decide +kernel, rfl⟩
theorem rX9_rankOf_67 : decode cX9_rankOf 67 = .ok (.ireturn, 1) := by decide +kernel
noncomputable def FX9_rankOf_j12 (I : tq_PI) (L : tq_PL)  : Option (Int32) :=
  some (-1 : Int32)
noncomputable def FX9_rankOf_j60L18 (I : tq_PI) (L : tq_PL) (a0 : Nat) (a1 : Int32) (a2 : Int32) (a3 : Int32) : Option ((Int32 × Int32) ⊕ (Int32)) :=
  some (.inl (a2, (a3 + 1)))
noncomputable def FX9_rankOf_j57L18 (I : tq_PI) (L : tq_PL) (a0 : Nat) (a1 : Int32) (a2 : Int32) (a3 : Int32) : Option ((Int32 × Int32) ⊕ (Int32)) :=
  (FX9_rankOf_j60L18 I L a0 a1 ((a2 + 1)) a3)
noncomputable def FX9_rankOf_s18 (I : tq_PI) (L : tq_PL) (a0 : Nat) (a1 : Int32) (a2 : Int32) (a3 : Int32) : Option ((Int32 × Int32) ⊕ (Int32)) :=
  (if (I a0 0) ≤ a3 then some (.inr a2) else ((FX9_oftenAt I L a0 a3).bind fun p4 => ((FX9_oftenAt I L a0 a1).bind fun p5 => (if p5 < p4 then (FX9_rankOf_j57L18 I L a0 a1 a2 a3) else ((FX9_oftenAt I L a0 a3).bind fun p7 => ((FX9_oftenAt I L a0 a1).bind fun p8 => (if p7 = p8 then (if a1 ≤ a3 then (FX9_rankOf_j60L18 I L a0 a1 a2 a3) else (FX9_rankOf_j57L18 I L a0 a1 a2 a3)) else (FX9_rankOf_j60L18 I L a0 a1 a2 a3))))))))
noncomputable def FX9_rankOf (I : tq_PI) (L : tq_PL) (a0 : Nat) (a1 : Int32) : Option (Int32) :=
  (if a1 < 0 then (FX9_rankOf_j12 I L ) else (if a1 < (I a0 0) then ((tq_it (fun p : Int32 × Int32 => FX9_rankOf_s18 I L a0 a1 p.1 p.2) tq_N ((1 : Int32), (0 : Int32))).bind fun p11 => some p11) else (FX9_rankOf_j12 I L )))
set_option maxRecDepth 100000 in
set_option maxHeartbeats 4000000 in
theorem FX9_rankOf_j12_x {S : Nat × (Nat → Int32)} {d : Nat} {I : tq_PI} {L : tq_PL}   {q0 : Option Value → tq_PI → tq_PL → Prop} {out : Int32} (hf : FX9_rankOf_j12 I L = some out) (hk : q0 (some (.int out)) I L) : tq_X S mX9_rankOf (d + 1) tq_k0 12 ([tq_u, tq_u, tq_u, tq_u]) ([]) (tq_st I L) (tq_Q q0) := by
  unfold FX9_rankOf_j12 at hf
  refine tq_iconst (-1 : Int32) rX9_rankOf_12 (by decide) ?_
  refine ty_iret rX9_rankOf_13 rfl rfl ?_
  have hf := Option.some.inj hf
  subst hf
  exact hk

set_option maxRecDepth 100000 in
set_option maxHeartbeats 4000000 in
theorem FX9_rankOf_j60L18_x {S : Nat × (Nat → Int32)} {d : Nat} {I : tq_PI} {L : tq_PL} {a0 : Nat} {a1 : Int32} {a2 : Int32} {a3 : Int32} (h0 : tq_sh0 a0 = 9) {q0 : Option Value → tq_PI → tq_PL → Prop} {out : (Int32 × Int32) ⊕ (Int32)} (hf : FX9_rankOf_j60L18 I L a0 a1 a2 a3 = some out) (hk : Sum.elim (fun p : Int32 × Int32 => tq_X S mX9_rankOf (d + 1) tq_k0 18 ([.ref a0, .int a1, .int p.1, .int p.2]) [] (tq_st I L) (tq_Q q0)) (fun p : Int32 => tq_X S mX9_rankOf (d + 1) tq_k0 66 ([tq_u, tq_u, .int p, tq_u]) [] (tq_st I L) (tq_Q q0)) out) : tq_X S mX9_rankOf (d + 1) tq_k0 60 ([.ref a0, .int a1, .int a2, .int a3]) ([]) (tq_st I L) (tq_Q q0) := by
  unfold FX9_rankOf_j60L18 at hf
  refine tq_iinc (a3 + 1) ([.ref a0, .int a1, .int a2, .int (a3 + 1)]) rX9_rankOf_60 rfl (tq_inc (by decide)) (Nat.le_of_ble_eq_true rfl) rfl ?_
  refine tq_goto rX9_rankOf_63 ?_
  have hf := Option.some.inj hf
  subst hf
  exact tq_forget _ (tq_le_s (tq_le_s (tq_le_s (tq_le_s tq_le_n)))) hk

set_option maxRecDepth 100000 in
set_option maxHeartbeats 4000000 in
theorem FX9_rankOf_j57L18_x {S : Nat × (Nat → Int32)} {d : Nat} {I : tq_PI} {L : tq_PL} {a0 : Nat} {a1 : Int32} {a2 : Int32} {a3 : Int32} (h0 : tq_sh0 a0 = 9) {q0 : Option Value → tq_PI → tq_PL → Prop} {out : (Int32 × Int32) ⊕ (Int32)} (hf : FX9_rankOf_j57L18 I L a0 a1 a2 a3 = some out) (hk : Sum.elim (fun p : Int32 × Int32 => tq_X S mX9_rankOf (d + 1) tq_k0 18 ([.ref a0, .int a1, .int p.1, .int p.2]) [] (tq_st I L) (tq_Q q0)) (fun p : Int32 => tq_X S mX9_rankOf (d + 1) tq_k0 66 ([tq_u, tq_u, .int p, tq_u]) [] (tq_st I L) (tq_Q q0)) out) : tq_X S mX9_rankOf (d + 1) tq_k0 57 ([.ref a0, .int a1, .int a2, .int a3]) ([]) (tq_st I L) (tq_Q q0) := by
  unfold FX9_rankOf_j57L18 at hf
  refine tq_iinc (a2 + 1) ([.ref a0, .int a1, .int (a2 + 1), .int a3]) rX9_rankOf_57 rfl (tq_inc (by decide)) (Nat.le_of_ble_eq_true rfl) rfl ?_
  exact tq_forget _ (tq_le_s (tq_le_s (tq_le_s (tq_le_s tq_le_n)))) (FX9_rankOf_j60L18_x  h0 hf hk)

set_option maxRecDepth 100000 in
set_option maxHeartbeats 4000000 in
theorem FX9_rankOf_s18_x {S : Nat × (Nat → Int32)} {d : Nat} {I : tq_PI} {L : tq_PL} {a0 : Nat} {a1 : Int32} {a2 : Int32} {a3 : Int32} (h0 : tq_sh0 a0 = 9) {q0 : Option Value → tq_PI → tq_PL → Prop} {out : (Int32 × Int32) ⊕ (Int32)} (hf : FX9_rankOf_s18 I L a0 a1 a2 a3 = some out) (hk : Sum.elim (fun p : Int32 × Int32 => tq_X S mX9_rankOf (d + 1) tq_k0 18 ([.ref a0, .int a1, .int p.1, .int p.2]) [] (tq_st I L) (tq_Q q0)) (fun p : Int32 => tq_X S mX9_rankOf (d + 1) tq_k0 66 ([tq_u, tq_u, .int p, tq_u]) [] (tq_st I L) (tq_Q q0)) out) : tq_X S mX9_rankOf (d + 1) tq_k0 18 ([.ref a0, .int a1, .int a2, .int a3]) [] (tq_st I L) (tq_Q q0) := by
  unfold FX9_rankOf_s18 at hf
  refine tq_iload_n rX9_rankOf_18 rfl ?_
  refine tq_aload_n rX9_rankOf_19 rfl ?_
  refine ty_getI rX9_rankOf_20 f_X9_9 rfl h0 ?_
  refine tq_icmp_ge rX9_rankOf_23 (fun c3 => ?_) (fun c3 => ?_)
  · rw [if_pos c3] at hf
    have hf := Option.some.inj hf
    subst hf
    exact tq_forget _ (tq_le_u (tq_le_u (tq_le_s (tq_le_u tq_le_n)))) hk
  · rw [if_neg c3] at hf
    refine tq_aload_n rX9_rankOf_26 rfl ?_
    refine tq_iload_n rX9_rankOf_27 rfl ?_
    obtain ⟨p4, e4, hf⟩ := Option.bind_eq_some_iff.mp hf
    refine ty_callVI p4 ([.int a3]) ([]) rX9_rankOf_28 l_X9_25 moX9_oftenAt mvX9_oftenAt h0 rfl rfl (Nat.le_of_ble_eq_true rfl) ⟨rfl, rfl⟩ (CX9_oftenAt h0 e4) ?_
    refine tq_aload_n rX9_rankOf_31 rfl ?_
    refine tq_iload_n rX9_rankOf_32 rfl ?_
    obtain ⟨p5, e5, hf⟩ := Option.bind_eq_some_iff.mp hf
    refine ty_callVI p5 ([.int a1]) ([.int p4]) rX9_rankOf_33 l_X9_25 moX9_oftenAt mvX9_oftenAt h0 rfl rfl (Nat.le_of_ble_eq_true rfl) ⟨rfl, rfl⟩ (CX9_oftenAt h0 e5) ?_
    refine tq_icmp_gt rX9_rankOf_36 (fun c6 => ?_) (fun c6 => ?_)
    · rw [if_pos c6] at hf
      exact tq_forget _ (tq_le_s (tq_le_s (tq_le_s (tq_le_s tq_le_n)))) (FX9_rankOf_j57L18_x  h0 hf hk)
    · rw [if_neg c6] at hf
      refine tq_aload_n rX9_rankOf_39 rfl ?_
      refine tq_iload_n rX9_rankOf_40 rfl ?_
      obtain ⟨p7, e7, hf⟩ := Option.bind_eq_some_iff.mp hf
      refine ty_callVI p7 ([.int a3]) ([]) rX9_rankOf_41 l_X9_25 moX9_oftenAt mvX9_oftenAt h0 rfl rfl (Nat.le_of_ble_eq_true rfl) ⟨rfl, rfl⟩ (CX9_oftenAt h0 e7) ?_
      refine tq_aload_n rX9_rankOf_44 rfl ?_
      refine tq_iload_n rX9_rankOf_45 rfl ?_
      obtain ⟨p8, e8, hf⟩ := Option.bind_eq_some_iff.mp hf
      refine ty_callVI p8 ([.int a1]) ([.int p7]) rX9_rankOf_46 l_X9_25 moX9_oftenAt mvX9_oftenAt h0 rfl rfl (Nat.le_of_ble_eq_true rfl) ⟨rfl, rfl⟩ (CX9_oftenAt h0 e8) ?_
      refine tq_icmp_ne rX9_rankOf_49 (fun c9 => ?_) (fun c9 => ?_)
      · rw [if_neg c9] at hf
        exact tq_forget _ (tq_le_s (tq_le_s (tq_le_s (tq_le_s tq_le_n)))) (FX9_rankOf_j60L18_x  h0 hf hk)
      · rw [if_pos c9] at hf
        refine tq_iload_n rX9_rankOf_52 rfl ?_
        refine tq_iload_n rX9_rankOf_53 rfl ?_
        refine tq_icmp_ge rX9_rankOf_54 (fun c10 => ?_) (fun c10 => ?_)
        · rw [if_pos c10] at hf
          exact tq_forget _ (tq_le_s (tq_le_s (tq_le_s (tq_le_s tq_le_n)))) (FX9_rankOf_j60L18_x  h0 hf hk)
        · rw [if_neg c10] at hf
          exact tq_forget _ (tq_le_s (tq_le_s (tq_le_s (tq_le_s tq_le_n)))) (FX9_rankOf_j57L18_x  h0 hf hk)

set_option maxRecDepth 100000 in
set_option maxHeartbeats 4000000 in
theorem CX9_rankOf {S : Nat × (Nat → Int32)} {d : Nat} {I : tq_PI} {L : tq_PL} {a0 : Nat} {a1 : Int32} (h0 : tq_sh0 a0 = 9) {out : Int32} (hf : FX9_rankOf I L a0 a1 = some out) : tq_K S mX9_rankOf (d + 1) [.ref a0, .int a1] I L (tq_one2 (some (.int out)) I L) := by
  unfold FX9_rankOf at hf
  refine tq_K_of (by decide) (Nat.le_of_ble_eq_true rfl) (ls := [.ref a0, .int a1, tq_u, tq_u]) rfl ?_
  refine tq_iload_n rX9_rankOf_0 rfl ?_
  refine tq_if_lt rX9_rankOf_1 (fun c1 => ?_) (fun c1 => ?_)
  · rw [if_pos c1] at hf
    exact tq_forget _ (tq_le_u (tq_le_u (tq_le_u (tq_le_u tq_le_n)))) (FX9_rankOf_j12_x   hf ⟨rfl, rfl, rfl⟩)
  · rw [if_neg c1] at hf
    refine tq_iload_n rX9_rankOf_4 rfl ?_
    refine tq_aload_n rX9_rankOf_5 rfl ?_
    refine ty_getI rX9_rankOf_6 f_X9_9 rfl h0 ?_
    refine tq_icmp_lt rX9_rankOf_9 (fun c2 => ?_) (fun c2 => ?_)
    · rw [if_pos c2] at hf
      refine tq_iconst (1 : Int32) rX9_rankOf_14 (by decide) ?_
      refine tq_istore_n ([.ref a0, .int a1, .int (1 : Int32), tq_u]) rX9_rankOf_15 (Nat.le_of_ble_eq_true rfl) rfl ?_
      refine tq_iconst (0 : Int32) rX9_rankOf_16 (by decide) ?_
      refine tq_istore_n ([.ref a0, .int a1, .int (1 : Int32), .int (0 : Int32)]) rX9_rankOf_17 (Nat.le_of_ble_eq_true rfl) rfl ?_
      obtain ⟨p11, e11, hf⟩ := Option.bind_eq_some_iff.mp hf
      refine tq_forget _ (tq_le_s (tq_le_s (tq_le_s (tq_le_s tq_le_n)))) ?_
      refine tq_it_elim (P := fun p : Int32 × Int32 => tq_X S mX9_rankOf (d + 1) tq_k0 18 ([.ref a0, .int a1, .int p.1, .int p.2]) [] (tq_st I L) (tq_Q (tq_one2 (some (.int out)) I L))) (R := fun p : Int32 => tq_X S mX9_rankOf (d + 1) tq_k0 66 ([tq_u, tq_u, .int p, tq_u]) [] (tq_st I L) (tq_Q (tq_one2 (some (.int out)) I L))) (fun p o hp hk => FX9_rankOf_s18_x  h0 hp hk) _ (((1 : Int32), (0 : Int32))) _ e11 ?_
      show tq_X _ _ _ _ _ _ _ _ _
      refine tq_iload_n rX9_rankOf_66 rfl ?_
      refine ty_iret rX9_rankOf_67 rfl rfl ?_
      have hf := Option.some.inj hf
      subst hf
      exact ⟨rfl, rfl, rfl⟩
    · rw [if_neg c2] at hf
      exact tq_forget _ (tq_le_u (tq_le_u (tq_le_u (tq_le_u tq_le_n)))) (FX9_rankOf_j12_x   hf ⟨rfl, rfl, rfl⟩)

abbrev mX1_sort : tq_M := (yX1_sort, cX1_sort, 4, (Option.none : Option Jvm.ClassFile.FieldType), 0, 0)
theorem moX9_rankOf : tq_mok mX9_rankOf 1 := ⟨tq_sg1 _ (List.mem_of_getElem? (i := 6) rfl), tq_sg5 _ (List.mem_of_getElem? (i := 110) rfl), ⟨by decide, by decide, by decide +kernel⟩, by decide⟩
theorem mvX9_rankOf : 9 < 13 ∧ (tq_cl 9).1 = mX9_rankOf.1.cls ∧ Cond.instanceMethod mX9_rankOf.1 ∈ lw_tbl ∧ Cond.selects mX9_rankOf.1.cls mX9_rankOf.1 mX9_rankOf.1 ∈ lw_tbl := ⟨by decide, rfl, tq_sg5 _ (List.mem_of_getElem? (i := 108) rfl), tq_sg5 _ (List.mem_of_getElem? (i := 109) rfl)⟩
theorem f_X1_15 : tq_fok RX1 15 1 1 := ⟨by decide, by decide, Or.inl (tq_sg2 _ (List.mem_of_getElem? (i := 115) rfl))⟩
theorem f_X1_9 : tq_fok RX1 9 1 0 := ⟨by decide, by decide, Or.inl (tq_sg2 _ (List.mem_of_getElem? (i := 114) rfl))⟩
theorem l_X1_40 : tq_lok RX1 40 mX9_rankOf.1 := Or.inl (tq_sg5 _ (List.mem_of_getElem? (i := 107) rfl))
theorem l_X1_43 : tq_lok RX1 43 mX9_oftenAt.1 := Or.inl (tq_sg5 _ (List.mem_of_getElem? (i := 115) rfl))
theorem rX1_sort_0 : tq_D cX1_sort 0 (.iconst 0) 1 1 := ⟨by decide +kernel, rfl⟩
theorem rX1_sort_1 : tq_D cX1_sort 1 (.istore_n 2) 1 2 := ⟨by decide +kernel, rfl⟩
theorem rX1_sort_2 : tq_D cX1_sort 2 (.iload_n 2) 1 3 := ⟨by decide +kernel, rfl⟩
theorem rX1_sort_3 : tq_D cX1_sort 3 (.aload_n 0) 1 4 := ⟨by decide +kernel, rfl⟩
theorem rX1_sort_4 : tq_D cX1_sort 4 (.getfield 15) 3 7 := ⟨by decide +kernel, rfl⟩
theorem rX1_sort_7 : tq_J cX1_sort 7 (.if_icmp .ge) 49 10 := ⟨42, by decide +kernel, by decide, rfl⟩
theorem rX1_sort_10 : tq_D cX1_sort 10 (.aload_n 1) 1 11 := ⟨by decide +kernel, rfl⟩
theorem rX1_sort_11 : tq_D cX1_sort 11 (.iload_n 2) 1 12 := ⟨by decide +kernel, rfl⟩
theorem rX1_sort_12 : tq_D cX1_sort 12 (.invokevirtual 40) 3 15 := ⟨by decide +kernel, rfl⟩
theorem rX1_sort_15 : tq_D cX1_sort 15 (.istore_n 3) 1 16 := ⟨by decide +kernel, rfl⟩
theorem rX1_sort_16 : tq_D cX1_sort 16 (.iload_n 3) 1 17 := ⟨by decide +kernel, rfl⟩
theorem rX1_sort_17 : tq_D cX1_sort 17 (.iconst 1) 1 18 := ⟨by decide +kernel, rfl⟩
theorem rX1_sort_18 : tq_J cX1_sort 18 (.if_icmp .lt) 43 21 := ⟨25, by decide +kernel, by decide, rfl⟩
theorem rX1_sort_21 : tq_D cX1_sort 21 (.iload_n 3) 1 22 := ⟨by decide +kernel, rfl⟩
theorem rX1_sort_22 : tq_D cX1_sort 22 (.aload_n 0) 1 23 := ⟨by decide +kernel, rfl⟩
theorem rX1_sort_23 : tq_D cX1_sort 23 (.getfield 9) 3 26 := ⟨by decide +kernel, rfl⟩
theorem rX1_sort_26 : tq_D cX1_sort 26 (.arraylength) 1 27 := ⟨by decide +kernel, rfl⟩
theorem rX1_sort_27 : tq_J cX1_sort 27 (.if_icmp .gt) 43 30 := ⟨16, by decide +kernel, by decide, rfl⟩
theorem rX1_sort_30 : tq_D cX1_sort 30 (.aload_n 0) 1 31 := ⟨by decide +kernel, rfl⟩
theorem rX1_sort_31 : tq_D cX1_sort 31 (.getfield 9) 3 34 := ⟨by decide +kernel, rfl⟩
theorem rX1_sort_34 : tq_D cX1_sort 34 (.iload_n 3) 1 35 := ⟨by decide +kernel, rfl⟩
theorem rX1_sort_35 : tq_D cX1_sort 35 (.iconst 1) 1 36 := ⟨by decide +kernel, rfl⟩
theorem rX1_sort_36 : tq_D cX1_sort 36 (.isub) 1 37 := ⟨by decide +kernel, rfl⟩
theorem rX1_sort_37 : tq_D cX1_sort 37 (.aload_n 1) 1 38 := ⟨by decide +kernel, rfl⟩
theorem rX1_sort_38 : tq_D cX1_sort 38 (.iload_n 2) 1 39 := ⟨by decide +kernel, rfl⟩
theorem rX1_sort_39 : tq_D cX1_sort 39 (.invokevirtual 43) 3 42 := ⟨by decide +kernel, rfl⟩
theorem rX1_sort_42 : tq_D cX1_sort 42 (.iastore) 1 43 := ⟨by decide +kernel, rfl⟩
theorem rX1_sort_43 : tq_D cX1_sort 43 (.iinc 2 1) 3 46 := ⟨by decide +kernel, rfl⟩
theorem rX1_sort_46 : tq_J cX1_sort 46 .goto 2 49 := ⟨(-44), by decide +kernel, by decide, rfl⟩
theorem rX1_sort_49 : decode cX1_sort 49 = .ok (.return_, 1) := by decide +kernel
noncomputable def FX1_sort_j43L2 (I : tq_PI) (L : tq_PL) (a0 : Nat) (a1 : Nat) (a2 : Int32) : Option ((Int32 × tq_PI) ⊕ (tq_PI)) :=
  some (.inl ((a2 + 1), I))
noncomputable def FX1_sort_s2 (I : tq_PI) (L : tq_PL) (a0 : Nat) (a1 : Nat) (a2 : Int32) : Option ((Int32 × tq_PI) ⊕ (tq_PI)) :=
  (if (I a0 1) ≤ a2 then some (.inr I) else ((FX9_rankOf I L a1 a2).bind fun p2 => (if p2 < (1 : Int32) then (FX1_sort_j43L2 I L a0 a1 a2) else (if (8 : Int32) < p2 then (FX1_sort_j43L2 I L a0 a1 a2) else ((FX9_oftenAt I L a1 a2).bind fun p5 => (if 0 ≤ (p2 - (1 : Int32)) ∧ (p2 - (1 : Int32)) < 8 then (FX1_sort_j43L2 ((tq_up2 I (tq_rg a0 0) ((p2 - (1 : Int32))).toNatClampNeg p5)) L a0 a1 a2) else none))))))
noncomputable def FX1_sort (I : tq_PI) (L : tq_PL) (a0 : Nat) (a1 : Nat) : Option (tq_PI) :=
  ((tq_it (fun p : Int32 × tq_PI => FX1_sort_s2 p.2 L a0 a1 p.1) tq_N ((0 : Int32), I)).bind fun p7 => some p7)
set_option maxRecDepth 100000 in
set_option maxHeartbeats 4000000 in
theorem FX1_sort_j43L2_x {S : Nat × (Nat → Int32)} {d : Nat} {I : tq_PI} {L : tq_PL} {a0 : Nat} {a1 : Nat} {a2 : Int32} (h0 : tq_sh0 a0 = 1) (h1 : tq_sh0 a1 = 9) {q0 : Option Value → tq_PI → tq_PL → Prop} {out : (Int32 × tq_PI) ⊕ (tq_PI)} (hf : FX1_sort_j43L2 I L a0 a1 a2 = some out) (hk : Sum.elim (fun p : Int32 × tq_PI => tq_X S mX1_sort (d + 2) tq_k0 2 ([.ref a0, .ref a1, .int p.1, tq_u]) [] (tq_st p.2 L) (tq_Q q0)) (fun p : tq_PI => tq_X S mX1_sort (d + 2) tq_k0 49 ([tq_u, tq_u, tq_u, tq_u]) [] (tq_st p L) (tq_Q q0)) out) : tq_X S mX1_sort (d + 2) tq_k0 43 ([.ref a0, .ref a1, .int a2, tq_u]) ([]) (tq_st I L) (tq_Q q0) := by
  unfold FX1_sort_j43L2 at hf
  refine tq_iinc (a2 + 1) ([.ref a0, .ref a1, .int (a2 + 1), tq_u]) rX1_sort_43 rfl (tq_inc (by decide)) (Nat.le_of_ble_eq_true rfl) rfl ?_
  refine tq_goto rX1_sort_46 ?_
  have hf := Option.some.inj hf
  subst hf
  exact tq_forget _ (tq_le_s (tq_le_s (tq_le_s (tq_le_u tq_le_n)))) hk

set_option maxRecDepth 100000 in
set_option maxHeartbeats 4000000 in
theorem FX1_sort_s2_x {S : Nat × (Nat → Int32)} {d : Nat} {I : tq_PI} {L : tq_PL} {a0 : Nat} {a1 : Nat} {a2 : Int32} (h0 : tq_sh0 a0 = 1) (h1 : tq_sh0 a1 = 9) {q0 : Option Value → tq_PI → tq_PL → Prop} {out : (Int32 × tq_PI) ⊕ (tq_PI)} (hf : FX1_sort_s2 I L a0 a1 a2 = some out) (hk : Sum.elim (fun p : Int32 × tq_PI => tq_X S mX1_sort (d + 2) tq_k0 2 ([.ref a0, .ref a1, .int p.1, tq_u]) [] (tq_st p.2 L) (tq_Q q0)) (fun p : tq_PI => tq_X S mX1_sort (d + 2) tq_k0 49 ([tq_u, tq_u, tq_u, tq_u]) [] (tq_st p L) (tq_Q q0)) out) : tq_X S mX1_sort (d + 2) tq_k0 2 ([.ref a0, .ref a1, .int a2, tq_u]) [] (tq_st I L) (tq_Q q0) := by
  unfold FX1_sort_s2 at hf
  refine tq_iload_n rX1_sort_2 rfl ?_
  refine tq_aload_n rX1_sort_3 rfl ?_
  refine ty_getI rX1_sort_4 f_X1_15 rfl h0 ?_
  refine tq_icmp_ge rX1_sort_7 (fun c1 => ?_) (fun c1 => ?_)
  · rw [if_pos c1] at hf
    have hf := Option.some.inj hf
    subst hf
    exact tq_forget _ (tq_le_u (tq_le_u (tq_le_u (tq_le_u tq_le_n)))) hk
  · rw [if_neg c1] at hf
    refine tq_aload_n rX1_sort_10 rfl ?_
    refine tq_iload_n rX1_sort_11 rfl ?_
    obtain ⟨p2, e2, hf⟩ := Option.bind_eq_some_iff.mp hf
    refine ty_callVI p2 ([.int a2]) ([]) rX1_sort_12 l_X1_40 moX9_rankOf mvX9_rankOf h1 rfl rfl (Nat.le_of_ble_eq_true rfl) ⟨rfl, rfl⟩ (CX9_rankOf h1 e2) ?_
    refine tq_istore_n ([.ref a0, .ref a1, .int a2, .int p2]) rX1_sort_15 (Nat.le_of_ble_eq_true rfl) rfl ?_
    refine tq_iload_n rX1_sort_16 rfl ?_
    refine tq_iconst (1 : Int32) rX1_sort_17 (by decide) ?_
    refine tq_icmp_lt rX1_sort_18 (fun c3 => ?_) (fun c3 => ?_)
    · rw [if_pos c3] at hf
      exact tq_forget _ (tq_le_s (tq_le_s (tq_le_s (tq_le_u tq_le_n)))) (FX1_sort_j43L2_x  h0 h1 hf hk)
    · rw [if_neg c3] at hf
      refine tq_iload_n rX1_sort_21 rfl ?_
      refine tq_aload_n rX1_sort_22 rfl ?_
      refine ty_getR rX1_sort_23 f_X1_9 rfl h0 (hp_1_0 h0).1 ?_
      refine ty_alen (v := 8) rX1_sort_26 (hp_1_0 h0).2.1 (by decide) (hp_1_0 h0).2.2 rfl ?_
      refine tq_icmp_gt rX1_sort_27 (fun c4 => ?_) (fun c4 => ?_)
      · rw [if_pos c4] at hf
        exact tq_forget _ (tq_le_s (tq_le_s (tq_le_s (tq_le_u tq_le_n)))) (FX1_sort_j43L2_x  h0 h1 hf hk)
      · rw [if_neg c4] at hf
        refine tq_aload_n rX1_sort_30 rfl ?_
        refine ty_getR rX1_sort_31 f_X1_9 rfl h0 (hp_1_0 h0).1 ?_
        refine tq_iload_n rX1_sort_34 rfl ?_
        refine tq_iconst (1 : Int32) rX1_sort_35 (by decide) ?_
        refine tq_isub rX1_sort_36 ?_
        refine tq_aload_n rX1_sort_37 rfl ?_
        refine tq_iload_n rX1_sort_38 rfl ?_
        obtain ⟨p5, e5, hf⟩ := Option.bind_eq_some_iff.mp hf
        refine ty_callVI p5 ([.int a2]) ([.int (p2 - (1 : Int32)), .ref (tq_rg a0 0)]) rX1_sort_39 l_X1_43 moX9_oftenAt mvX9_oftenAt h1 rfl rfl (Nat.le_of_ble_eq_true rfl) ⟨rfl, rfl⟩ (CX9_oftenAt h1 e5) ?_
        obtain ⟨g6, hf⟩ := tq_chk hf
        refine ty_iast (v := 8) rX1_sort_42 (hp_1_0 h0).2.1 (hp_1_0 h0).2.2 rfl (by decide) g6 ?_
        exact tq_forget _ (tq_le_s (tq_le_s (tq_le_s (tq_le_u tq_le_n)))) (FX1_sort_j43L2_x  h0 h1 hf hk)

set_option maxRecDepth 100000 in
set_option maxHeartbeats 4000000 in
theorem CX1_sort {S : Nat × (Nat → Int32)} {d : Nat} {I : tq_PI} {L : tq_PL} {a0 : Nat} {a1 : Nat} (h0 : tq_sh0 a0 = 1) (h1 : tq_sh0 a1 = 9) {out : tq_PI} (hf : FX1_sort I L a0 a1 = some out) : tq_K S mX1_sort (d + 2) [.ref a0, .ref a1] I L (tq_one2 (none) out L) := by
  unfold FX1_sort at hf
  refine tq_K_of (by decide) (Nat.le_of_ble_eq_true rfl) (ls := [.ref a0, .ref a1, tq_u, tq_u]) rfl ?_
  refine tq_iconst (0 : Int32) rX1_sort_0 (by decide) ?_
  refine tq_istore_n ([.ref a0, .ref a1, .int (0 : Int32), tq_u]) rX1_sort_1 (Nat.le_of_ble_eq_true rfl) rfl ?_
  obtain ⟨p7, e7, hf⟩ := Option.bind_eq_some_iff.mp hf
  refine tq_forget _ (tq_le_s (tq_le_s (tq_le_s (tq_le_u tq_le_n)))) ?_
  refine tq_it_elim (P := fun p : Int32 × tq_PI => tq_X S mX1_sort (d + 2) tq_k0 2 ([.ref a0, .ref a1, .int p.1, tq_u]) [] (tq_st p.2 L) (tq_Q (tq_one2 (none) out L))) (R := fun p : tq_PI => tq_X S mX1_sort (d + 2) tq_k0 49 ([tq_u, tq_u, tq_u, tq_u]) [] (tq_st p L) (tq_Q (tq_one2 (none) out L))) (fun p o hp hk => FX1_sort_s2_x  h0 h1 hp hk) _ (((0 : Int32), I)) _ e7 ?_
  show tq_X _ _ _ _ _ _ _ _ _
  refine ty_vret rX1_sort_49 rfl rfl ?_
  have hf := Option.some.inj hf
  subst hf
  exact ⟨rfl, rfl, rfl⟩

abbrev mX1_rest : tq_M := (yX1_rest, cX1_rest, 4, (Option.some Jvm.ClassFile.FieldType.int), 0, 0)
theorem n_X1_46 : Cond.methodLink RX1 46 Lib.Math.max.name ∈ lw_tbl ∧ Cond.static Lib.Math.max.name ∈ lw_tbl ∧ Cond.initialized "java/lang/Math" ∈ lw_tbl ∧ Cond.code Lib.Math.max.name Lib.Math.max.code 2 (some .int) ∈ lw_tbl := ⟨tq_sg5 _ (List.mem_of_getElem? (i := 120) rfl), tq_sg2 _ (List.mem_of_getElem? (i := 180) rfl), tq_sg1 _ (List.mem_of_getElem? (i := 14) rfl), tq_sg2 _ (List.mem_of_getElem? (i := 181) rfl)⟩
theorem rX1_rest_0 : tq_D cX1_rest 0 (.iconst 0) 1 1 := ⟨by decide +kernel, rfl⟩
theorem rX1_rest_1 : tq_D cX1_rest 1 (.istore_n 2) 1 2 := ⟨by decide +kernel, rfl⟩
theorem rX1_rest_2 : tq_D cX1_rest 2 (.iload_n 1) 1 3 := ⟨by decide +kernel, rfl⟩
theorem rX1_rest_3 : tq_D cX1_rest 3 (.iconst 0) 1 4 := ⟨by decide +kernel, rfl⟩
theorem rX1_rest_4 : tq_D cX1_rest 4 (.invokestatic 46) 3 7 := ⟨by decide +kernel, rfl⟩
theorem rX1_rest_7 : tq_D cX1_rest 7 (.istore_n 3) 1 8 := ⟨by decide +kernel, rfl⟩
theorem rX1_rest_8 : tq_D cX1_rest 8 (.iload_n 3) 1 9 := ⟨by decide +kernel, rfl⟩
theorem rX1_rest_9 : tq_D cX1_rest 9 (.aload_n 0) 1 10 := ⟨by decide +kernel, rfl⟩
theorem rX1_rest_10 : tq_D cX1_rest 10 (.getfield 15) 3 13 := ⟨by decide +kernel, rfl⟩
theorem rX1_rest_13 : tq_J cX1_rest 13 (.if_icmp .ge) 40 16 := ⟨27, by decide +kernel, by decide, rfl⟩
theorem rX1_rest_16 : tq_D cX1_rest 16 (.iload_n 3) 1 17 := ⟨by decide +kernel, rfl⟩
theorem rX1_rest_17 : tq_D cX1_rest 17 (.aload_n 0) 1 18 := ⟨by decide +kernel, rfl⟩
theorem rX1_rest_18 : tq_D cX1_rest 18 (.getfield 9) 3 21 := ⟨by decide +kernel, rfl⟩
theorem rX1_rest_21 : tq_D cX1_rest 21 (.arraylength) 1 22 := ⟨by decide +kernel, rfl⟩
theorem rX1_rest_22 : tq_J cX1_rest 22 (.if_icmp .ge) 40 25 := ⟨18, by decide +kernel, by decide, rfl⟩
theorem rX1_rest_25 : tq_D cX1_rest 25 (.iload_n 2) 1 26 := ⟨by decide +kernel, rfl⟩
theorem rX1_rest_26 : tq_D cX1_rest 26 (.aload_n 0) 1 27 := ⟨by decide +kernel, rfl⟩
theorem rX1_rest_27 : tq_D cX1_rest 27 (.getfield 9) 3 30 := ⟨by decide +kernel, rfl⟩
theorem rX1_rest_30 : tq_D cX1_rest 30 (.iload_n 3) 1 31 := ⟨by decide +kernel, rfl⟩
theorem rX1_rest_31 : tq_D cX1_rest 31 (.iaload) 1 32 := ⟨by decide +kernel, rfl⟩
theorem rX1_rest_32 : tq_D cX1_rest 32 (.iadd) 1 33 := ⟨by decide +kernel, rfl⟩
theorem rX1_rest_33 : tq_D cX1_rest 33 (.istore_n 2) 1 34 := ⟨by decide +kernel, rfl⟩
theorem rX1_rest_34 : tq_D cX1_rest 34 (.iinc 3 1) 3 37 := ⟨by decide +kernel, rfl⟩
theorem rX1_rest_37 : tq_J cX1_rest 37 .goto 8 40 := ⟨(-29), by decide +kernel, by decide, rfl⟩
theorem rX1_rest_40 : tq_D cX1_rest 40 (.iload_n 2) 1 41 := ⟨by decide +kernel, rfl⟩
theorem rX1_rest_41 : decode cX1_rest 41 = .ok (.ireturn, 1) := by decide +kernel
noncomputable def FX1_rest_s8 (I : tq_PI) (L : tq_PL) (a0 : Nat) (a2 : Int32) (a3 : Int32) : Option ((Int32 × Int32) ⊕ (Int32)) :=
  (if (I a0 1) ≤ a3 then some (.inr a2) else (if (8 : Int32) ≤ a3 then some (.inr a2) else (if 0 ≤ a3 ∧ a3 < 8 then some (.inl ((a2 + (I (tq_rg a0 0) a3.toNatClampNeg)), (a3 + 1))) else none)))
noncomputable def FX1_rest (I : tq_PI) (L : tq_PL) (a0 : Nat) (a1 : Int32) : Option (Int32) :=
  ((tq_it (fun p : Int32 × Int32 => FX1_rest_s8 I L a0 p.1 p.2) tq_N ((0 : Int32), (if a1 < (0 : Int32) then (0 : Int32) else a1))).bind fun p4 => some p4)
set_option maxRecDepth 100000 in
set_option maxHeartbeats 4000000 in
theorem FX1_rest_s8_x {S : Nat × (Nat → Int32)} {d : Nat} {I : tq_PI} {L : tq_PL} {a0 : Nat} {a2 : Int32} {a3 : Int32} (h0 : tq_sh0 a0 = 1) {q0 : Option Value → tq_PI → tq_PL → Prop} {out : (Int32 × Int32) ⊕ (Int32)} (hf : FX1_rest_s8 I L a0 a2 a3 = some out) (hk : Sum.elim (fun p : Int32 × Int32 => tq_X S mX1_rest (d + 1) tq_k0 8 ([.ref a0, tq_u, .int p.1, .int p.2]) [] (tq_st I L) (tq_Q q0)) (fun p : Int32 => tq_X S mX1_rest (d + 1) tq_k0 40 ([tq_u, tq_u, .int p, tq_u]) [] (tq_st I L) (tq_Q q0)) out) : tq_X S mX1_rest (d + 1) tq_k0 8 ([.ref a0, tq_u, .int a2, .int a3]) [] (tq_st I L) (tq_Q q0) := by
  unfold FX1_rest_s8 at hf
  refine tq_iload_n rX1_rest_8 rfl ?_
  refine tq_aload_n rX1_rest_9 rfl ?_
  refine ty_getI rX1_rest_10 f_X1_15 rfl h0 ?_
  refine tq_icmp_ge rX1_rest_13 (fun c1 => ?_) (fun c1 => ?_)
  · rw [if_pos c1] at hf
    have hf := Option.some.inj hf
    subst hf
    exact tq_forget _ (tq_le_u (tq_le_u (tq_le_s (tq_le_u tq_le_n)))) hk
  · rw [if_neg c1] at hf
    refine tq_iload_n rX1_rest_16 rfl ?_
    refine tq_aload_n rX1_rest_17 rfl ?_
    refine ty_getR rX1_rest_18 f_X1_9 rfl h0 (hp_1_0 h0).1 ?_
    refine ty_alen (v := 8) rX1_rest_21 (hp_1_0 h0).2.1 (by decide) (hp_1_0 h0).2.2 rfl ?_
    refine tq_icmp_ge rX1_rest_22 (fun c2 => ?_) (fun c2 => ?_)
    · rw [if_pos c2] at hf
      have hf := Option.some.inj hf
      subst hf
      exact tq_forget _ (tq_le_u (tq_le_u (tq_le_s (tq_le_u tq_le_n)))) hk
    · rw [if_neg c2] at hf
      refine tq_iload_n rX1_rest_25 rfl ?_
      refine tq_aload_n rX1_rest_26 rfl ?_
      refine ty_getR rX1_rest_27 f_X1_9 rfl h0 (hp_1_0 h0).1 ?_
      refine tq_iload_n rX1_rest_30 rfl ?_
      obtain ⟨g3, hf⟩ := tq_chk hf
      refine ty_iald (v := 8) rX1_rest_31 (hp_1_0 h0).2.1 (hp_1_0 h0).2.2 rfl (by decide) g3 ?_
      refine tq_iadd rX1_rest_32 ?_
      refine tq_istore_n ([.ref a0, tq_u, .int (a2 + (I (tq_rg a0 0) a3.toNatClampNeg)), .int a3]) rX1_rest_33 (Nat.le_of_ble_eq_true rfl) rfl ?_
      refine tq_iinc (a3 + 1) ([.ref a0, tq_u, .int (a2 + (I (tq_rg a0 0) a3.toNatClampNeg)), .int (a3 + 1)]) rX1_rest_34 rfl (tq_inc (by decide)) (Nat.le_of_ble_eq_true rfl) rfl ?_
      refine tq_goto rX1_rest_37 ?_
      have hf := Option.some.inj hf
      subst hf
      exact tq_forget _ (tq_le_s (tq_le_u (tq_le_s (tq_le_s tq_le_n)))) hk

set_option maxRecDepth 100000 in
set_option maxHeartbeats 4000000 in
theorem CX1_rest {S : Nat × (Nat → Int32)} {d : Nat} {I : tq_PI} {L : tq_PL} {a0 : Nat} {a1 : Int32} (h0 : tq_sh0 a0 = 1) {out : Int32} (hf : FX1_rest I L a0 a1 = some out) : tq_K S mX1_rest (d + 1) [.ref a0, .int a1] I L (tq_one2 (some (.int out)) I L) := by
  unfold FX1_rest at hf
  refine tq_K_of (by decide) (Nat.le_of_ble_eq_true rfl) (ls := [.ref a0, .int a1, tq_u, tq_u]) rfl ?_
  refine tq_iconst (0 : Int32) rX1_rest_0 (by decide) ?_
  refine tq_istore_n ([.ref a0, .int a1, .int (0 : Int32), tq_u]) rX1_rest_1 (Nat.le_of_ble_eq_true rfl) rfl ?_
  refine tq_iload_n rX1_rest_2 rfl ?_
  refine tq_iconst (0 : Int32) rX1_rest_3 (by decide) ?_
  refine tq_mmax rX1_rest_4 (Nat.le_of_ble_eq_true rfl) n_X1_46 ?_
  refine tq_istore_n ([.ref a0, .int a1, .int (0 : Int32), .int (if a1 < (0 : Int32) then (0 : Int32) else a1)]) rX1_rest_7 (Nat.le_of_ble_eq_true rfl) rfl ?_
  obtain ⟨p4, e4, hf⟩ := Option.bind_eq_some_iff.mp hf
  refine tq_forget _ (tq_le_s (tq_le_u (tq_le_s (tq_le_s tq_le_n)))) ?_
  refine tq_it_elim (P := fun p : Int32 × Int32 => tq_X S mX1_rest (d + 1) tq_k0 8 ([.ref a0, tq_u, .int p.1, .int p.2]) [] (tq_st I L) (tq_Q (tq_one2 (some (.int out)) I L))) (R := fun p : Int32 => tq_X S mX1_rest (d + 1) tq_k0 40 ([tq_u, tq_u, .int p, tq_u]) [] (tq_st I L) (tq_Q (tq_one2 (some (.int out)) I L))) (fun p o hp hk => FX1_rest_s8_x  h0 hp hk) _ (((0 : Int32), (if a1 < (0 : Int32) then (0 : Int32) else a1))) _ e4 ?_
  show tq_X _ _ _ _ _ _ _ _ _
  refine tq_iload_n rX1_rest_40 rfl ?_
  refine ty_iret rX1_rest_41 rfl rfl ?_
  have hf := Option.some.inj hf
  subst hf
  exact ⟨rfl, rfl, rfl⟩

abbrev mX1_cost : tq_M := (yX1_cost, cX1_cost, 9, (Option.some Jvm.ClassFile.FieldType.int), 0, 0)
theorem moX1_cost : tq_mok mX1_cost 4 := ⟨tq_sg1 _ (List.mem_of_getElem? (i := 12) rfl), tq_sg5 _ (List.mem_of_getElem? (i := 124) rfl), ⟨by decide, by decide, by decide +kernel⟩, by decide⟩
theorem mvX1_cost : 1 < 13 ∧ (tq_cl 1).1 = mX1_cost.1.cls ∧ Cond.instanceMethod mX1_cost.1 ∈ lw_tbl ∧ Cond.selects mX1_cost.1.cls mX1_cost.1 mX1_cost.1 ∈ lw_tbl := ⟨by decide, rfl, tq_sg5 _ (List.mem_of_getElem? (i := 123) rfl), List.mem_append_left _ (List.mem_map.mpr ⟨_, List.mem_of_getElem? (i := 37) rfl, rfl⟩)⟩
theorem moX1_rest : tq_mok mX1_rest 1 := ⟨tq_sg1 _ (List.mem_of_getElem? (i := 12) rfl), tq_sg5 _ (List.mem_of_getElem? (i := 119) rfl), ⟨by decide, by decide, by decide +kernel⟩, by decide⟩
theorem mvX1_rest : 1 < 13 ∧ (tq_cl 1).1 = mX1_rest.1.cls ∧ Cond.instanceMethod mX1_rest.1 ∈ lw_tbl ∧ Cond.selects mX1_rest.1.cls mX1_rest.1 mX1_rest.1 ∈ lw_tbl := ⟨by decide, rfl, tq_sg5 _ (List.mem_of_getElem? (i := 118) rfl), List.mem_append_left _ (List.mem_map.mpr ⟨_, List.mem_of_getElem? (i := 36) rfl, rfl⟩)⟩
theorem k_X1_49 : Cond.constant RX1 49 (1000000) ∈ lw_tbl := tq_sg5 _ (List.mem_of_getElem? (i := 125) rfl)
theorem l_X1_32 : tq_lok RX1 32 mX1_rest.1 := Or.inl (tq_sg5 _ (List.mem_of_getElem? (i := 116) rfl))
theorem l_X1_36 : tq_lok RX1 36 mX1_cost.1 := Or.inl (tq_sg5 _ (List.mem_of_getElem? (i := 121) rfl))
theorem n_X1_22 : Cond.methodLink RX1 22 Lib.Math.min.name ∈ lw_tbl ∧ Cond.static Lib.Math.min.name ∈ lw_tbl ∧ Cond.initialized "java/lang/Math" ∈ lw_tbl ∧ Cond.code Lib.Math.min.name Lib.Math.min.code 2 (some .int) ∈ lw_tbl := ⟨tq_sg5 _ (List.mem_of_getElem? (i := 102) rfl), tq_sg2 _ (List.mem_of_getElem? (i := 177) rfl), tq_sg1 _ (List.mem_of_getElem? (i := 14) rfl), tq_sg2 _ (List.mem_of_getElem? (i := 178) rfl)⟩
theorem rX1_cost_0 : tq_D cX1_cost 0 (.iload_n 1) 1 1 := ⟨by decide +kernel, rfl⟩
theorem rX1_cost_1 : tq_D cX1_cost 1 (.iload_n 2) 1 2 := ⟨by decide +kernel, rfl⟩
theorem rX1_cost_2 : tq_D cX1_cost 2 (.iadd) 1 3 := ⟨by decide +kernel, rfl⟩
theorem rX1_cost_3 : tq_D cX1_cost 3 (.iload_n 3) 1 4 := ⟨by decide +kernel, rfl⟩
theorem rX1_cost_4 : tq_D cX1_cost 4 (.iadd) 1 5 := ⟨by decide +kernel, rfl⟩
theorem rX1_cost_5 : tq_D cX1_cost 5 (.aload_n 0) 1 6 := ⟨by decide +kernel, rfl⟩
theorem rX1_cost_6 : tq_D cX1_cost 6 (.getfield 15) 3 9 := ⟨by decide +kernel, rfl⟩
theorem rX1_cost_9 : tq_J cX1_cost 9 (.if_icmp .gt) 19 12 := ⟨10, by decide +kernel, by decide, rfl⟩
theorem rX1_cost_12 : tq_D cX1_cost 12 (.iload 4) 2 14 := ⟨by decide +kernel, rfl⟩
theorem rX1_cost_14 : tq_D cX1_cost 14 (.bipush 16) 2 16 := ⟨by decide +kernel, rfl⟩
theorem rX1_cost_16 : tq_J cX1_cost 16 (.if_icmp .le) 22 19 := ⟨6, by decide +kernel, by decide, rfl⟩
theorem rX1_cost_19 : tq_D cX1_cost 19 (.ldc 49) 2 21 := ⟨by decide +kernel, rfl⟩
theorem rX1_cost_21 : decode cX1_cost 21 = .ok (.ireturn, 1) := by decide +kernel
theorem rX1_cost_22 : tq_D cX1_cost 22 (.iload_n 2) 1 23 := ⟨by decide +kernel, rfl⟩
theorem rX1_cost_23 : tq_D cX1_cost 23 (.iload_n 3) 1 24 := ⟨by decide +kernel, rfl⟩
theorem rX1_cost_24 : tq_D cX1_cost 24 (.iadd) 1 25 := ⟨by decide +kernel, rfl⟩
theorem rX1_cost_25 : tq_J cX1_cost 25 (.ifCond .ne) 43 28 := ⟨18, by decide +kernel, by decide, rfl⟩
theorem rX1_cost_28 : tq_D cX1_cost 28 (.iload_n 1) 1 29 := ⟨by decide +kernel, rfl⟩
theorem rX1_cost_29 : tq_D cX1_cost 29 (.aload_n 0) 1 30 := ⟨by decide +kernel, rfl⟩
theorem rX1_cost_30 : tq_D cX1_cost 30 (.getfield 15) 3 33 := ⟨by decide +kernel, rfl⟩
theorem rX1_cost_33 : tq_J cX1_cost 33 (.if_icmp .ne) 40 36 := ⟨7, by decide +kernel, by decide, rfl⟩
theorem rX1_cost_36 : tq_D cX1_cost 36 (.iconst 0) 1 37 := ⟨by decide +kernel, rfl⟩
theorem rX1_cost_37 : tq_J cX1_cost 37 .goto 42 40 := ⟨5, by decide +kernel, by decide, rfl⟩
theorem rX1_cost_40 : tq_D cX1_cost 40 (.ldc 49) 2 42 := ⟨by decide +kernel, rfl⟩
theorem rX1_cost_42 : decode cX1_cost 42 = .ok (.ireturn, 1) := by decide +kernel
theorem rX1_cost_43 : tq_D cX1_cost 43 (.ldc 49) 2 45 := ⟨by decide +kernel, rfl⟩
theorem rX1_cost_45 : tq_D cX1_cost 45 (.istore 5) 2 47 := ⟨by decide +kernel, rfl⟩
theorem rX1_cost_47 : tq_D cX1_cost 47 (.iconst 0) 1 48 := ⟨by decide +kernel, rfl⟩
theorem rX1_cost_48 : tq_D cX1_cost 48 (.istore 6) 2 50 := ⟨by decide +kernel, rfl⟩
theorem rX1_cost_50 : tq_D cX1_cost 50 (.iload 6) 2 52 := ⟨by decide +kernel, rfl⟩
theorem rX1_cost_52 : tq_D cX1_cost 52 (.iload_n 2) 1 53 := ⟨by decide +kernel, rfl⟩
theorem rX1_cost_53 : tq_J cX1_cost 53 (.if_icmp .gt) 106 56 := ⟨53, by decide +kernel, by decide, rfl⟩
theorem rX1_cost_56 : tq_D cX1_cost 56 (.iload_n 2) 1 57 := ⟨by decide +kernel, rfl⟩
theorem rX1_cost_57 : tq_D cX1_cost 57 (.iload 6) 2 59 := ⟨by decide +kernel, rfl⟩
theorem rX1_cost_59 : tq_D cX1_cost 59 (.isub) 1 60 := ⟨by decide +kernel, rfl⟩
theorem rX1_cost_60 : tq_D cX1_cost 60 (.istore 7) 2 62 := ⟨by decide +kernel, rfl⟩
theorem rX1_cost_62 : tq_D cX1_cost 62 (.aload_n 0) 1 63 := ⟨by decide +kernel, rfl⟩
theorem rX1_cost_63 : tq_D cX1_cost 63 (.iload_n 1) 1 64 := ⟨by decide +kernel, rfl⟩
theorem rX1_cost_64 : tq_D cX1_cost 64 (.iload 6) 2 66 := ⟨by decide +kernel, rfl⟩
theorem rX1_cost_66 : tq_D cX1_cost 66 (.iadd) 1 67 := ⟨by decide +kernel, rfl⟩
theorem rX1_cost_67 : tq_D cX1_cost 67 (.invokevirtual 32) 3 70 := ⟨by decide +kernel, rfl⟩
theorem rX1_cost_70 : tq_D cX1_cost 70 (.aload_n 0) 1 71 := ⟨by decide +kernel, rfl⟩
theorem rX1_cost_71 : tq_D cX1_cost 71 (.iload_n 1) 1 72 := ⟨by decide +kernel, rfl⟩
theorem rX1_cost_72 : tq_D cX1_cost 72 (.iload 6) 2 74 := ⟨by decide +kernel, rfl⟩
theorem rX1_cost_74 : tq_D cX1_cost 74 (.iadd) 1 75 := ⟨by decide +kernel, rfl⟩
theorem rX1_cost_75 : tq_D cX1_cost 75 (.iload_n 3) 1 76 := ⟨by decide +kernel, rfl⟩
theorem rX1_cost_76 : tq_D cX1_cost 76 (.iload 7) 2 78 := ⟨by decide +kernel, rfl⟩
theorem rX1_cost_78 : tq_D cX1_cost 78 (.iadd) 1 79 := ⟨by decide +kernel, rfl⟩
theorem rX1_cost_79 : tq_D cX1_cost 79 (.iload 7) 2 81 := ⟨by decide +kernel, rfl⟩
theorem rX1_cost_81 : tq_D cX1_cost 81 (.iload 4) 2 83 := ⟨by decide +kernel, rfl⟩
theorem rX1_cost_83 : tq_D cX1_cost 83 (.iconst 1) 1 84 := ⟨by decide +kernel, rfl⟩
theorem rX1_cost_84 : tq_D cX1_cost 84 (.iadd) 1 85 := ⟨by decide +kernel, rfl⟩
theorem rX1_cost_85 : tq_D cX1_cost 85 (.invokevirtual 36) 3 88 := ⟨by decide +kernel, rfl⟩
theorem rX1_cost_88 : tq_D cX1_cost 88 (.iadd) 1 89 := ⟨by decide +kernel, rfl⟩
theorem rX1_cost_89 : tq_D cX1_cost 89 (.istore 8) 2 91 := ⟨by decide +kernel, rfl⟩
theorem rX1_cost_91 : tq_D cX1_cost 91 (.iload 5) 2 93 := ⟨by decide +kernel, rfl⟩
theorem rX1_cost_93 : tq_D cX1_cost 93 (.iload 8) 2 95 := ⟨by decide +kernel, rfl⟩
theorem rX1_cost_95 : tq_D cX1_cost 95 (.invokestatic 22) 3 98 := ⟨by decide +kernel, rfl⟩
theorem rX1_cost_98 : tq_D cX1_cost 98 (.istore 5) 2 100 := ⟨by decide +kernel, rfl⟩
theorem rX1_cost_100 : tq_D cX1_cost 100 (.iinc 6 1) 3 103 := ⟨by decide +kernel, rfl⟩
theorem rX1_cost_103 : tq_J cX1_cost 103 .goto 50 106 := ⟨(-53), by decide +kernel, by decide, rfl⟩
theorem rX1_cost_106 : tq_D cX1_cost 106 (.iload 5) 2 108 := ⟨by decide +kernel, rfl⟩
theorem rX1_cost_108 : decode cX1_cost 108 = .ok (.ireturn, 1) := by decide +kernel
noncomputable def FX1_cost_j19 (rc : tq_PI → tq_PL → Nat → Int32 → Int32 → Int32 → Int32 → Option (Int32)) (I : tq_PI) (L : tq_PL)  : Option (Int32) :=
  some (1000000 : Int32)
noncomputable def FX1_cost_s50 (rc : tq_PI → tq_PL → Nat → Int32 → Int32 → Int32 → Int32 → Option (Int32)) (I : tq_PI) (L : tq_PL) (a0 : Nat) (a1 : Int32) (a2 : Int32) (a3 : Int32) (a4 : Int32) (a5 : Int32) (a6 : Int32) : Option ((Int32 × Int32) ⊕ (Int32)) :=
  (if a2 < a6 then some (.inr a5) else ((FX1_rest I L a0 ((a1 + a6))).bind fun p5 => ((rc I L a0 ((a1 + a6)) ((a3 + (a2 - a6))) ((a2 - a6)) ((a4 + (1 : Int32)))).bind fun p6 => some (.inl ((if (p5 + p6) < a5 then (p5 + p6) else a5), (a6 + 1))))))
noncomputable def FX1_costb (rc : tq_PI → tq_PL → Nat → Int32 → Int32 → Int32 → Int32 → Option (Int32)) (I : tq_PI) (L : tq_PL) (a0 : Nat) (a1 : Int32) (a2 : Int32) (a3 : Int32) (a4 : Int32) : Option (Int32) :=
  (if (I a0 1) < ((a1 + a2) + a3) then (FX1_cost_j19 rc I L ) else (if a4 ≤ (16 : Int32) then (if (a2 + a3) = 0 then (if a1 = (I a0 1) then some (0 : Int32) else some (1000000 : Int32)) else ((tq_it (fun p : Int32 × Int32 => FX1_cost_s50 rc I L a0 a1 a2 a3 a4 p.1 p.2) tq_N ((1000000 : Int32), (0 : Int32))).bind fun p7 => some p7)) else (FX1_cost_j19 rc I L )))
set_option maxRecDepth 100000 in
set_option maxHeartbeats 4000000 in
theorem FX1_cost_j19_x {S : Nat × (Nat → Int32)} {d : Nat} {rc : tq_PI → tq_PL → Nat → Int32 → Int32 → Int32 → Int32 → Option (Int32)} (hrc : ∀ {I : tq_PI} {L : tq_PL} {a0 : Nat} {a1 : Int32} {a2 : Int32} {a3 : Int32} {a4 : Int32} (h0 : tq_sh0 a0 = 1) {out : Int32}, rc I L a0 a1 a2 a3 a4 = some out → tq_K S mX1_cost (d + 2) [.ref a0, .int a1, .int a2, .int a3, .int a4] I L (tq_one2 (some (.int out)) I L)) {I : tq_PI} {L : tq_PL}   {q0 : Option Value → tq_PI → tq_PL → Prop} {out : Int32} (hf : FX1_cost_j19 rc I L = some out) (hk : q0 (some (.int out)) I L) : tq_X S mX1_cost (d + 3) tq_k0 19 ([tq_u, tq_u, tq_u, tq_u, tq_u, tq_u, tq_u, tq_u, tq_u]) ([]) (tq_st I L) (tq_Q q0) := by
  unfold FX1_cost_j19 at hf
  refine tq_ldc rX1_cost_19 (k_X1_49) ?_
  refine ty_iret rX1_cost_21 rfl rfl ?_
  have hf := Option.some.inj hf
  subst hf
  exact hk

set_option maxRecDepth 100000 in
set_option maxHeartbeats 4000000 in
theorem FX1_cost_s50_x {S : Nat × (Nat → Int32)} {d : Nat} {rc : tq_PI → tq_PL → Nat → Int32 → Int32 → Int32 → Int32 → Option (Int32)} (hrc : ∀ {I : tq_PI} {L : tq_PL} {a0 : Nat} {a1 : Int32} {a2 : Int32} {a3 : Int32} {a4 : Int32} (h0 : tq_sh0 a0 = 1) {out : Int32}, rc I L a0 a1 a2 a3 a4 = some out → tq_K S mX1_cost (d + 2) [.ref a0, .int a1, .int a2, .int a3, .int a4] I L (tq_one2 (some (.int out)) I L)) {I : tq_PI} {L : tq_PL} {a0 : Nat} {a1 : Int32} {a2 : Int32} {a3 : Int32} {a4 : Int32} {a5 : Int32} {a6 : Int32} (h0 : tq_sh0 a0 = 1) {q0 : Option Value → tq_PI → tq_PL → Prop} {out : (Int32 × Int32) ⊕ (Int32)} (hf : FX1_cost_s50 rc I L a0 a1 a2 a3 a4 a5 a6 = some out) (hk : Sum.elim (fun p : Int32 × Int32 => tq_X S mX1_cost (d + 3) tq_k0 50 ([.ref a0, .int a1, .int a2, .int a3, .int a4, .int p.1, .int p.2, tq_u, tq_u]) [] (tq_st I L) (tq_Q q0)) (fun p : Int32 => tq_X S mX1_cost (d + 3) tq_k0 106 ([tq_u, tq_u, tq_u, tq_u, tq_u, .int p, tq_u, tq_u, tq_u]) [] (tq_st I L) (tq_Q q0)) out) : tq_X S mX1_cost (d + 3) tq_k0 50 ([.ref a0, .int a1, .int a2, .int a3, .int a4, .int a5, .int a6, tq_u, tq_u]) [] (tq_st I L) (tq_Q q0) := by
  unfold FX1_cost_s50 at hf
  refine tq_iload rX1_cost_50 rfl ?_
  refine tq_iload_n rX1_cost_52 rfl ?_
  refine tq_icmp_gt rX1_cost_53 (fun c4 => ?_) (fun c4 => ?_)
  · rw [if_pos c4] at hf
    have hf := Option.some.inj hf
    subst hf
    exact tq_forget _ (tq_le_u (tq_le_u (tq_le_u (tq_le_u (tq_le_u (tq_le_s (tq_le_u (tq_le_u (tq_le_u tq_le_n))))))))) hk
  · rw [if_neg c4] at hf
    refine tq_iload_n rX1_cost_56 rfl ?_
    refine tq_iload rX1_cost_57 rfl ?_
    refine tq_isub rX1_cost_59 ?_
    refine tq_istore ([.ref a0, .int a1, .int a2, .int a3, .int a4, .int a5, .int a6, .int (a2 - a6), tq_u]) rX1_cost_60 (Nat.le_of_ble_eq_true rfl) rfl ?_
    refine tq_aload_n rX1_cost_62 rfl ?_
    refine tq_iload_n rX1_cost_63 rfl ?_
    refine tq_iload rX1_cost_64 rfl ?_
    refine tq_iadd rX1_cost_66 ?_
    obtain ⟨p5, e5, hf⟩ := Option.bind_eq_some_iff.mp hf
    refine ty_callVI p5 ([.int (a1 + a6)]) ([]) rX1_cost_67 l_X1_32 moX1_rest mvX1_rest h0 rfl rfl (Nat.le_of_ble_eq_true rfl) ⟨rfl, rfl⟩ (CX1_rest h0 e5) ?_
    refine tq_aload_n rX1_cost_70 rfl ?_
    refine tq_iload_n rX1_cost_71 rfl ?_
    refine tq_iload rX1_cost_72 rfl ?_
    refine tq_iadd rX1_cost_74 ?_
    refine tq_iload_n rX1_cost_75 rfl ?_
    refine tq_iload rX1_cost_76 rfl ?_
    refine tq_iadd rX1_cost_78 ?_
    refine tq_iload rX1_cost_79 rfl ?_
    refine tq_iload rX1_cost_81 rfl ?_
    refine tq_iconst (1 : Int32) rX1_cost_83 (by decide) ?_
    refine tq_iadd rX1_cost_84 ?_
    obtain ⟨p6, e6, hf⟩ := Option.bind_eq_some_iff.mp hf
    refine ty_callVI p6 ([.int (a1 + a6), .int (a3 + (a2 - a6)), .int (a2 - a6), .int (a4 + (1 : Int32))]) ([.int p5]) rX1_cost_85 l_X1_36 moX1_cost mvX1_cost h0 rfl rfl (Nat.le_of_ble_eq_true rfl) ⟨rfl, rfl⟩ (hrc h0 e6) ?_
    refine tq_iadd rX1_cost_88 ?_
    refine tq_istore ([.ref a0, .int a1, .int a2, .int a3, .int a4, .int a5, .int a6, .int (a2 - a6), .int (p5 + p6)]) rX1_cost_89 (Nat.le_of_ble_eq_true rfl) rfl ?_
    refine tq_iload rX1_cost_91 rfl ?_
    refine tq_iload rX1_cost_93 rfl ?_
    refine tq_mmin rX1_cost_95 (Nat.le_of_ble_eq_true rfl) n_X1_22 ?_
    refine tq_istore ([.ref a0, .int a1, .int a2, .int a3, .int a4, .int (if (p5 + p6) < a5 then (p5 + p6) else a5), .int a6, .int (a2 - a6), .int (p5 + p6)]) rX1_cost_98 (Nat.le_of_ble_eq_true rfl) rfl ?_
    refine tq_iinc (a6 + 1) ([.ref a0, .int a1, .int a2, .int a3, .int a4, .int (if (p5 + p6) < a5 then (p5 + p6) else a5), .int (a6 + 1), .int (a2 - a6), .int (p5 + p6)]) rX1_cost_100 rfl (tq_inc (by decide)) (Nat.le_of_ble_eq_true rfl) rfl ?_
    refine tq_goto rX1_cost_103 ?_
    have hf := Option.some.inj hf
    subst hf
    exact tq_forget _ (tq_le_s (tq_le_s (tq_le_s (tq_le_s (tq_le_s (tq_le_s (tq_le_s (tq_le_u (tq_le_u tq_le_n))))))))) hk

set_option maxRecDepth 100000 in
set_option maxHeartbeats 4000000 in
theorem CX1_costb {S : Nat × (Nat → Int32)} {d : Nat} {rc : tq_PI → tq_PL → Nat → Int32 → Int32 → Int32 → Int32 → Option (Int32)} (hrc : ∀ {I : tq_PI} {L : tq_PL} {a0 : Nat} {a1 : Int32} {a2 : Int32} {a3 : Int32} {a4 : Int32} (h0 : tq_sh0 a0 = 1) {out : Int32}, rc I L a0 a1 a2 a3 a4 = some out → tq_K S mX1_cost (d + 2) [.ref a0, .int a1, .int a2, .int a3, .int a4] I L (tq_one2 (some (.int out)) I L)) {I : tq_PI} {L : tq_PL} {a0 : Nat} {a1 : Int32} {a2 : Int32} {a3 : Int32} {a4 : Int32} (h0 : tq_sh0 a0 = 1) {out : Int32} (hf : FX1_costb rc I L a0 a1 a2 a3 a4 = some out) : tq_K S mX1_cost (d + 3) [.ref a0, .int a1, .int a2, .int a3, .int a4] I L (tq_one2 (some (.int out)) I L) := by
  unfold FX1_costb at hf
  refine tq_K_of (by decide) (Nat.le_of_ble_eq_true rfl) (ls := [.ref a0, .int a1, .int a2, .int a3, .int a4, tq_u, tq_u, tq_u, tq_u]) rfl ?_
  refine tq_iload_n rX1_cost_0 rfl ?_
  refine tq_iload_n rX1_cost_1 rfl ?_
  refine tq_iadd rX1_cost_2 ?_
  refine tq_iload_n rX1_cost_3 rfl ?_
  refine tq_iadd rX1_cost_4 ?_
  refine tq_aload_n rX1_cost_5 rfl ?_
  refine ty_getI rX1_cost_6 f_X1_15 rfl h0 ?_
  refine tq_icmp_gt rX1_cost_9 (fun c1 => ?_) (fun c1 => ?_)
  · rw [if_pos c1] at hf
    exact tq_forget _ (tq_le_u (tq_le_u (tq_le_u (tq_le_u (tq_le_u (tq_le_u (tq_le_u (tq_le_u (tq_le_u tq_le_n))))))))) (FX1_cost_j19_x hrc  hf ⟨rfl, rfl, rfl⟩)
  · rw [if_neg c1] at hf
    refine tq_iload rX1_cost_12 rfl ?_
    refine tq_bipush (16 : Int32) rX1_cost_14 (by decide) ?_
    refine tq_icmp_le rX1_cost_16 (fun c2 => ?_) (fun c2 => ?_)
    · rw [if_pos c2] at hf
      refine tq_iload_n rX1_cost_22 rfl ?_
      refine tq_iload_n rX1_cost_23 rfl ?_
      refine tq_iadd rX1_cost_24 ?_
      refine tq_if_ne rX1_cost_25 (fun c3 => ?_) (fun c3 => ?_)
      · rw [if_neg c3] at hf
        refine tq_ldc rX1_cost_43 (k_X1_49) ?_
        refine tq_istore ([.ref a0, .int a1, .int a2, .int a3, .int a4, .int (1000000 : Int32), tq_u, tq_u, tq_u]) rX1_cost_45 (Nat.le_of_ble_eq_true rfl) rfl ?_
        refine tq_iconst (0 : Int32) rX1_cost_47 (by decide) ?_
        refine tq_istore ([.ref a0, .int a1, .int a2, .int a3, .int a4, .int (1000000 : Int32), .int (0 : Int32), tq_u, tq_u]) rX1_cost_48 (Nat.le_of_ble_eq_true rfl) rfl ?_
        obtain ⟨p7, e7, hf⟩ := Option.bind_eq_some_iff.mp hf
        refine tq_forget _ (tq_le_s (tq_le_s (tq_le_s (tq_le_s (tq_le_s (tq_le_s (tq_le_s (tq_le_u (tq_le_u tq_le_n))))))))) ?_
        refine tq_it_elim (P := fun p : Int32 × Int32 => tq_X S mX1_cost (d + 3) tq_k0 50 ([.ref a0, .int a1, .int a2, .int a3, .int a4, .int p.1, .int p.2, tq_u, tq_u]) [] (tq_st I L) (tq_Q (tq_one2 (some (.int out)) I L))) (R := fun p : Int32 => tq_X S mX1_cost (d + 3) tq_k0 106 ([tq_u, tq_u, tq_u, tq_u, tq_u, .int p, tq_u, tq_u, tq_u]) [] (tq_st I L) (tq_Q (tq_one2 (some (.int out)) I L))) (fun p o hp hk => FX1_cost_s50_x hrc h0 hp hk) _ (((1000000 : Int32), (0 : Int32))) _ e7 ?_
        show tq_X _ _ _ _ _ _ _ _ _
        refine tq_iload rX1_cost_106 rfl ?_
        refine ty_iret rX1_cost_108 rfl rfl ?_
        have hf := Option.some.inj hf
        subst hf
        exact ⟨rfl, rfl, rfl⟩
      · rw [if_pos c3] at hf
        refine tq_iload_n rX1_cost_28 rfl ?_
        refine tq_aload_n rX1_cost_29 rfl ?_
        refine ty_getI rX1_cost_30 f_X1_15 rfl h0 ?_
        refine tq_icmp_ne rX1_cost_33 (fun c8 => ?_) (fun c8 => ?_)
        · rw [if_neg c8] at hf
          refine tq_ldc rX1_cost_40 (k_X1_49) ?_
          refine ty_iret rX1_cost_42 rfl rfl ?_
          have hf := Option.some.inj hf
          subst hf
          exact ⟨rfl, rfl, rfl⟩
        · rw [if_pos c8] at hf
          refine tq_iconst (0 : Int32) rX1_cost_36 (by decide) ?_
          refine tq_goto rX1_cost_37 ?_
          refine ty_iret rX1_cost_42 rfl rfl ?_
          have hf := Option.some.inj hf
          subst hf
          exact ⟨rfl, rfl, rfl⟩
    · rw [if_neg c2] at hf
      exact tq_forget _ (tq_le_u (tq_le_u (tq_le_u (tq_le_u (tq_le_u (tq_le_u (tq_le_u (tq_le_u (tq_le_u tq_le_n))))))))) (FX1_cost_j19_x hrc  hf ⟨rfl, rfl, rfl⟩)

noncomputable def FX1_cost : Nat → tq_PI → tq_PL → Nat → Int32 → Int32 → Int32 → Int32 → Option (Int32)
  | 0, _, _, _, _, _, _, _ => none
  | n + 1, I, L, a0, a1, a2, a3, a4 => FX1_costb (FX1_cost n) I L a0 a1 a2 a3 a4
theorem CX1_cost_all {S : Nat × (Nat → Int32)} : ∀ (n : Nat) (d : Nat) (I : tq_PI) (L : tq_PL) (a0 : Nat) (a1 : Int32) (a2 : Int32) (a3 : Int32) (a4 : Int32) (h0 : tq_sh0 a0 = 1) (out : Int32) (hf : FX1_cost n I L a0 a1 a2 a3 a4 = some out), tq_K S mX1_cost (d + n + 2) [.ref a0, .int a1, .int a2, .int a3, .int a4] I L (tq_one2 (some (.int out)) I L)
  | 0 => by
    intro d I L a0 a1 a2 a3 a4 h0 out hf
    cases hf
  | n + 1 => by
    intro d I L a0 a1 a2 a3 a4 h0 out hf
    exact CX1_costb (d := d + n) (rc := FX1_cost n) (fun h0 _ hf => CX1_cost_all n _ _ _ _ _ _ _ _ h0 _ hf) h0 hf
theorem CX1_cost {S : Nat × (Nat → Int32)} {d : Nat} {I : tq_PI} {L : tq_PL} {a0 : Nat} {a1 : Int32} {a2 : Int32} {a3 : Int32} {a4 : Int32} (h0 : tq_sh0 a0 = 1) {out : Int32} (hf : FX1_cost tq_n20 I L a0 a1 a2 a3 a4 = some out) : tq_K S mX1_cost (d + 22) [.ref a0, .int a1, .int a2, .int a3, .int a4] I L (tq_one2 (some (.int out)) I L) := by
  have h := CX1_cost_all (S := S) tq_n20 d I L a0 a1 a2 a3 a4 h0 _ hf
  rw [tq_n20_eq] at h
  exact h
abbrev mX1_cheapest : tq_M := (yX1_cheapest, cX1_cheapest, 2, (Option.some Jvm.ClassFile.FieldType.int), 0, 0)
theorem moX1_sort : tq_mok mX1_sort 1 := ⟨tq_sg1 _ (List.mem_of_getElem? (i := 12) rfl), tq_sg5 _ (List.mem_of_getElem? (i := 106) rfl), ⟨by decide, by decide, by decide +kernel⟩, by decide⟩
theorem mvX1_sort : 1 < 13 ∧ (tq_cl 1).1 = mX1_sort.1.cls ∧ Cond.instanceMethod mX1_sort.1 ∈ lw_tbl ∧ Cond.selects mX1_sort.1.cls mX1_sort.1 mX1_sort.1 ∈ lw_tbl := ⟨by decide, rfl, tq_sg5 _ (List.mem_of_getElem? (i := 105) rfl), List.mem_append_left _ (List.mem_map.mpr ⟨_, List.mem_of_getElem? (i := 35) rfl, rfl⟩)⟩
theorem f_X1_19 : tq_fok RX1 19 9 0 := ⟨by decide, by decide, Or.inr ⟨_, tq_sg1 _ (List.mem_of_getElem? (i := 130) rfl)⟩⟩
theorem l_X1_28 : tq_lok RX1 28 mX1_sort.1 := Or.inl (tq_sg5 _ (List.mem_of_getElem? (i := 103) rfl))
theorem rX1_cheapest_0 : tq_D cX1_cheapest 0 (.aload_n 0) 1 1 := ⟨by decide +kernel, rfl⟩
theorem rX1_cheapest_1 : tq_D cX1_cheapest 1 (.aload_n 1) 1 2 := ⟨by decide +kernel, rfl⟩
theorem rX1_cheapest_2 : tq_D cX1_cheapest 2 (.getfield 19) 3 5 := ⟨by decide +kernel, rfl⟩
theorem rX1_cheapest_5 : tq_D cX1_cheapest 5 (.bipush 8) 2 7 := ⟨by decide +kernel, rfl⟩
theorem rX1_cheapest_7 : tq_D cX1_cheapest 7 (.invokestatic 22) 3 10 := ⟨by decide +kernel, rfl⟩
theorem rX1_cheapest_10 : tq_D cX1_cheapest 10 (.putfield 15) 3 13 := ⟨by decide +kernel, rfl⟩
theorem rX1_cheapest_13 : tq_D cX1_cheapest 13 (.aload_n 0) 1 14 := ⟨by decide +kernel, rfl⟩
theorem rX1_cheapest_14 : tq_D cX1_cheapest 14 (.aload_n 1) 1 15 := ⟨by decide +kernel, rfl⟩
theorem rX1_cheapest_15 : tq_D cX1_cheapest 15 (.invokevirtual 28) 3 18 := ⟨by decide +kernel, rfl⟩
theorem rX1_cheapest_18 : tq_D cX1_cheapest 18 (.aload_n 0) 1 19 := ⟨by decide +kernel, rfl⟩
theorem rX1_cheapest_19 : tq_D cX1_cheapest 19 (.getfield 15) 3 22 := ⟨by decide +kernel, rfl⟩
theorem rX1_cheapest_22 : tq_D cX1_cheapest 22 (.iconst 2) 1 23 := ⟨by decide +kernel, rfl⟩
theorem rX1_cheapest_23 : tq_J cX1_cheapest 23 (.if_icmp .ge) 34 26 := ⟨11, by decide +kernel, by decide, rfl⟩
theorem rX1_cheapest_26 : tq_D cX1_cheapest 26 (.aload_n 0) 1 27 := ⟨by decide +kernel, rfl⟩
theorem rX1_cheapest_27 : tq_D cX1_cheapest 27 (.iconst 0) 1 28 := ⟨by decide +kernel, rfl⟩
theorem rX1_cheapest_28 : tq_D cX1_cheapest 28 (.invokevirtual 32) 3 31 := ⟨by decide +kernel, rfl⟩
theorem rX1_cheapest_31 : tq_J cX1_cheapest 31 .goto 42 34 := ⟨11, by decide +kernel, by decide, rfl⟩
theorem rX1_cheapest_34 : tq_D cX1_cheapest 34 (.aload_n 0) 1 35 := ⟨by decide +kernel, rfl⟩
theorem rX1_cheapest_35 : tq_D cX1_cheapest 35 (.iconst 0) 1 36 := ⟨by decide +kernel, rfl⟩
theorem rX1_cheapest_36 : tq_D cX1_cheapest 36 (.iconst 1) 1 37 := ⟨by decide +kernel, rfl⟩
theorem rX1_cheapest_37 : tq_D cX1_cheapest 37 (.iconst 0) 1 38 := ⟨by decide +kernel, rfl⟩
theorem rX1_cheapest_38 : tq_D cX1_cheapest 38 (.iconst 0) 1 39 := ⟨by decide +kernel, rfl⟩
theorem rX1_cheapest_39 : tq_D cX1_cheapest 39 (.invokevirtual 36) 3 42 := ⟨by decide +kernel, rfl⟩
theorem rX1_cheapest_42 : decode cX1_cheapest 42 = .ok (.ireturn, 1) := by decide +kernel
noncomputable def FX1_cheapest (I : tq_PI) (L : tq_PL) (a0 : Nat) (a1 : Nat) : Option (Int32 × tq_PI) :=
  ((FX1_sort ((tq_up2 I a0 1 (if (8 : Int32) < (I a1 0) then (8 : Int32) else (I a1 0)))) L a0 a1).bind fun p1 => (if (2 : Int32) ≤ (p1 a0 1) then ((FX1_cost tq_n20 p1 L a0 ((0 : Int32)) ((1 : Int32)) ((0 : Int32)) ((0 : Int32))).bind fun p3 => some (p3, p1)) else ((FX1_rest p1 L a0 ((0 : Int32))).bind fun p4 => some (p4, p1))))
set_option maxRecDepth 100000 in
set_option maxHeartbeats 4000000 in
theorem CX1_cheapest {S : Nat × (Nat → Int32)} {d : Nat} {I : tq_PI} {L : tq_PL} {a0 : Nat} {a1 : Nat} (h0 : tq_sh0 a0 = 1) (h1 : tq_sh0 a1 = 9) {out : Int32 × tq_PI} (hf : FX1_cheapest I L a0 a1 = some out) : tq_K S mX1_cheapest (d + 23) [.ref a0, .ref a1] I L (tq_one2 (some (.int out.1)) out.2 L) := by
  unfold FX1_cheapest at hf
  refine tq_K_of (by decide) (Nat.le_of_ble_eq_true rfl) (ls := [.ref a0, .ref a1]) rfl ?_
  refine tq_aload_n rX1_cheapest_0 rfl ?_
  refine tq_aload_n rX1_cheapest_1 rfl ?_
  refine ty_getI rX1_cheapest_2 f_X1_19 rfl h1 ?_
  refine tq_bipush (8 : Int32) rX1_cheapest_5 (by decide) ?_
  refine tq_mmin rX1_cheapest_7 (Nat.le_of_ble_eq_true rfl) n_X1_22 ?_
  refine ty_putI rX1_cheapest_10 f_X1_15 rfl h0 rfl ?_
  refine tq_aload_n rX1_cheapest_13 rfl ?_
  refine tq_aload_n rX1_cheapest_14 rfl ?_
  obtain ⟨p1, e1, hf⟩ := Option.bind_eq_some_iff.mp hf
  refine ty_callVV ([.ref a1]) ([]) rX1_cheapest_15 l_X1_28 moX1_sort mvX1_sort h0 rfl rfl (Nat.le_of_ble_eq_true rfl) ⟨rfl, rfl⟩ (CX1_sort h0 h1 e1) ?_
  refine tq_aload_n rX1_cheapest_18 rfl ?_
  refine ty_getI rX1_cheapest_19 f_X1_15 rfl h0 ?_
  refine tq_iconst (2 : Int32) rX1_cheapest_22 (by decide) ?_
  refine tq_icmp_ge rX1_cheapest_23 (fun c2 => ?_) (fun c2 => ?_)
  · rw [if_pos c2] at hf
    refine tq_aload_n rX1_cheapest_34 rfl ?_
    refine tq_iconst (0 : Int32) rX1_cheapest_35 (by decide) ?_
    refine tq_iconst (1 : Int32) rX1_cheapest_36 (by decide) ?_
    refine tq_iconst (0 : Int32) rX1_cheapest_37 (by decide) ?_
    refine tq_iconst (0 : Int32) rX1_cheapest_38 (by decide) ?_
    obtain ⟨p3, e3, hf⟩ := Option.bind_eq_some_iff.mp hf
    refine ty_callVI p3 ([.int (0 : Int32), .int (1 : Int32), .int (0 : Int32), .int (0 : Int32)]) ([]) rX1_cheapest_39 l_X1_36 moX1_cost mvX1_cost h0 rfl rfl (Nat.le_of_ble_eq_true rfl) ⟨rfl, rfl⟩ (CX1_cost h0 e3) ?_
    refine ty_iret rX1_cheapest_42 rfl rfl ?_
    have hf := Option.some.inj hf
    subst hf
    exact ⟨rfl, rfl, rfl⟩
  · rw [if_neg c2] at hf
    refine tq_aload_n rX1_cheapest_26 rfl ?_
    refine tq_iconst (0 : Int32) rX1_cheapest_27 (by decide) ?_
    obtain ⟨p4, e4, hf⟩ := Option.bind_eq_some_iff.mp hf
    refine ty_callVI p4 ([.int (0 : Int32)]) ([]) rX1_cheapest_28 l_X1_32 moX1_rest mvX1_rest h0 rfl rfl (Nat.le_of_ble_eq_true rfl) ⟨rfl, rfl⟩ (CX1_rest h0 e4) ?_
    refine tq_goto rX1_cheapest_31 ?_
    refine ty_iret rX1_cheapest_42 rfl rfl ?_
    have hf := Option.some.inj hf
    subst hf
    exact ⟨rfl, rfl, rfl⟩

abbrev mX4_cellAt : tq_M := (yX4_cellAt, cX4_cellAt, 2, (Option.some Jvm.ClassFile.FieldType.int), 0, 0)
theorem rX4_cellAt_0 : tq_D cX4_cellAt 0 (.iload_n 1) 1 1 := ⟨by decide +kernel, rfl⟩
theorem rX4_cellAt_1 : tq_J cX4_cellAt 1 (.ifCond .lt) 13 4 := ⟨12, by decide +kernel, by decide, rfl⟩
theorem rX4_cellAt_4 : tq_D cX4_cellAt 4 (.iload_n 1) 1 5 := ⟨by decide +kernel, rfl⟩
theorem rX4_cellAt_5 : tq_D cX4_cellAt 5 (.aload_n 0) 1 6 := ⟨by decide +kernel, rfl⟩
theorem rX4_cellAt_6 : tq_D cX4_cellAt 6 (.getfield 15) 3 9 := ⟨by decide +kernel, rfl⟩
theorem rX4_cellAt_9 : tq_D cX4_cellAt 9 (.arraylength) 1 10 := ⟨by decide +kernel, rfl⟩
theorem rX4_cellAt_10 : tq_J cX4_cellAt 10 (.if_icmp .lt) 17 13 := ⟨7, by decide +kernel, by decide, rfl⟩
theorem rX4_cellAt_13 : tq_D cX4_cellAt 13 (.iconst (-1)) 1 14 := ⟨by decide +kernel, rfl⟩
theorem rX4_cellAt_14 : tq_J cX4_cellAt 14 .goto 23 17 := ⟨9, by decide +kernel, by decide, rfl⟩
theorem rX4_cellAt_17 : tq_D cX4_cellAt 17 (.aload_n 0) 1 18 := ⟨by decide +kernel, rfl⟩
theorem rX4_cellAt_18 : tq_D cX4_cellAt 18 (.getfield 15) 3 21 := ⟨by decide +kernel, rfl⟩
theorem rX4_cellAt_21 : tq_D cX4_cellAt 21 (.iload_n 1) 1 22 := ⟨by decide +kernel, rfl⟩
theorem rX4_cellAt_22 : tq_D cX4_cellAt 22 (.iaload) 1 23 := ⟨by decide +kernel, rfl⟩
theorem rX4_cellAt_23 : decode cX4_cellAt 23 = .ok (.ireturn, 1) := by decide +kernel
noncomputable def FX4_cellAt_j13 (I : tq_PI) (L : tq_PL)  : Option (Int32) :=
  some (-1 : Int32)
noncomputable def FX4_cellAt (I : tq_PI) (L : tq_PL) (a0 : Nat) (a1 : Int32) : Option (Int32) :=
  (if a1 < 0 then (FX4_cellAt_j13 I L ) else (if a1 < (8 : Int32) then (if 0 ≤ a1 ∧ a1 < 8 then some (I (tq_rg a0 1) a1.toNatClampNeg) else none) else (FX4_cellAt_j13 I L )))
set_option maxRecDepth 100000 in
set_option maxHeartbeats 4000000 in
theorem FX4_cellAt_j13_x {S : Nat × (Nat → Int32)} {d : Nat} {I : tq_PI} {L : tq_PL}   {q0 : Option Value → tq_PI → tq_PL → Prop} {out : Int32} (hf : FX4_cellAt_j13 I L = some out) (hk : q0 (some (.int out)) I L) : tq_X S mX4_cellAt d tq_k0 13 ([tq_u, tq_u]) ([]) (tq_st I L) (tq_Q q0) := by
  unfold FX4_cellAt_j13 at hf
  refine tq_iconst (-1 : Int32) rX4_cellAt_13 (by decide) ?_
  refine tq_goto rX4_cellAt_14 ?_
  refine ty_iret rX4_cellAt_23 rfl rfl ?_
  have hf := Option.some.inj hf
  subst hf
  exact hk

set_option maxRecDepth 100000 in
set_option maxHeartbeats 4000000 in
theorem CX4_cellAt {S : Nat × (Nat → Int32)} {d : Nat} {I : tq_PI} {L : tq_PL} {a0 : Nat} {a1 : Int32} (h0 : tq_sh0 a0 = 4) {out : Int32} (hf : FX4_cellAt I L a0 a1 = some out) : tq_K S mX4_cellAt d [.ref a0, .int a1] I L (tq_one2 (some (.int out)) I L) := by
  unfold FX4_cellAt at hf
  refine tq_K_of (by decide) (Nat.le_of_ble_eq_true rfl) (ls := [.ref a0, .int a1]) rfl ?_
  refine tq_iload_n rX4_cellAt_0 rfl ?_
  refine tq_if_lt rX4_cellAt_1 (fun c1 => ?_) (fun c1 => ?_)
  · rw [if_pos c1] at hf
    exact tq_forget _ (tq_le_u (tq_le_u tq_le_n)) (FX4_cellAt_j13_x   hf ⟨rfl, rfl, rfl⟩)
  · rw [if_neg c1] at hf
    refine tq_iload_n rX4_cellAt_4 rfl ?_
    refine tq_aload_n rX4_cellAt_5 rfl ?_
    refine ty_getR rX4_cellAt_6 f_X4_15 rfl h0 (hp_4_1 h0).1 ?_
    refine ty_alen (v := 8) rX4_cellAt_9 (hp_4_1 h0).2.1 (by decide) (hp_4_1 h0).2.2 rfl ?_
    refine tq_icmp_lt rX4_cellAt_10 (fun c2 => ?_) (fun c2 => ?_)
    · rw [if_pos c2] at hf
      refine tq_aload_n rX4_cellAt_17 rfl ?_
      refine ty_getR rX4_cellAt_18 f_X4_15 rfl h0 (hp_4_1 h0).1 ?_
      refine tq_iload_n rX4_cellAt_21 rfl ?_
      obtain ⟨g3, hf⟩ := tq_chk hf
      refine ty_iald (v := 8) rX4_cellAt_22 (hp_4_1 h0).2.1 (hp_4_1 h0).2.2 rfl (by decide) g3 ?_
      refine ty_iret rX4_cellAt_23 rfl rfl ?_
      have hf := Option.some.inj hf
      subst hf
      exact ⟨rfl, rfl, rfl⟩
    · rw [if_neg c2] at hf
      exact tq_forget _ (tq_le_u (tq_le_u tq_le_n)) (FX4_cellAt_j13_x   hf ⟨rfl, rfl, rfl⟩)

abbrev mX4_heardAt : tq_M := (yX4_heardAt, cX4_heardAt, 2, (Option.some Jvm.ClassFile.FieldType.int), 0, 0)
theorem rX4_heardAt_0 : tq_D cX4_heardAt 0 (.iload_n 1) 1 1 := ⟨by decide +kernel, rfl⟩
theorem rX4_heardAt_1 : tq_J cX4_heardAt 1 (.ifCond .lt) 13 4 := ⟨12, by decide +kernel, by decide, rfl⟩
theorem rX4_heardAt_4 : tq_D cX4_heardAt 4 (.iload_n 1) 1 5 := ⟨by decide +kernel, rfl⟩
theorem rX4_heardAt_5 : tq_D cX4_heardAt 5 (.aload_n 0) 1 6 := ⟨by decide +kernel, rfl⟩
theorem rX4_heardAt_6 : tq_D cX4_heardAt 6 (.getfield 19) 3 9 := ⟨by decide +kernel, rfl⟩
theorem rX4_heardAt_9 : tq_D cX4_heardAt 9 (.arraylength) 1 10 := ⟨by decide +kernel, rfl⟩
theorem rX4_heardAt_10 : tq_J cX4_heardAt 10 (.if_icmp .lt) 17 13 := ⟨7, by decide +kernel, by decide, rfl⟩
theorem rX4_heardAt_13 : tq_D cX4_heardAt 13 (.iconst (-1)) 1 14 := ⟨by decide +kernel, rfl⟩
theorem rX4_heardAt_14 : tq_J cX4_heardAt 14 .goto 23 17 := ⟨9, by decide +kernel, by decide, rfl⟩
theorem rX4_heardAt_17 : tq_D cX4_heardAt 17 (.aload_n 0) 1 18 := ⟨by decide +kernel, rfl⟩
theorem rX4_heardAt_18 : tq_D cX4_heardAt 18 (.getfield 19) 3 21 := ⟨by decide +kernel, rfl⟩
theorem rX4_heardAt_21 : tq_D cX4_heardAt 21 (.iload_n 1) 1 22 := ⟨by decide +kernel, rfl⟩
theorem rX4_heardAt_22 : tq_D cX4_heardAt 22 (.iaload) 1 23 := ⟨by decide +kernel, rfl⟩
theorem rX4_heardAt_23 : decode cX4_heardAt 23 = .ok (.ireturn, 1) := by decide +kernel
noncomputable def FX4_heardAt_j13 (I : tq_PI) (L : tq_PL)  : Option (Int32) :=
  some (-1 : Int32)
noncomputable def FX4_heardAt (I : tq_PI) (L : tq_PL) (a0 : Nat) (a1 : Int32) : Option (Int32) :=
  (if a1 < 0 then (FX4_heardAt_j13 I L ) else (if a1 < (8 : Int32) then (if 0 ≤ a1 ∧ a1 < 8 then some (I (tq_rg a0 2) a1.toNatClampNeg) else none) else (FX4_heardAt_j13 I L )))
set_option maxRecDepth 100000 in
set_option maxHeartbeats 4000000 in
theorem FX4_heardAt_j13_x {S : Nat × (Nat → Int32)} {d : Nat} {I : tq_PI} {L : tq_PL}   {q0 : Option Value → tq_PI → tq_PL → Prop} {out : Int32} (hf : FX4_heardAt_j13 I L = some out) (hk : q0 (some (.int out)) I L) : tq_X S mX4_heardAt d tq_k0 13 ([tq_u, tq_u]) ([]) (tq_st I L) (tq_Q q0) := by
  unfold FX4_heardAt_j13 at hf
  refine tq_iconst (-1 : Int32) rX4_heardAt_13 (by decide) ?_
  refine tq_goto rX4_heardAt_14 ?_
  refine ty_iret rX4_heardAt_23 rfl rfl ?_
  have hf := Option.some.inj hf
  subst hf
  exact hk

set_option maxRecDepth 100000 in
set_option maxHeartbeats 4000000 in
theorem CX4_heardAt {S : Nat × (Nat → Int32)} {d : Nat} {I : tq_PI} {L : tq_PL} {a0 : Nat} {a1 : Int32} (h0 : tq_sh0 a0 = 4) {out : Int32} (hf : FX4_heardAt I L a0 a1 = some out) : tq_K S mX4_heardAt d [.ref a0, .int a1] I L (tq_one2 (some (.int out)) I L) := by
  unfold FX4_heardAt at hf
  refine tq_K_of (by decide) (Nat.le_of_ble_eq_true rfl) (ls := [.ref a0, .int a1]) rfl ?_
  refine tq_iload_n rX4_heardAt_0 rfl ?_
  refine tq_if_lt rX4_heardAt_1 (fun c1 => ?_) (fun c1 => ?_)
  · rw [if_pos c1] at hf
    exact tq_forget _ (tq_le_u (tq_le_u tq_le_n)) (FX4_heardAt_j13_x   hf ⟨rfl, rfl, rfl⟩)
  · rw [if_neg c1] at hf
    refine tq_iload_n rX4_heardAt_4 rfl ?_
    refine tq_aload_n rX4_heardAt_5 rfl ?_
    refine ty_getR rX4_heardAt_6 f_X4_19 rfl h0 (hp_4_2 h0).1 ?_
    refine ty_alen (v := 8) rX4_heardAt_9 (hp_4_2 h0).2.1 (by decide) (hp_4_2 h0).2.2 rfl ?_
    refine tq_icmp_lt rX4_heardAt_10 (fun c2 => ?_) (fun c2 => ?_)
    · rw [if_pos c2] at hf
      refine tq_aload_n rX4_heardAt_17 rfl ?_
      refine ty_getR rX4_heardAt_18 f_X4_19 rfl h0 (hp_4_2 h0).1 ?_
      refine tq_iload_n rX4_heardAt_21 rfl ?_
      obtain ⟨g3, hf⟩ := tq_chk hf
      refine ty_iald (v := 8) rX4_heardAt_22 (hp_4_2 h0).2.1 (hp_4_2 h0).2.2 rfl (by decide) g3 ?_
      refine ty_iret rX4_heardAt_23 rfl rfl ?_
      have hf := Option.some.inj hf
      subst hf
      exact ⟨rfl, rfl, rfl⟩
    · rw [if_neg c2] at hf
      exact tq_forget _ (tq_le_u (tq_le_u tq_le_n)) (FX4_heardAt_j13_x   hf ⟨rfl, rfl, rfl⟩)

abbrev mX11_leftOf : tq_M := (yX11_leftOf, cX11_leftOf, 2, (Option.some Jvm.ClassFile.FieldType.long), 0, 0)
theorem k_X11_411 : Cond.constantLong RX11 411 (-141289400074369) ∈ lw_tbl := tq_sg4 _ (List.mem_of_getElem? (i := 41) rfl)
theorem rX11_leftOf_0 : tq_D cX11_leftOf 0 (.lload_n 0) 1 1 := ⟨by decide +kernel, rfl⟩
theorem rX11_leftOf_1 : tq_D cX11_leftOf 1 (.iconst 1) 1 2 := ⟨by decide +kernel, rfl⟩
theorem rX11_leftOf_2 : tq_D cX11_leftOf 2 (.lushr) 1 3 := ⟨by decide +kernel, rfl⟩
theorem rX11_leftOf_3 : tq_D cX11_leftOf 3 (.ldc2_w 411) 3 6 := ⟨by decide +kernel, rfl⟩
theorem rX11_leftOf_6 : tq_D cX11_leftOf 6 (.land) 1 7 := ⟨by decide +kernel, rfl⟩
theorem rX11_leftOf_7 : decode cX11_leftOf 7 = .ok (.lreturn, 1) := by decide +kernel
noncomputable def FX11_leftOf (I : tq_PI) (L : tq_PL) (a0 : Int64) : Int64 :=
  (((Int64.toUInt64 a0 >>> ((Int32.toInt64 (1 : Int32)).toUInt64 &&& Int64.toUInt64 63)).toInt64) &&& (-141289400074369 : Int64))
set_option maxRecDepth 100000 in
set_option maxHeartbeats 4000000 in
theorem CX11_leftOf {S : Nat × (Nat → Int32)} {d : Nat} {I : tq_PI} {L : tq_PL} {a0 : Int64}  {out : Int64} (hf : FX11_leftOf I L a0 = out) : tq_K S mX11_leftOf d [.long a0] I L (tq_one2 (some (.long out)) I L) := by
  unfold FX11_leftOf at hf
  refine tq_K_of (by decide) (Nat.le_of_ble_eq_true rfl) (ls := [.long a0, tq_u]) rfl ?_
  refine tq_lload_n rX11_leftOf_0 rfl ?_
  refine tq_iconst (1 : Int32) rX11_leftOf_1 (by decide) ?_
  refine tq_lushr rX11_leftOf_2 ?_
  refine tq_ldc2 rX11_leftOf_3 (k_X11_411) ?_
  refine tq_land rX11_leftOf_6 ?_
  refine ty_lret rX11_leftOf_7 rfl rfl ?_
  subst hf
  exact ⟨rfl, rfl, rfl⟩

abbrev mX11_rightOf : tq_M := (yX11_rightOf, cX11_rightOf, 2, (Option.some Jvm.ClassFile.FieldType.long), 0, 0)
theorem k_X11_413 : Cond.constantLong RX11 413 (-1103823438082) ∈ lw_tbl := tq_sg4 _ (List.mem_of_getElem? (i := 42) rfl)
theorem rX11_rightOf_0 : tq_D cX11_rightOf 0 (.lload_n 0) 1 1 := ⟨by decide +kernel, rfl⟩
theorem rX11_rightOf_1 : tq_D cX11_rightOf 1 (.iconst 1) 1 2 := ⟨by decide +kernel, rfl⟩
theorem rX11_rightOf_2 : tq_D cX11_rightOf 2 (.lshl) 1 3 := ⟨by decide +kernel, rfl⟩
theorem rX11_rightOf_3 : tq_D cX11_rightOf 3 (.ldc2_w 413) 3 6 := ⟨by decide +kernel, rfl⟩
theorem rX11_rightOf_6 : tq_D cX11_rightOf 6 (.land) 1 7 := ⟨by decide +kernel, rfl⟩
theorem rX11_rightOf_7 : decode cX11_rightOf 7 = .ok (.lreturn, 1) := by decide +kernel
noncomputable def FX11_rightOf (I : tq_PI) (L : tq_PL) (a0 : Int64) : Int64 :=
  ((a0 <<< (Int32.toInt64 (1 : Int32) &&& 63)) &&& (-1103823438082 : Int64))
set_option maxRecDepth 100000 in
set_option maxHeartbeats 4000000 in
theorem CX11_rightOf {S : Nat × (Nat → Int32)} {d : Nat} {I : tq_PI} {L : tq_PL} {a0 : Int64}  {out : Int64} (hf : FX11_rightOf I L a0 = out) : tq_K S mX11_rightOf d [.long a0] I L (tq_one2 (some (.long out)) I L) := by
  unfold FX11_rightOf at hf
  refine tq_K_of (by decide) (Nat.le_of_ble_eq_true rfl) (ls := [.long a0, tq_u]) rfl ?_
  refine tq_lload_n rX11_rightOf_0 rfl ?_
  refine tq_iconst (1 : Int32) rX11_rightOf_1 (by decide) ?_
  refine tq_lshl rX11_rightOf_2 ?_
  refine tq_ldc2 rX11_rightOf_3 (k_X11_413) ?_
  refine tq_land rX11_rightOf_6 ?_
  refine ty_lret rX11_rightOf_7 rfl rfl ?_
  subst hf
  exact ⟨rfl, rfl, rfl⟩

abbrev mX11_nextTo : tq_M := (yX11_nextTo, cX11_nextTo, 2, (Option.some Jvm.ClassFile.FieldType.long), 0, 0)
theorem moX11_leftOf : tq_mok mX11_leftOf 1 := ⟨tq_sg1 _ (List.mem_of_getElem? (i := 1) rfl), tq_sg4 _ (List.mem_of_getElem? (i := 52) rfl), ⟨by decide, by decide, by decide +kernel⟩, by decide⟩
theorem msX11_leftOf : Cond.static mX11_leftOf.1 ∈ lw_tbl := tq_sg4 _ (List.mem_of_getElem? (i := 51) rfl)
theorem moX11_rightOf : tq_mok mX11_rightOf 1 := ⟨tq_sg1 _ (List.mem_of_getElem? (i := 1) rfl), tq_sg4 _ (List.mem_of_getElem? (i := 55) rfl), ⟨by decide, by decide, by decide +kernel⟩, by decide⟩
theorem msX11_rightOf : Cond.static mX11_rightOf.1 ∈ lw_tbl := tq_sg4 _ (List.mem_of_getElem? (i := 54) rfl)
theorem l_X11_415 : tq_lok RX11 415 mX11_leftOf.1 := Or.inl (tq_sg4 _ (List.mem_of_getElem? (i := 50) rfl))
theorem l_X11_419 : tq_lok RX11 419 mX11_rightOf.1 := Or.inl (tq_sg4 _ (List.mem_of_getElem? (i := 53) rfl))
theorem rX11_nextTo_0 : tq_D cX11_nextTo 0 (.lload_n 0) 1 1 := ⟨by decide +kernel, rfl⟩
theorem rX11_nextTo_1 : tq_D cX11_nextTo 1 (.invokestatic 415) 3 4 := ⟨by decide +kernel, rfl⟩
theorem rX11_nextTo_4 : tq_D cX11_nextTo 4 (.lload_n 0) 1 5 := ⟨by decide +kernel, rfl⟩
theorem rX11_nextTo_5 : tq_D cX11_nextTo 5 (.invokestatic 419) 3 8 := ⟨by decide +kernel, rfl⟩
theorem rX11_nextTo_8 : tq_D cX11_nextTo 8 (.lor) 1 9 := ⟨by decide +kernel, rfl⟩
theorem rX11_nextTo_9 : tq_D cX11_nextTo 9 (.lload_n 0) 1 10 := ⟨by decide +kernel, rfl⟩
theorem rX11_nextTo_10 : tq_D cX11_nextTo 10 (.bipush 8) 2 12 := ⟨by decide +kernel, rfl⟩
theorem rX11_nextTo_12 : tq_D cX11_nextTo 12 (.lshl) 1 13 := ⟨by decide +kernel, rfl⟩
theorem rX11_nextTo_13 : tq_D cX11_nextTo 13 (.lor) 1 14 := ⟨by decide +kernel, rfl⟩
theorem rX11_nextTo_14 : tq_D cX11_nextTo 14 (.lload_n 0) 1 15 := ⟨by decide +kernel, rfl⟩
theorem rX11_nextTo_15 : tq_D cX11_nextTo 15 (.bipush 8) 2 17 := ⟨by decide +kernel, rfl⟩
theorem rX11_nextTo_17 : tq_D cX11_nextTo 17 (.lushr) 1 18 := ⟨by decide +kernel, rfl⟩
theorem rX11_nextTo_18 : tq_D cX11_nextTo 18 (.lor) 1 19 := ⟨by decide +kernel, rfl⟩
theorem rX11_nextTo_19 : decode cX11_nextTo 19 = .ok (.lreturn, 1) := by decide +kernel
noncomputable def FX11_nextTo (I : tq_PI) (L : tq_PL) (a0 : Int64) : Int64 :=
  (tq_let (FX11_leftOf I L a0) fun p1 => (tq_let (FX11_rightOf I L a0) fun p2 => (((p1 ||| p2) ||| (a0 <<< (Int32.toInt64 (8 : Int32) &&& 63))) ||| ((Int64.toUInt64 a0 >>> ((Int32.toInt64 (8 : Int32)).toUInt64 &&& Int64.toUInt64 63)).toInt64))))
set_option maxRecDepth 100000 in
set_option maxHeartbeats 4000000 in
theorem CX11_nextTo {S : Nat × (Nat → Int32)} {d : Nat} {I : tq_PI} {L : tq_PL} {a0 : Int64}  {out : Int64} (hf : FX11_nextTo I L a0 = out) : tq_K S mX11_nextTo (d + 1) [.long a0] I L (tq_one2 (some (.long out)) I L) := by
  unfold FX11_nextTo at hf
  refine tq_K_of (by decide) (Nat.le_of_ble_eq_true rfl) (ls := [.long a0, tq_u]) rfl ?_
  refine tq_lload_n rX11_nextTo_0 rfl ?_
  obtain ⟨p1, e1, hf⟩ := tq_let_elim hf
  refine ty_callSJ p1 ([.long a0]) ([]) rX11_nextTo_1 l_X11_415 moX11_leftOf msX11_leftOf rfl rfl (Nat.le_of_ble_eq_true rfl) ⟨rfl, rfl⟩ (CX11_leftOf  e1) ?_
  refine tq_lload_n rX11_nextTo_4 rfl ?_
  obtain ⟨p2, e2, hf⟩ := tq_let_elim hf
  refine ty_callSJ p2 ([.long a0]) ([.long p1]) rX11_nextTo_5 l_X11_419 moX11_rightOf msX11_rightOf rfl rfl (Nat.le_of_ble_eq_true rfl) ⟨rfl, rfl⟩ (CX11_rightOf  e2) ?_
  refine tq_lor rX11_nextTo_8 ?_
  refine tq_lload_n rX11_nextTo_9 rfl ?_
  refine tq_bipush (8 : Int32) rX11_nextTo_10 (by decide) ?_
  refine tq_lshl rX11_nextTo_12 ?_
  refine tq_lor rX11_nextTo_13 ?_
  refine tq_lload_n rX11_nextTo_14 rfl ?_
  refine tq_bipush (8 : Int32) rX11_nextTo_15 (by decide) ?_
  refine tq_lushr rX11_nextTo_17 ?_
  refine tq_lor rX11_nextTo_18 ?_
  refine ty_lret rX11_nextTo_19 rfl rfl ?_
  subst hf
  exact ⟨rfl, rfl, rfl⟩

abbrev mX2_near : tq_M := (yX2_near, cX2_near, 5, (Option.some Jvm.ClassFile.FieldType.long), 0, 0)
theorem moX11_nextTo : tq_mok mX11_nextTo 1 := ⟨tq_sg1 _ (List.mem_of_getElem? (i := 1) rfl), tq_sg4 _ (List.mem_of_getElem? (i := 49) rfl), ⟨by decide, by decide, by decide +kernel⟩, by decide⟩
theorem msX11_nextTo : Cond.static mX11_nextTo.1 ∈ lw_tbl := tq_sg4 _ (List.mem_of_getElem? (i := 48) rfl)
theorem k_X2_19 : Cond.constantLong RX2 19 (281474976710655) ∈ lw_tbl := tq_sg5 _ (List.mem_of_getElem? (i := 44) rfl)
theorem l_X2_44 : tq_lok RX2 44 mX11_nextTo.1 := Or.inr ⟨_, tq_sg5 _ (List.mem_of_getElem? (i := 53) rfl)⟩
theorem rX2_near_0 : tq_D cX2_near 0 (.iload_n 0) 1 1 := ⟨by decide +kernel, rfl⟩
theorem rX2_near_1 : tq_J cX2_near 1 (.ifCond .lt) 14 4 := ⟨13, by decide +kernel, by decide, rfl⟩
theorem rX2_near_4 : tq_D cX2_near 4 (.iload_n 0) 1 5 := ⟨by decide +kernel, rfl⟩
theorem rX2_near_5 : tq_D cX2_near 5 (.bipush 48) 2 7 := ⟨by decide +kernel, rfl⟩
theorem rX2_near_7 : tq_J cX2_near 7 (.if_icmp .ge) 14 10 := ⟨7, by decide +kernel, by decide, rfl⟩
theorem rX2_near_10 : tq_D cX2_near 10 (.iload_n 1) 1 11 := ⟨by decide +kernel, rfl⟩
theorem rX2_near_11 : tq_J cX2_near 11 (.ifCond .ge) 18 14 := ⟨7, by decide +kernel, by decide, rfl⟩
theorem rX2_near_14 : tq_D cX2_near 14 (.lconst 0) 1 15 := ⟨by decide +kernel, rfl⟩
theorem rX2_near_15 : tq_J cX2_near 15 .goto 21 18 := ⟨6, by decide +kernel, by decide, rfl⟩
theorem rX2_near_18 : tq_D cX2_near 18 (.lconst 1) 1 19 := ⟨by decide +kernel, rfl⟩
theorem rX2_near_19 : tq_D cX2_near 19 (.iload_n 0) 1 20 := ⟨by decide +kernel, rfl⟩
theorem rX2_near_20 : tq_D cX2_near 20 (.lshl) 1 21 := ⟨by decide +kernel, rfl⟩
theorem rX2_near_21 : tq_D cX2_near 21 (.lstore_n 2) 1 22 := ⟨by decide +kernel, rfl⟩
theorem rX2_near_22 : tq_D cX2_near 22 (.iconst 0) 1 23 := ⟨by decide +kernel, rfl⟩
theorem rX2_near_23 : tq_D cX2_near 23 (.istore 4) 2 25 := ⟨by decide +kernel, rfl⟩
theorem rX2_near_25 : tq_D cX2_near 25 (.iload 4) 2 27 := ⟨by decide +kernel, rfl⟩
theorem rX2_near_27 : tq_D cX2_near 27 (.iload_n 1) 1 28 := ⟨by decide +kernel, rfl⟩
theorem rX2_near_28 : tq_J cX2_near 28 (.if_icmp .ge) 55 31 := ⟨27, by decide +kernel, by decide, rfl⟩
theorem rX2_near_31 : tq_D cX2_near 31 (.iload 4) 2 33 := ⟨by decide +kernel, rfl⟩
theorem rX2_near_33 : tq_D cX2_near 33 (.bipush 12) 2 35 := ⟨by decide +kernel, rfl⟩
theorem rX2_near_35 : tq_J cX2_near 35 (.if_icmp .ge) 55 38 := ⟨20, by decide +kernel, by decide, rfl⟩
theorem rX2_near_38 : tq_D cX2_near 38 (.lload_n 2) 1 39 := ⟨by decide +kernel, rfl⟩
theorem rX2_near_39 : tq_D cX2_near 39 (.lload_n 2) 1 40 := ⟨by decide +kernel, rfl⟩
theorem rX2_near_40 : tq_D cX2_near 40 (.invokestatic 44) 3 43 := ⟨by decide +kernel, rfl⟩
theorem rX2_near_43 : tq_D cX2_near 43 (.ldc2_w 19) 3 46 := ⟨by decide +kernel, rfl⟩
theorem rX2_near_46 : tq_D cX2_near 46 (.land) 1 47 := ⟨by decide +kernel, rfl⟩
theorem rX2_near_47 : tq_D cX2_near 47 (.lor) 1 48 := ⟨by decide +kernel, rfl⟩
theorem rX2_near_48 : tq_D cX2_near 48 (.lstore_n 2) 1 49 := ⟨by decide +kernel, rfl⟩
theorem rX2_near_49 : tq_D cX2_near 49 (.iinc 4 1) 3 52 := ⟨by decide +kernel, rfl⟩
theorem rX2_near_52 : tq_J cX2_near 52 .goto 25 55 := ⟨(-27), by decide +kernel, by decide, rfl⟩
theorem rX2_near_55 : tq_D cX2_near 55 (.lload_n 2) 1 56 := ⟨by decide +kernel, rfl⟩
theorem rX2_near_56 : decode cX2_near 56 = .ok (.lreturn, 1) := by decide +kernel
noncomputable def FX2_near_s25 (I : tq_PI) (L : tq_PL) (a1 : Int32) (a2 : Int64) (a4 : Int32) : Option ((Int64 × Int32) ⊕ (Int64)) :=
  (if a1 ≤ a4 then some (.inr a2) else (if (12 : Int32) ≤ a4 then some (.inr a2) else (tq_let (FX11_nextTo I L a2) fun p4 => some (.inl ((a2 ||| (p4 &&& (281474976710655 : Int64))), (a4 + 1))))))
noncomputable def FX2_near_j21 (I : tq_PI) (L : tq_PL) (a1 : Int32) (b0 : Int64) : Option (Int64) :=
  ((tq_it (fun p : Int64 × Int32 => FX2_near_s25 I L a1 p.1 p.2) tq_N (b0, (0 : Int32))).bind fun p5 => some p5)
noncomputable def FX2_near_j14 (I : tq_PI) (L : tq_PL) (a1 : Int32) : Option (Int64) :=
  (FX2_near_j21 I L a1 ((0 : Int64)))
noncomputable def FX2_near (I : tq_PI) (L : tq_PL) (a0 : Int32) (a1 : Int32) : Option (Int64) :=
  (if a0 < 0 then (FX2_near_j14 I L a1) else (if (48 : Int32) ≤ a0 then (FX2_near_j14 I L a1) else (if 0 ≤ a1 then (FX2_near_j21 I L a1 (((1 : Int64) <<< (Int32.toInt64 a0 &&& 63)))) else (FX2_near_j14 I L a1))))
set_option maxRecDepth 100000 in
set_option maxHeartbeats 4000000 in
theorem FX2_near_s25_x {S : Nat × (Nat → Int32)} {d : Nat} {I : tq_PI} {L : tq_PL} {a1 : Int32} {a2 : Int64} {a4 : Int32}  {q0 : Option Value → tq_PI → tq_PL → Prop} {out : (Int64 × Int32) ⊕ (Int64)} (hf : FX2_near_s25 I L a1 a2 a4 = some out) (hk : Sum.elim (fun p : Int64 × Int32 => tq_X S mX2_near (d + 2) tq_k0 25 ([tq_u, .int a1, .long p.1, tq_u, .int p.2]) [] (tq_st I L) (tq_Q q0)) (fun p : Int64 => tq_X S mX2_near (d + 2) tq_k0 55 ([tq_u, tq_u, .long p, tq_u, tq_u]) [] (tq_st I L) (tq_Q q0)) out) : tq_X S mX2_near (d + 2) tq_k0 25 ([tq_u, .int a1, .long a2, tq_u, .int a4]) [] (tq_st I L) (tq_Q q0) := by
  unfold FX2_near_s25 at hf
  refine tq_iload rX2_near_25 rfl ?_
  refine tq_iload_n rX2_near_27 rfl ?_
  refine tq_icmp_ge rX2_near_28 (fun c2 => ?_) (fun c2 => ?_)
  · rw [if_pos c2] at hf
    have hf := Option.some.inj hf
    subst hf
    exact tq_forget _ (tq_le_u (tq_le_u (tq_le_s (tq_le_u (tq_le_u tq_le_n))))) hk
  · rw [if_neg c2] at hf
    refine tq_iload rX2_near_31 rfl ?_
    refine tq_bipush (12 : Int32) rX2_near_33 (by decide) ?_
    refine tq_icmp_ge rX2_near_35 (fun c3 => ?_) (fun c3 => ?_)
    · rw [if_pos c3] at hf
      have hf := Option.some.inj hf
      subst hf
      exact tq_forget _ (tq_le_u (tq_le_u (tq_le_s (tq_le_u (tq_le_u tq_le_n))))) hk
    · rw [if_neg c3] at hf
      refine tq_lload_n rX2_near_38 rfl ?_
      refine tq_lload_n rX2_near_39 rfl ?_
      obtain ⟨p4, e4, hf⟩ := tq_let_elim hf
      refine ty_callSJ p4 ([.long a2]) ([.long a2]) rX2_near_40 l_X2_44 moX11_nextTo msX11_nextTo rfl rfl (Nat.le_of_ble_eq_true rfl) ⟨rfl, rfl⟩ (CX11_nextTo  e4) ?_
      refine tq_ldc2 rX2_near_43 (k_X2_19) ?_
      refine tq_land rX2_near_46 ?_
      refine tq_lor rX2_near_47 ?_
      refine tq_lstore_n ([tq_u, .int a1, .long (a2 ||| (p4 &&& (281474976710655 : Int64))), tq_u, .int a4]) rX2_near_48 (Nat.le_of_ble_eq_true rfl) rfl ?_
      refine tq_iinc (a4 + 1) ([tq_u, .int a1, .long (a2 ||| (p4 &&& (281474976710655 : Int64))), tq_u, .int (a4 + 1)]) rX2_near_49 rfl (tq_inc (by decide)) (Nat.le_of_ble_eq_true rfl) rfl ?_
      refine tq_goto rX2_near_52 ?_
      have hf := Option.some.inj hf
      subst hf
      exact tq_forget _ (tq_le_u (tq_le_s (tq_le_s (tq_le_u (tq_le_s tq_le_n))))) hk

set_option maxRecDepth 100000 in
set_option maxHeartbeats 4000000 in
theorem FX2_near_j21_x {S : Nat × (Nat → Int32)} {d : Nat} {I : tq_PI} {L : tq_PL} {a1 : Int32} {b0 : Int64}  {q0 : Option Value → tq_PI → tq_PL → Prop} {out : Int64} (hf : FX2_near_j21 I L a1 b0 = some out) (hk : q0 (some (.long out)) I L) : tq_X S mX2_near (d + 2) tq_k0 21 ([tq_u, .int a1, tq_u, tq_u, tq_u]) ([.long b0]) (tq_st I L) (tq_Q q0) := by
  unfold FX2_near_j21 at hf
  refine tq_lstore_n ([tq_u, .int a1, .long b0, tq_u, tq_u]) rX2_near_21 (Nat.le_of_ble_eq_true rfl) rfl ?_
  refine tq_iconst (0 : Int32) rX2_near_22 (by decide) ?_
  refine tq_istore ([tq_u, .int a1, .long b0, tq_u, .int (0 : Int32)]) rX2_near_23 (Nat.le_of_ble_eq_true rfl) rfl ?_
  obtain ⟨p5, e5, hf⟩ := Option.bind_eq_some_iff.mp hf
  refine tq_forget _ (tq_le_u (tq_le_s (tq_le_s (tq_le_u (tq_le_s tq_le_n))))) ?_
  refine tq_it_elim (P := fun p : Int64 × Int32 => tq_X S mX2_near (d + 2) tq_k0 25 ([tq_u, .int a1, .long p.1, tq_u, .int p.2]) [] (tq_st I L) (tq_Q q0)) (R := fun p : Int64 => tq_X S mX2_near (d + 2) tq_k0 55 ([tq_u, tq_u, .long p, tq_u, tq_u]) [] (tq_st I L) (tq_Q q0)) (fun p o hp hk => FX2_near_s25_x   hp hk) _ ((b0, (0 : Int32))) _ e5 ?_
  show tq_X _ _ _ _ _ _ _ _ _
  refine tq_lload_n rX2_near_55 rfl ?_
  refine ty_lret rX2_near_56 rfl rfl ?_
  have hf := Option.some.inj hf
  subst hf
  exact hk

set_option maxRecDepth 100000 in
set_option maxHeartbeats 4000000 in
theorem FX2_near_j14_x {S : Nat × (Nat → Int32)} {d : Nat} {I : tq_PI} {L : tq_PL} {a1 : Int32}  {q0 : Option Value → tq_PI → tq_PL → Prop} {out : Int64} (hf : FX2_near_j14 I L a1 = some out) (hk : q0 (some (.long out)) I L) : tq_X S mX2_near (d + 2) tq_k0 14 ([tq_u, .int a1, tq_u, tq_u, tq_u]) ([]) (tq_st I L) (tq_Q q0) := by
  unfold FX2_near_j14 at hf
  refine tq_lconst (0 : Int64) rX2_near_14 (by decide) ?_
  refine tq_goto rX2_near_15 ?_
  exact tq_forget _ (tq_le_u (tq_le_s (tq_le_u (tq_le_u (tq_le_u tq_le_n))))) (FX2_near_j21_x   hf hk)

set_option maxRecDepth 100000 in
set_option maxHeartbeats 4000000 in
theorem CX2_near {S : Nat × (Nat → Int32)} {d : Nat} {I : tq_PI} {L : tq_PL} {a0 : Int32} {a1 : Int32}  {out : Int64} (hf : FX2_near I L a0 a1 = some out) : tq_K S mX2_near (d + 2) [.int a0, .int a1] I L (tq_one2 (some (.long out)) I L) := by
  unfold FX2_near at hf
  refine tq_K_of (by decide) (Nat.le_of_ble_eq_true rfl) (ls := [.int a0, .int a1, tq_u, tq_u, tq_u]) rfl ?_
  refine tq_iload_n rX2_near_0 rfl ?_
  refine tq_if_lt rX2_near_1 (fun c1 => ?_) (fun c1 => ?_)
  · rw [if_pos c1] at hf
    exact tq_forget _ (tq_le_u (tq_le_s (tq_le_u (tq_le_u (tq_le_u tq_le_n))))) (FX2_near_j14_x   hf ⟨rfl, rfl, rfl⟩)
  · rw [if_neg c1] at hf
    refine tq_iload_n rX2_near_4 rfl ?_
    refine tq_bipush (48 : Int32) rX2_near_5 (by decide) ?_
    refine tq_icmp_ge rX2_near_7 (fun c6 => ?_) (fun c6 => ?_)
    · rw [if_pos c6] at hf
      exact tq_forget _ (tq_le_u (tq_le_s (tq_le_u (tq_le_u (tq_le_u tq_le_n))))) (FX2_near_j14_x   hf ⟨rfl, rfl, rfl⟩)
    · rw [if_neg c6] at hf
      refine tq_iload_n rX2_near_10 rfl ?_
      refine tq_if_ge rX2_near_11 (fun c7 => ?_) (fun c7 => ?_)
      · rw [if_pos c7] at hf
        refine tq_lconst (1 : Int64) rX2_near_18 (by decide) ?_
        refine tq_iload_n rX2_near_19 rfl ?_
        refine tq_lshl rX2_near_20 ?_
        exact tq_forget _ (tq_le_u (tq_le_s (tq_le_u (tq_le_u (tq_le_u tq_le_n))))) (FX2_near_j21_x   hf ⟨rfl, rfl, rfl⟩)
      · rw [if_neg c7] at hf
        exact tq_forget _ (tq_le_u (tq_le_s (tq_le_u (tq_le_u (tq_le_u tq_le_n))))) (FX2_near_j14_x   hf ⟨rfl, rfl, rfl⟩)

abbrev mX2_heardFrom : tq_M := (yX2_heardFrom, cX2_heardFrom, 3, (Option.some Jvm.ClassFile.FieldType.long), 0, 0)
theorem moX2_near : tq_mok mX2_near 2 := ⟨tq_sg1 _ (List.mem_of_getElem? (i := 11) rfl), tq_sg5 _ (List.mem_of_getElem? (i := 52) rfl), ⟨by decide, by decide, by decide +kernel⟩, by decide⟩
theorem msX2_near : Cond.static mX2_near.1 ∈ lw_tbl := tq_sg5 _ (List.mem_of_getElem? (i := 51) rfl)
theorem k_X2_42 : Cond.constantLong RX2 42 (-1) ∈ lw_tbl := tq_sg5 _ (List.mem_of_getElem? (i := 54) rfl)
theorem l_X2_38 : tq_lok RX2 38 mX2_near.1 := Or.inl (tq_sg5 _ (List.mem_of_getElem? (i := 50) rfl))
theorem rX2_heardFrom_0 : tq_D cX2_heardFrom 0 (.iload_n 1) 1 1 := ⟨by decide +kernel, rfl⟩
theorem rX2_heardFrom_1 : tq_J cX2_heardFrom 1 (.ifCond .ne) 20 4 := ⟨19, by decide +kernel, by decide, rfl⟩
theorem rX2_heardFrom_4 : tq_D cX2_heardFrom 4 (.ldc2_w 19) 3 7 := ⟨by decide +kernel, rfl⟩
theorem rX2_heardFrom_7 : tq_D cX2_heardFrom 7 (.iload_n 0) 1 8 := ⟨by decide +kernel, rfl⟩
theorem rX2_heardFrom_8 : tq_D cX2_heardFrom 8 (.iload_n 2) 1 9 := ⟨by decide +kernel, rfl⟩
theorem rX2_heardFrom_9 : tq_D cX2_heardFrom 9 (.iconst 1) 1 10 := ⟨by decide +kernel, rfl⟩
theorem rX2_heardFrom_10 : tq_D cX2_heardFrom 10 (.isub) 1 11 := ⟨by decide +kernel, rfl⟩
theorem rX2_heardFrom_11 : tq_D cX2_heardFrom 11 (.invokestatic 38) 3 14 := ⟨by decide +kernel, rfl⟩
theorem rX2_heardFrom_14 : tq_D cX2_heardFrom 14 (.ldc2_w 42) 3 17 := ⟨by decide +kernel, rfl⟩
theorem rX2_heardFrom_17 : tq_D cX2_heardFrom 17 (.lxor) 1 18 := ⟨by decide +kernel, rfl⟩
theorem rX2_heardFrom_18 : tq_D cX2_heardFrom 18 (.land) 1 19 := ⟨by decide +kernel, rfl⟩
theorem rX2_heardFrom_19 : decode cX2_heardFrom 19 = .ok (.lreturn, 1) := by decide +kernel
theorem rX2_heardFrom_20 : tq_D cX2_heardFrom 20 (.iload_n 0) 1 21 := ⟨by decide +kernel, rfl⟩
theorem rX2_heardFrom_21 : tq_D cX2_heardFrom 21 (.iload_n 2) 1 22 := ⟨by decide +kernel, rfl⟩
theorem rX2_heardFrom_22 : tq_D cX2_heardFrom 22 (.iload_n 1) 1 23 := ⟨by decide +kernel, rfl⟩
theorem rX2_heardFrom_23 : tq_D cX2_heardFrom 23 (.isub) 1 24 := ⟨by decide +kernel, rfl⟩
theorem rX2_heardFrom_24 : tq_D cX2_heardFrom 24 (.invokestatic 38) 3 27 := ⟨by decide +kernel, rfl⟩
theorem rX2_heardFrom_27 : tq_D cX2_heardFrom 27 (.iload_n 0) 1 28 := ⟨by decide +kernel, rfl⟩
theorem rX2_heardFrom_28 : tq_D cX2_heardFrom 28 (.iload_n 2) 1 29 := ⟨by decide +kernel, rfl⟩
theorem rX2_heardFrom_29 : tq_D cX2_heardFrom 29 (.iload_n 1) 1 30 := ⟨by decide +kernel, rfl⟩
theorem rX2_heardFrom_30 : tq_D cX2_heardFrom 30 (.isub) 1 31 := ⟨by decide +kernel, rfl⟩
theorem rX2_heardFrom_31 : tq_D cX2_heardFrom 31 (.iconst 1) 1 32 := ⟨by decide +kernel, rfl⟩
theorem rX2_heardFrom_32 : tq_D cX2_heardFrom 32 (.isub) 1 33 := ⟨by decide +kernel, rfl⟩
theorem rX2_heardFrom_33 : tq_D cX2_heardFrom 33 (.invokestatic 38) 3 36 := ⟨by decide +kernel, rfl⟩
theorem rX2_heardFrom_36 : tq_D cX2_heardFrom 36 (.ldc2_w 42) 3 39 := ⟨by decide +kernel, rfl⟩
theorem rX2_heardFrom_39 : tq_D cX2_heardFrom 39 (.lxor) 1 40 := ⟨by decide +kernel, rfl⟩
theorem rX2_heardFrom_40 : tq_D cX2_heardFrom 40 (.land) 1 41 := ⟨by decide +kernel, rfl⟩
theorem rX2_heardFrom_41 : decode cX2_heardFrom 41 = .ok (.lreturn, 1) := by decide +kernel
noncomputable def FX2_heardFrom (I : tq_PI) (L : tq_PL) (a0 : Int32) (a1 : Int32) (a2 : Int32) : Option (Int64) :=
  (if a1 = 0 then ((FX2_near I L a0 ((a2 - (1 : Int32)))).bind fun p4 => some ((281474976710655 : Int64) &&& (p4 ^^^ (-1 : Int64)))) else ((FX2_near I L a0 ((a2 - a1))).bind fun p2 => ((FX2_near I L a0 (((a2 - a1) - (1 : Int32)))).bind fun p3 => some (p2 &&& (p3 ^^^ (-1 : Int64))))))
set_option maxRecDepth 100000 in
set_option maxHeartbeats 4000000 in
theorem CX2_heardFrom {S : Nat × (Nat → Int32)} {d : Nat} {I : tq_PI} {L : tq_PL} {a0 : Int32} {a1 : Int32} {a2 : Int32}  {out : Int64} (hf : FX2_heardFrom I L a0 a1 a2 = some out) : tq_K S mX2_heardFrom (d + 3) [.int a0, .int a1, .int a2] I L (tq_one2 (some (.long out)) I L) := by
  unfold FX2_heardFrom at hf
  refine tq_K_of (by decide) (Nat.le_of_ble_eq_true rfl) (ls := [.int a0, .int a1, .int a2]) rfl ?_
  refine tq_iload_n rX2_heardFrom_0 rfl ?_
  refine tq_if_ne rX2_heardFrom_1 (fun c1 => ?_) (fun c1 => ?_)
  · rw [if_neg c1] at hf
    refine tq_iload_n rX2_heardFrom_20 rfl ?_
    refine tq_iload_n rX2_heardFrom_21 rfl ?_
    refine tq_iload_n rX2_heardFrom_22 rfl ?_
    refine tq_isub rX2_heardFrom_23 ?_
    obtain ⟨p2, e2, hf⟩ := Option.bind_eq_some_iff.mp hf
    refine ty_callSJ p2 ([.int a0, .int (a2 - a1)]) ([]) rX2_heardFrom_24 l_X2_38 moX2_near msX2_near rfl rfl (Nat.le_of_ble_eq_true rfl) ⟨rfl, rfl⟩ (CX2_near  e2) ?_
    refine tq_iload_n rX2_heardFrom_27 rfl ?_
    refine tq_iload_n rX2_heardFrom_28 rfl ?_
    refine tq_iload_n rX2_heardFrom_29 rfl ?_
    refine tq_isub rX2_heardFrom_30 ?_
    refine tq_iconst (1 : Int32) rX2_heardFrom_31 (by decide) ?_
    refine tq_isub rX2_heardFrom_32 ?_
    obtain ⟨p3, e3, hf⟩ := Option.bind_eq_some_iff.mp hf
    refine ty_callSJ p3 ([.int a0, .int ((a2 - a1) - (1 : Int32))]) ([.long p2]) rX2_heardFrom_33 l_X2_38 moX2_near msX2_near rfl rfl (Nat.le_of_ble_eq_true rfl) ⟨rfl, rfl⟩ (CX2_near  e3) ?_
    refine tq_ldc2 rX2_heardFrom_36 (k_X2_42) ?_
    refine tq_lxor rX2_heardFrom_39 ?_
    refine tq_land rX2_heardFrom_40 ?_
    refine ty_lret rX2_heardFrom_41 rfl rfl ?_
    have hf := Option.some.inj hf
    subst hf
    exact ⟨rfl, rfl, rfl⟩
  · rw [if_pos c1] at hf
    refine tq_ldc2 rX2_heardFrom_4 (k_X2_19) ?_
    refine tq_iload_n rX2_heardFrom_7 rfl ?_
    refine tq_iload_n rX2_heardFrom_8 rfl ?_
    refine tq_iconst (1 : Int32) rX2_heardFrom_9 (by decide) ?_
    refine tq_isub rX2_heardFrom_10 ?_
    obtain ⟨p4, e4, hf⟩ := Option.bind_eq_some_iff.mp hf
    refine ty_callSJ p4 ([.int a0, .int (a2 - (1 : Int32))]) ([.long (281474976710655 : Int64)]) rX2_heardFrom_11 l_X2_38 moX2_near msX2_near rfl rfl (Nat.le_of_ble_eq_true rfl) ⟨rfl, rfl⟩ (CX2_near  e4) ?_
    refine tq_ldc2 rX2_heardFrom_14 (k_X2_42) ?_
    refine tq_lxor rX2_heardFrom_17 ?_
    refine tq_land rX2_heardFrom_18 ?_
    refine ty_lret rX2_heardFrom_19 rfl rfl ?_
    have hf := Option.some.inj hf
    subst hf
    exact ⟨rfl, rfl, rfl⟩

abbrev mX2_gather : tq_M := (yX2_gather, cX2_gather, 6, (Option.none : Option Jvm.ClassFile.FieldType), 0, 0)
theorem moX2_heardFrom : tq_mok mX2_heardFrom 3 := ⟨tq_sg1 _ (List.mem_of_getElem? (i := 11) rfl), tq_sg5 _ (List.mem_of_getElem? (i := 49) rfl), ⟨by decide, by decide, by decide +kernel⟩, by decide⟩
theorem msX2_heardFrom : Cond.static mX2_heardFrom.1 ∈ lw_tbl := tq_sg5 _ (List.mem_of_getElem? (i := 48) rfl)
theorem moX4_cellAt : tq_mok mX4_cellAt 1 := ⟨tq_sg1 _ (List.mem_of_getElem? (i := 5) rfl), tq_sg5 _ (List.mem_of_getElem? (i := 31) rfl), ⟨by decide, by decide, by decide +kernel⟩, by decide⟩
theorem mvX4_cellAt : 4 < 13 ∧ (tq_cl 4).1 = mX4_cellAt.1.cls ∧ Cond.instanceMethod mX4_cellAt.1 ∈ lw_tbl ∧ Cond.selects mX4_cellAt.1.cls mX4_cellAt.1 mX4_cellAt.1 ∈ lw_tbl := ⟨by decide, rfl, tq_sg5 _ (List.mem_of_getElem? (i := 29) rfl), tq_sg5 _ (List.mem_of_getElem? (i := 30) rfl)⟩
theorem moX4_heardAt : tq_mok mX4_heardAt 1 := ⟨tq_sg1 _ (List.mem_of_getElem? (i := 5) rfl), tq_sg5 _ (List.mem_of_getElem? (i := 35) rfl), ⟨by decide, by decide, by decide +kernel⟩, by decide⟩
theorem mvX4_heardAt : 4 < 13 ∧ (tq_cl 4).1 = mX4_heardAt.1.cls ∧ Cond.instanceMethod mX4_heardAt.1 ∈ lw_tbl ∧ Cond.selects mX4_heardAt.1.cls mX4_heardAt.1 mX4_heardAt.1 ∈ lw_tbl := ⟨by decide, rfl, tq_sg5 _ (List.mem_of_getElem? (i := 33) rfl), tq_sg5 _ (List.mem_of_getElem? (i := 34) rfl)⟩
theorem f_X2_21 : tq_fok RX2 21 4 0 := ⟨by decide, by decide, Or.inr ⟨_, tq_sg1 _ (List.mem_of_getElem? (i := 112) rfl)⟩⟩
theorem f_X2_9 : tq_fok RX2 9 2 0 := ⟨by decide, by decide, Or.inl (tq_sg2 _ (List.mem_of_getElem? (i := 101) rfl))⟩
theorem l_X2_27 : tq_lok RX2 27 mX4_cellAt.1 := Or.inl (tq_sg5 _ (List.mem_of_getElem? (i := 45) rfl))
theorem l_X2_31 : tq_lok RX2 31 mX4_heardAt.1 := Or.inl (tq_sg5 _ (List.mem_of_getElem? (i := 46) rfl))
theorem l_X2_34 : tq_lok RX2 34 mX2_heardFrom.1 := Or.inl (tq_sg5 _ (List.mem_of_getElem? (i := 47) rfl))
theorem rX2_gather_0 : tq_D cX2_gather 0 (.iconst 1) 1 1 := ⟨by decide +kernel, rfl⟩
theorem rX2_gather_1 : tq_D cX2_gather 1 (.istore_n 2) 1 2 := ⟨by decide +kernel, rfl⟩
theorem rX2_gather_2 : tq_D cX2_gather 2 (.iload_n 2) 1 3 := ⟨by decide +kernel, rfl⟩
theorem rX2_gather_3 : tq_D cX2_gather 3 (.aload_n 0) 1 4 := ⟨by decide +kernel, rfl⟩
theorem rX2_gather_4 : tq_D cX2_gather 4 (.getfield 9) 3 7 := ⟨by decide +kernel, rfl⟩
theorem rX2_gather_7 : tq_D cX2_gather 7 (.arraylength) 1 8 := ⟨by decide +kernel, rfl⟩
theorem rX2_gather_8 : tq_J cX2_gather 8 (.if_icmp .ge) 65 11 := ⟨57, by decide +kernel, by decide, rfl⟩
theorem rX2_gather_11 : tq_D cX2_gather 11 (.ldc2_w 19) 3 14 := ⟨by decide +kernel, rfl⟩
theorem rX2_gather_14 : tq_D cX2_gather 14 (.lstore_n 3) 1 15 := ⟨by decide +kernel, rfl⟩
theorem rX2_gather_15 : tq_D cX2_gather 15 (.iconst 0) 1 16 := ⟨by decide +kernel, rfl⟩
theorem rX2_gather_16 : tq_D cX2_gather 16 (.istore 5) 2 18 := ⟨by decide +kernel, rfl⟩
theorem rX2_gather_18 : tq_D cX2_gather 18 (.iload 5) 2 20 := ⟨by decide +kernel, rfl⟩
theorem rX2_gather_20 : tq_D cX2_gather 20 (.aload_n 1) 1 21 := ⟨by decide +kernel, rfl⟩
theorem rX2_gather_21 : tq_D cX2_gather 21 (.getfield 21) 3 24 := ⟨by decide +kernel, rfl⟩
theorem rX2_gather_24 : tq_J cX2_gather 24 (.if_icmp .ge) 52 27 := ⟨28, by decide +kernel, by decide, rfl⟩
theorem rX2_gather_27 : tq_D cX2_gather 27 (.lload_n 3) 1 28 := ⟨by decide +kernel, rfl⟩
theorem rX2_gather_28 : tq_D cX2_gather 28 (.aload_n 1) 1 29 := ⟨by decide +kernel, rfl⟩
theorem rX2_gather_29 : tq_D cX2_gather 29 (.iload 5) 2 31 := ⟨by decide +kernel, rfl⟩
theorem rX2_gather_31 : tq_D cX2_gather 31 (.invokevirtual 27) 3 34 := ⟨by decide +kernel, rfl⟩
theorem rX2_gather_34 : tq_D cX2_gather 34 (.aload_n 1) 1 35 := ⟨by decide +kernel, rfl⟩
theorem rX2_gather_35 : tq_D cX2_gather 35 (.iload 5) 2 37 := ⟨by decide +kernel, rfl⟩
theorem rX2_gather_37 : tq_D cX2_gather 37 (.invokevirtual 31) 3 40 := ⟨by decide +kernel, rfl⟩
theorem rX2_gather_40 : tq_D cX2_gather 40 (.iload_n 2) 1 41 := ⟨by decide +kernel, rfl⟩
theorem rX2_gather_41 : tq_D cX2_gather 41 (.invokestatic 34) 3 44 := ⟨by decide +kernel, rfl⟩
theorem rX2_gather_44 : tq_D cX2_gather 44 (.land) 1 45 := ⟨by decide +kernel, rfl⟩
theorem rX2_gather_45 : tq_D cX2_gather 45 (.lstore_n 3) 1 46 := ⟨by decide +kernel, rfl⟩
theorem rX2_gather_46 : tq_D cX2_gather 46 (.iinc 5 1) 3 49 := ⟨by decide +kernel, rfl⟩
theorem rX2_gather_49 : tq_J cX2_gather 49 .goto 18 52 := ⟨(-31), by decide +kernel, by decide, rfl⟩
theorem rX2_gather_52 : tq_D cX2_gather 52 (.aload_n 0) 1 53 := ⟨by decide +kernel, rfl⟩
theorem rX2_gather_53 : tq_D cX2_gather 53 (.getfield 9) 3 56 := ⟨by decide +kernel, rfl⟩
theorem rX2_gather_56 : tq_D cX2_gather 56 (.iload_n 2) 1 57 := ⟨by decide +kernel, rfl⟩
theorem rX2_gather_57 : tq_D cX2_gather 57 (.lload_n 3) 1 58 := ⟨by decide +kernel, rfl⟩
theorem rX2_gather_58 : tq_D cX2_gather 58 (.lastore) 1 59 := ⟨by decide +kernel, rfl⟩
theorem rX2_gather_59 : tq_D cX2_gather 59 (.iinc 2 1) 3 62 := ⟨by decide +kernel, rfl⟩
theorem rX2_gather_62 : tq_J cX2_gather 62 .goto 2 65 := ⟨(-60), by decide +kernel, by decide, rfl⟩
theorem rX2_gather_65 : decode cX2_gather 65 = .ok (.return_, 1) := by decide +kernel
noncomputable def FX2_gather_s18 (I : tq_PI) (L : tq_PL) (a0 : Nat) (a1 : Nat) (a2 : Int32) (a3 : Int64) (a5 : Int32) : Option ((Int64 × Int32) ⊕ (Int64)) :=
  (if (I a1 0) ≤ a5 then some (.inr a3) else ((FX4_cellAt I L a1 a5).bind fun p3 => ((FX4_heardAt I L a1 a5).bind fun p4 => ((FX2_heardFrom I L p3 p4 a2).bind fun p5 => some (.inl ((a3 &&& p5), (a5 + 1)))))))
noncomputable def FX2_gather_s2 (I : tq_PI) (L : tq_PL) (a0 : Nat) (a1 : Nat) (a2 : Int32) : Option ((Int32 × tq_PL) ⊕ (tq_PL)) :=
  (if (10 : Int32) ≤ a2 then some (.inr L) else ((tq_it (fun p : Int64 × Int32 => FX2_gather_s18 I L a0 a1 a2 p.1 p.2) tq_N ((281474976710655 : Int64), (0 : Int32))).bind fun p6 => (if 0 ≤ a2 ∧ a2 < 10 then some (.inl ((a2 + 1), (tq_up2 L (tq_rg a0 0) a2.toNatClampNeg p6))) else none)))
noncomputable def FX2_gather (I : tq_PI) (L : tq_PL) (a0 : Nat) (a1 : Nat) : Option (tq_PL) :=
  ((tq_it (fun p : Int32 × tq_PL => FX2_gather_s2 I p.2 a0 a1 p.1) tq_N ((1 : Int32), L)).bind fun p8 => some p8)
set_option maxRecDepth 100000 in
set_option maxHeartbeats 4000000 in
theorem FX2_gather_s18_x {S : Nat × (Nat → Int32)} {d : Nat} {I : tq_PI} {L : tq_PL} {a0 : Nat} {a1 : Nat} {a2 : Int32} {a3 : Int64} {a5 : Int32} (h0 : tq_sh0 a0 = 2) (h1 : tq_sh0 a1 = 4) {q0 : Option Value → tq_PI → tq_PL → Prop} {out : (Int64 × Int32) ⊕ (Int64)} (hf : FX2_gather_s18 I L a0 a1 a2 a3 a5 = some out) (hk : Sum.elim (fun p : Int64 × Int32 => tq_X S mX2_gather (d + 4) tq_k0 18 ([.ref a0, .ref a1, .int a2, .long p.1, tq_u, .int p.2]) [] (tq_st I L) (tq_Q q0)) (fun p : Int64 => tq_X S mX2_gather (d + 4) tq_k0 52 ([.ref a0, .ref a1, .int a2, .long p, tq_u, tq_u]) [] (tq_st I L) (tq_Q q0)) out) : tq_X S mX2_gather (d + 4) tq_k0 18 ([.ref a0, .ref a1, .int a2, .long a3, tq_u, .int a5]) [] (tq_st I L) (tq_Q q0) := by
  unfold FX2_gather_s18 at hf
  refine tq_iload rX2_gather_18 rfl ?_
  refine tq_aload_n rX2_gather_20 rfl ?_
  refine ty_getI rX2_gather_21 f_X2_21 rfl h1 ?_
  refine tq_icmp_ge rX2_gather_24 (fun c2 => ?_) (fun c2 => ?_)
  · rw [if_pos c2] at hf
    have hf := Option.some.inj hf
    subst hf
    exact tq_forget _ (tq_le_s (tq_le_s (tq_le_s (tq_le_s (tq_le_u (tq_le_u tq_le_n)))))) hk
  · rw [if_neg c2] at hf
    refine tq_lload_n rX2_gather_27 rfl ?_
    refine tq_aload_n rX2_gather_28 rfl ?_
    refine tq_iload rX2_gather_29 rfl ?_
    obtain ⟨p3, e3, hf⟩ := Option.bind_eq_some_iff.mp hf
    refine ty_callVI p3 ([.int a5]) ([.long a3]) rX2_gather_31 l_X2_27 moX4_cellAt mvX4_cellAt h1 rfl rfl (Nat.le_of_ble_eq_true rfl) ⟨rfl, rfl⟩ (CX4_cellAt h1 e3) ?_
    refine tq_aload_n rX2_gather_34 rfl ?_
    refine tq_iload rX2_gather_35 rfl ?_
    obtain ⟨p4, e4, hf⟩ := Option.bind_eq_some_iff.mp hf
    refine ty_callVI p4 ([.int a5]) ([.int p3, .long a3]) rX2_gather_37 l_X2_31 moX4_heardAt mvX4_heardAt h1 rfl rfl (Nat.le_of_ble_eq_true rfl) ⟨rfl, rfl⟩ (CX4_heardAt h1 e4) ?_
    refine tq_iload_n rX2_gather_40 rfl ?_
    obtain ⟨p5, e5, hf⟩ := Option.bind_eq_some_iff.mp hf
    refine ty_callSJ p5 ([.int p3, .int p4, .int a2]) ([.long a3]) rX2_gather_41 l_X2_34 moX2_heardFrom msX2_heardFrom rfl rfl (Nat.le_of_ble_eq_true rfl) ⟨rfl, rfl⟩ (CX2_heardFrom  e5) ?_
    refine tq_land rX2_gather_44 ?_
    refine tq_lstore_n ([.ref a0, .ref a1, .int a2, .long (a3 &&& p5), tq_u, .int a5]) rX2_gather_45 (Nat.le_of_ble_eq_true rfl) rfl ?_
    refine tq_iinc (a5 + 1) ([.ref a0, .ref a1, .int a2, .long (a3 &&& p5), tq_u, .int (a5 + 1)]) rX2_gather_46 rfl (tq_inc (by decide)) (Nat.le_of_ble_eq_true rfl) rfl ?_
    refine tq_goto rX2_gather_49 ?_
    have hf := Option.some.inj hf
    subst hf
    exact tq_forget _ (tq_le_s (tq_le_s (tq_le_s (tq_le_s (tq_le_u (tq_le_s tq_le_n)))))) hk

set_option maxRecDepth 100000 in
set_option maxHeartbeats 4000000 in
theorem FX2_gather_s2_x {S : Nat × (Nat → Int32)} {d : Nat} {I : tq_PI} {L : tq_PL} {a0 : Nat} {a1 : Nat} {a2 : Int32} (h0 : tq_sh0 a0 = 2) (h1 : tq_sh0 a1 = 4) {q0 : Option Value → tq_PI → tq_PL → Prop} {out : (Int32 × tq_PL) ⊕ (tq_PL)} (hf : FX2_gather_s2 I L a0 a1 a2 = some out) (hk : Sum.elim (fun p : Int32 × tq_PL => tq_X S mX2_gather (d + 4) tq_k0 2 ([.ref a0, .ref a1, .int p.1, tq_u, tq_u, tq_u]) [] (tq_st I p.2) (tq_Q q0)) (fun p : tq_PL => tq_X S mX2_gather (d + 4) tq_k0 65 ([tq_u, tq_u, tq_u, tq_u, tq_u, tq_u]) [] (tq_st I p) (tq_Q q0)) out) : tq_X S mX2_gather (d + 4) tq_k0 2 ([.ref a0, .ref a1, .int a2, tq_u, tq_u, tq_u]) [] (tq_st I L) (tq_Q q0) := by
  unfold FX2_gather_s2 at hf
  refine tq_iload_n rX2_gather_2 rfl ?_
  refine tq_aload_n rX2_gather_3 rfl ?_
  refine ty_getR rX2_gather_4 f_X2_9 rfl h0 (hp_2_0 h0).1 ?_
  refine ty_alen (v := 10) rX2_gather_7 (hp_2_0 h0).2.1 (by decide) (hp_2_0 h0).2.2 rfl ?_
  refine tq_icmp_ge rX2_gather_8 (fun c1 => ?_) (fun c1 => ?_)
  · rw [if_pos c1] at hf
    have hf := Option.some.inj hf
    subst hf
    exact tq_forget _ (tq_le_u (tq_le_u (tq_le_u (tq_le_u (tq_le_u (tq_le_u tq_le_n)))))) hk
  · rw [if_neg c1] at hf
    refine tq_ldc2 rX2_gather_11 (k_X2_19) ?_
    refine tq_lstore_n ([.ref a0, .ref a1, .int a2, .long (281474976710655 : Int64), tq_u, tq_u]) rX2_gather_14 (Nat.le_of_ble_eq_true rfl) rfl ?_
    refine tq_iconst (0 : Int32) rX2_gather_15 (by decide) ?_
    refine tq_istore ([.ref a0, .ref a1, .int a2, .long (281474976710655 : Int64), tq_u, .int (0 : Int32)]) rX2_gather_16 (Nat.le_of_ble_eq_true rfl) rfl ?_
    obtain ⟨p6, e6, hf⟩ := Option.bind_eq_some_iff.mp hf
    refine tq_forget _ (tq_le_s (tq_le_s (tq_le_s (tq_le_s (tq_le_u (tq_le_s tq_le_n)))))) ?_
    refine tq_it_elim (P := fun p : Int64 × Int32 => tq_X S mX2_gather (d + 4) tq_k0 18 ([.ref a0, .ref a1, .int a2, .long p.1, tq_u, .int p.2]) [] (tq_st I L) (tq_Q q0)) (R := fun p : Int64 => tq_X S mX2_gather (d + 4) tq_k0 52 ([.ref a0, .ref a1, .int a2, .long p, tq_u, tq_u]) [] (tq_st I L) (tq_Q q0)) (fun p o hp hk => FX2_gather_s18_x  h0 h1 hp hk) _ (((281474976710655 : Int64), (0 : Int32))) _ e6 ?_
    show tq_X _ _ _ _ _ _ _ _ _
    refine tq_aload_n rX2_gather_52 rfl ?_
    refine ty_getR rX2_gather_53 f_X2_9 rfl h0 (hp_2_0 h0).1 ?_
    refine tq_iload_n rX2_gather_56 rfl ?_
    refine tq_lload_n rX2_gather_57 rfl ?_
    obtain ⟨g7, hf⟩ := tq_chk hf
    refine ty_last (v := 10) rX2_gather_58 (hp_2_0 h0).2.1 (hp_2_0 h0).2.2 rfl (by decide) g7 ?_
    refine tq_iinc (a2 + 1) ([.ref a0, .ref a1, .int (a2 + 1), .long p6, tq_u, tq_u]) rX2_gather_59 rfl (tq_inc (by decide)) (Nat.le_of_ble_eq_true rfl) rfl ?_
    refine tq_goto rX2_gather_62 ?_
    have hf := Option.some.inj hf
    subst hf
    exact tq_forget _ (tq_le_s (tq_le_s (tq_le_s (tq_le_u (tq_le_u (tq_le_u tq_le_n)))))) hk

set_option maxRecDepth 100000 in
set_option maxHeartbeats 4000000 in
theorem CX2_gather {S : Nat × (Nat → Int32)} {d : Nat} {I : tq_PI} {L : tq_PL} {a0 : Nat} {a1 : Nat} (h0 : tq_sh0 a0 = 2) (h1 : tq_sh0 a1 = 4) {out : tq_PL} (hf : FX2_gather I L a0 a1 = some out) : tq_K S mX2_gather (d + 4) [.ref a0, .ref a1] I L (tq_one2 (none) I out) := by
  unfold FX2_gather at hf
  refine tq_K_of (by decide) (Nat.le_of_ble_eq_true rfl) (ls := [.ref a0, .ref a1, tq_u, tq_u, tq_u, tq_u]) rfl ?_
  refine tq_iconst (1 : Int32) rX2_gather_0 (by decide) ?_
  refine tq_istore_n ([.ref a0, .ref a1, .int (1 : Int32), tq_u, tq_u, tq_u]) rX2_gather_1 (Nat.le_of_ble_eq_true rfl) rfl ?_
  obtain ⟨p8, e8, hf⟩ := Option.bind_eq_some_iff.mp hf
  refine tq_forget _ (tq_le_s (tq_le_s (tq_le_s (tq_le_u (tq_le_u (tq_le_u tq_le_n)))))) ?_
  refine tq_it_elim (P := fun p : Int32 × tq_PL => tq_X S mX2_gather (d + 4) tq_k0 2 ([.ref a0, .ref a1, .int p.1, tq_u, tq_u, tq_u]) [] (tq_st I p.2) (tq_Q (tq_one2 (none) I out))) (R := fun p : tq_PL => tq_X S mX2_gather (d + 4) tq_k0 65 ([tq_u, tq_u, tq_u, tq_u, tq_u, tq_u]) [] (tq_st I p) (tq_Q (tq_one2 (none) I out))) (fun p o hp hk => FX2_gather_s2_x  h0 h1 hp hk) _ (((1 : Int32), L)) _ e8 ?_
  show tq_X _ _ _ _ _ _ _ _ _
  refine ty_vret rX2_gather_65 rfl rfl ?_
  have hf := Option.some.inj hf
  subst hf
  exact ⟨rfl, rfl, rfl⟩

abbrev mJ13_bitCount_95d88 : tq_M := (yJ13_bitCount_95d88, cJ13_bitCount_95d88, 2, (Option.some Jvm.ClassFile.FieldType.int), 0, 0)
theorem k_J13_314 : Cond.constantLong RJ13 314 (6148914691236517205) ∈ lw_tbl := tq_sg3 _ (List.mem_of_getElem? (i := 194) rfl)
theorem k_J13_316 : Cond.constantLong RJ13 316 (3689348814741910323) ∈ lw_tbl := tq_sg3 _ (List.mem_of_getElem? (i := 195) rfl)
theorem k_J13_318 : Cond.constantLong RJ13 318 (1085102592571150095) ∈ lw_tbl := tq_sg3 _ (List.mem_of_getElem? (i := 196) rfl)
theorem rJ13_bitCount_95d88_0 : tq_D cJ13_bitCount_95d88 0 (.lload_n 0) 1 1 := ⟨by decide +kernel, rfl⟩
theorem rJ13_bitCount_95d88_1 : tq_D cJ13_bitCount_95d88 1 (.lload_n 0) 1 2 := ⟨by decide +kernel, rfl⟩
theorem rJ13_bitCount_95d88_2 : tq_D cJ13_bitCount_95d88 2 (.iconst 1) 1 3 := ⟨by decide +kernel, rfl⟩
theorem rJ13_bitCount_95d88_3 : tq_D cJ13_bitCount_95d88 3 (.lushr) 1 4 := ⟨by decide +kernel, rfl⟩
theorem rJ13_bitCount_95d88_4 : tq_D cJ13_bitCount_95d88 4 (.ldc2_w 314) 3 7 := ⟨by decide +kernel, rfl⟩
theorem rJ13_bitCount_95d88_7 : tq_D cJ13_bitCount_95d88 7 (.land) 1 8 := ⟨by decide +kernel, rfl⟩
theorem rJ13_bitCount_95d88_8 : tq_D cJ13_bitCount_95d88 8 (.lsub) 1 9 := ⟨by decide +kernel, rfl⟩
theorem rJ13_bitCount_95d88_9 : tq_D cJ13_bitCount_95d88 9 (.lstore_n 0) 1 10 := ⟨by decide +kernel, rfl⟩
theorem rJ13_bitCount_95d88_10 : tq_D cJ13_bitCount_95d88 10 (.lload_n 0) 1 11 := ⟨by decide +kernel, rfl⟩
theorem rJ13_bitCount_95d88_11 : tq_D cJ13_bitCount_95d88 11 (.ldc2_w 316) 3 14 := ⟨by decide +kernel, rfl⟩
theorem rJ13_bitCount_95d88_14 : tq_D cJ13_bitCount_95d88 14 (.land) 1 15 := ⟨by decide +kernel, rfl⟩
theorem rJ13_bitCount_95d88_15 : tq_D cJ13_bitCount_95d88 15 (.lload_n 0) 1 16 := ⟨by decide +kernel, rfl⟩
theorem rJ13_bitCount_95d88_16 : tq_D cJ13_bitCount_95d88 16 (.iconst 2) 1 17 := ⟨by decide +kernel, rfl⟩
theorem rJ13_bitCount_95d88_17 : tq_D cJ13_bitCount_95d88 17 (.lushr) 1 18 := ⟨by decide +kernel, rfl⟩
theorem rJ13_bitCount_95d88_18 : tq_D cJ13_bitCount_95d88 18 (.ldc2_w 316) 3 21 := ⟨by decide +kernel, rfl⟩
theorem rJ13_bitCount_95d88_21 : tq_D cJ13_bitCount_95d88 21 (.land) 1 22 := ⟨by decide +kernel, rfl⟩
theorem rJ13_bitCount_95d88_22 : tq_D cJ13_bitCount_95d88 22 (.ladd) 1 23 := ⟨by decide +kernel, rfl⟩
theorem rJ13_bitCount_95d88_23 : tq_D cJ13_bitCount_95d88 23 (.lstore_n 0) 1 24 := ⟨by decide +kernel, rfl⟩
theorem rJ13_bitCount_95d88_24 : tq_D cJ13_bitCount_95d88 24 (.lload_n 0) 1 25 := ⟨by decide +kernel, rfl⟩
theorem rJ13_bitCount_95d88_25 : tq_D cJ13_bitCount_95d88 25 (.lload_n 0) 1 26 := ⟨by decide +kernel, rfl⟩
theorem rJ13_bitCount_95d88_26 : tq_D cJ13_bitCount_95d88 26 (.iconst 4) 1 27 := ⟨by decide +kernel, rfl⟩
theorem rJ13_bitCount_95d88_27 : tq_D cJ13_bitCount_95d88 27 (.lushr) 1 28 := ⟨by decide +kernel, rfl⟩
theorem rJ13_bitCount_95d88_28 : tq_D cJ13_bitCount_95d88 28 (.ladd) 1 29 := ⟨by decide +kernel, rfl⟩
theorem rJ13_bitCount_95d88_29 : tq_D cJ13_bitCount_95d88 29 (.ldc2_w 318) 3 32 := ⟨by decide +kernel, rfl⟩
theorem rJ13_bitCount_95d88_32 : tq_D cJ13_bitCount_95d88 32 (.land) 1 33 := ⟨by decide +kernel, rfl⟩
theorem rJ13_bitCount_95d88_33 : tq_D cJ13_bitCount_95d88 33 (.lstore_n 0) 1 34 := ⟨by decide +kernel, rfl⟩
theorem rJ13_bitCount_95d88_34 : tq_D cJ13_bitCount_95d88 34 (.lload_n 0) 1 35 := ⟨by decide +kernel, rfl⟩
theorem rJ13_bitCount_95d88_35 : tq_D cJ13_bitCount_95d88 35 (.lload_n 0) 1 36 := ⟨by decide +kernel, rfl⟩
theorem rJ13_bitCount_95d88_36 : tq_D cJ13_bitCount_95d88 36 (.bipush 8) 2 38 := ⟨by decide +kernel, rfl⟩
theorem rJ13_bitCount_95d88_38 : tq_D cJ13_bitCount_95d88 38 (.lushr) 1 39 := ⟨by decide +kernel, rfl⟩
theorem rJ13_bitCount_95d88_39 : tq_D cJ13_bitCount_95d88 39 (.ladd) 1 40 := ⟨by decide +kernel, rfl⟩
theorem rJ13_bitCount_95d88_40 : tq_D cJ13_bitCount_95d88 40 (.lstore_n 0) 1 41 := ⟨by decide +kernel, rfl⟩
theorem rJ13_bitCount_95d88_41 : tq_D cJ13_bitCount_95d88 41 (.lload_n 0) 1 42 := ⟨by decide +kernel, rfl⟩
theorem rJ13_bitCount_95d88_42 : tq_D cJ13_bitCount_95d88 42 (.lload_n 0) 1 43 := ⟨by decide +kernel, rfl⟩
theorem rJ13_bitCount_95d88_43 : tq_D cJ13_bitCount_95d88 43 (.bipush 16) 2 45 := ⟨by decide +kernel, rfl⟩
theorem rJ13_bitCount_95d88_45 : tq_D cJ13_bitCount_95d88 45 (.lushr) 1 46 := ⟨by decide +kernel, rfl⟩
theorem rJ13_bitCount_95d88_46 : tq_D cJ13_bitCount_95d88 46 (.ladd) 1 47 := ⟨by decide +kernel, rfl⟩
theorem rJ13_bitCount_95d88_47 : tq_D cJ13_bitCount_95d88 47 (.lstore_n 0) 1 48 := ⟨by decide +kernel, rfl⟩
theorem rJ13_bitCount_95d88_48 : tq_D cJ13_bitCount_95d88 48 (.lload_n 0) 1 49 := ⟨by decide +kernel, rfl⟩
theorem rJ13_bitCount_95d88_49 : tq_D cJ13_bitCount_95d88 49 (.lload_n 0) 1 50 := ⟨by decide +kernel, rfl⟩
theorem rJ13_bitCount_95d88_50 : tq_D cJ13_bitCount_95d88 50 (.bipush 32) 2 52 := ⟨by decide +kernel, rfl⟩
theorem rJ13_bitCount_95d88_52 : tq_D cJ13_bitCount_95d88 52 (.lushr) 1 53 := ⟨by decide +kernel, rfl⟩
theorem rJ13_bitCount_95d88_53 : tq_D cJ13_bitCount_95d88 53 (.ladd) 1 54 := ⟨by decide +kernel, rfl⟩
theorem rJ13_bitCount_95d88_54 : tq_D cJ13_bitCount_95d88 54 (.lstore_n 0) 1 55 := ⟨by decide +kernel, rfl⟩
theorem rJ13_bitCount_95d88_55 : tq_D cJ13_bitCount_95d88 55 (.lload_n 0) 1 56 := ⟨by decide +kernel, rfl⟩
theorem rJ13_bitCount_95d88_56 : tq_D cJ13_bitCount_95d88 56 (.l2i) 1 57 := ⟨by decide +kernel, rfl⟩
theorem rJ13_bitCount_95d88_57 : tq_D cJ13_bitCount_95d88 57 (.bipush 127) 2 59 := ⟨by decide +kernel, rfl⟩
theorem rJ13_bitCount_95d88_59 : tq_D cJ13_bitCount_95d88 59 (.iand) 1 60 := ⟨by decide +kernel, rfl⟩
theorem rJ13_bitCount_95d88_60 : decode cJ13_bitCount_95d88 60 = .ok (.ireturn, 1) := by decide +kernel
noncomputable def FJ13_bitCount_95d88 (I : tq_PI) (L : tq_PL) (a0 : Int64) : Int32 :=
  ((Int64.toInt32 ((((((((a0 - (((Int64.toUInt64 a0 >>> ((Int32.toInt64 (1 : Int32)).toUInt64 &&& Int64.toUInt64 63)).toInt64) &&& (6148914691236517205 : Int64))) &&& (3689348814741910323 : Int64)) + (((Int64.toUInt64 (a0 - (((Int64.toUInt64 a0 >>> ((Int32.toInt64 (1 : Int32)).toUInt64 &&& Int64.toUInt64 63)).toInt64) &&& (6148914691236517205 : Int64))) >>> ((Int32.toInt64 (2 : Int32)).toUInt64 &&& Int64.toUInt64 63)).toInt64) &&& (3689348814741910323 : Int64))) + ((Int64.toUInt64 (((a0 - (((Int64.toUInt64 a0 >>> ((Int32.toInt64 (1 : Int32)).toUInt64 &&& Int64.toUInt64 63)).toInt64) &&& (6148914691236517205 : Int64))) &&& (3689348814741910323 : Int64)) + (((Int64.toUInt64 (a0 - (((Int64.toUInt64 a0 >>> ((Int32.toInt64 (1 : Int32)).toUInt64 &&& Int64.toUInt64 63)).toInt64) &&& (6148914691236517205 : Int64))) >>> ((Int32.toInt64 (2 : Int32)).toUInt64 &&& Int64.toUInt64 63)).toInt64) &&& (3689348814741910323 : Int64))) >>> ((Int32.toInt64 (4 : Int32)).toUInt64 &&& Int64.toUInt64 63)).toInt64)) &&& (1085102592571150095 : Int64)) + ((Int64.toUInt64 (((((a0 - (((Int64.toUInt64 a0 >>> ((Int32.toInt64 (1 : Int32)).toUInt64 &&& Int64.toUInt64 63)).toInt64) &&& (6148914691236517205 : Int64))) &&& (3689348814741910323 : Int64)) + (((Int64.toUInt64 (a0 - (((Int64.toUInt64 a0 >>> ((Int32.toInt64 (1 : Int32)).toUInt64 &&& Int64.toUInt64 63)).toInt64) &&& (6148914691236517205 : Int64))) >>> ((Int32.toInt64 (2 : Int32)).toUInt64 &&& Int64.toUInt64 63)).toInt64) &&& (3689348814741910323 : Int64))) + ((Int64.toUInt64 (((a0 - (((Int64.toUInt64 a0 >>> ((Int32.toInt64 (1 : Int32)).toUInt64 &&& Int64.toUInt64 63)).toInt64) &&& (6148914691236517205 : Int64))) &&& (3689348814741910323 : Int64)) + (((Int64.toUInt64 (a0 - (((Int64.toUInt64 a0 >>> ((Int32.toInt64 (1 : Int32)).toUInt64 &&& Int64.toUInt64 63)).toInt64) &&& (6148914691236517205 : Int64))) >>> ((Int32.toInt64 (2 : Int32)).toUInt64 &&& Int64.toUInt64 63)).toInt64) &&& (3689348814741910323 : Int64))) >>> ((Int32.toInt64 (4 : Int32)).toUInt64 &&& Int64.toUInt64 63)).toInt64)) &&& (1085102592571150095 : Int64)) >>> ((Int32.toInt64 (8 : Int32)).toUInt64 &&& Int64.toUInt64 63)).toInt64)) + ((Int64.toUInt64 ((((((a0 - (((Int64.toUInt64 a0 >>> ((Int32.toInt64 (1 : Int32)).toUInt64 &&& Int64.toUInt64 63)).toInt64) &&& (6148914691236517205 : Int64))) &&& (3689348814741910323 : Int64)) + (((Int64.toUInt64 (a0 - (((Int64.toUInt64 a0 >>> ((Int32.toInt64 (1 : Int32)).toUInt64 &&& Int64.toUInt64 63)).toInt64) &&& (6148914691236517205 : Int64))) >>> ((Int32.toInt64 (2 : Int32)).toUInt64 &&& Int64.toUInt64 63)).toInt64) &&& (3689348814741910323 : Int64))) + ((Int64.toUInt64 (((a0 - (((Int64.toUInt64 a0 >>> ((Int32.toInt64 (1 : Int32)).toUInt64 &&& Int64.toUInt64 63)).toInt64) &&& (6148914691236517205 : Int64))) &&& (3689348814741910323 : Int64)) + (((Int64.toUInt64 (a0 - (((Int64.toUInt64 a0 >>> ((Int32.toInt64 (1 : Int32)).toUInt64 &&& Int64.toUInt64 63)).toInt64) &&& (6148914691236517205 : Int64))) >>> ((Int32.toInt64 (2 : Int32)).toUInt64 &&& Int64.toUInt64 63)).toInt64) &&& (3689348814741910323 : Int64))) >>> ((Int32.toInt64 (4 : Int32)).toUInt64 &&& Int64.toUInt64 63)).toInt64)) &&& (1085102592571150095 : Int64)) + ((Int64.toUInt64 (((((a0 - (((Int64.toUInt64 a0 >>> ((Int32.toInt64 (1 : Int32)).toUInt64 &&& Int64.toUInt64 63)).toInt64) &&& (6148914691236517205 : Int64))) &&& (3689348814741910323 : Int64)) + (((Int64.toUInt64 (a0 - (((Int64.toUInt64 a0 >>> ((Int32.toInt64 (1 : Int32)).toUInt64 &&& Int64.toUInt64 63)).toInt64) &&& (6148914691236517205 : Int64))) >>> ((Int32.toInt64 (2 : Int32)).toUInt64 &&& Int64.toUInt64 63)).toInt64) &&& (3689348814741910323 : Int64))) + ((Int64.toUInt64 (((a0 - (((Int64.toUInt64 a0 >>> ((Int32.toInt64 (1 : Int32)).toUInt64 &&& Int64.toUInt64 63)).toInt64) &&& (6148914691236517205 : Int64))) &&& (3689348814741910323 : Int64)) + (((Int64.toUInt64 (a0 - (((Int64.toUInt64 a0 >>> ((Int32.toInt64 (1 : Int32)).toUInt64 &&& Int64.toUInt64 63)).toInt64) &&& (6148914691236517205 : Int64))) >>> ((Int32.toInt64 (2 : Int32)).toUInt64 &&& Int64.toUInt64 63)).toInt64) &&& (3689348814741910323 : Int64))) >>> ((Int32.toInt64 (4 : Int32)).toUInt64 &&& Int64.toUInt64 63)).toInt64)) &&& (1085102592571150095 : Int64)) >>> ((Int32.toInt64 (8 : Int32)).toUInt64 &&& Int64.toUInt64 63)).toInt64)) >>> ((Int32.toInt64 (16 : Int32)).toUInt64 &&& Int64.toUInt64 63)).toInt64)) + ((Int64.toUInt64 (((((((a0 - (((Int64.toUInt64 a0 >>> ((Int32.toInt64 (1 : Int32)).toUInt64 &&& Int64.toUInt64 63)).toInt64) &&& (6148914691236517205 : Int64))) &&& (3689348814741910323 : Int64)) + (((Int64.toUInt64 (a0 - (((Int64.toUInt64 a0 >>> ((Int32.toInt64 (1 : Int32)).toUInt64 &&& Int64.toUInt64 63)).toInt64) &&& (6148914691236517205 : Int64))) >>> ((Int32.toInt64 (2 : Int32)).toUInt64 &&& Int64.toUInt64 63)).toInt64) &&& (3689348814741910323 : Int64))) + ((Int64.toUInt64 (((a0 - (((Int64.toUInt64 a0 >>> ((Int32.toInt64 (1 : Int32)).toUInt64 &&& Int64.toUInt64 63)).toInt64) &&& (6148914691236517205 : Int64))) &&& (3689348814741910323 : Int64)) + (((Int64.toUInt64 (a0 - (((Int64.toUInt64 a0 >>> ((Int32.toInt64 (1 : Int32)).toUInt64 &&& Int64.toUInt64 63)).toInt64) &&& (6148914691236517205 : Int64))) >>> ((Int32.toInt64 (2 : Int32)).toUInt64 &&& Int64.toUInt64 63)).toInt64) &&& (3689348814741910323 : Int64))) >>> ((Int32.toInt64 (4 : Int32)).toUInt64 &&& Int64.toUInt64 63)).toInt64)) &&& (1085102592571150095 : Int64)) + ((Int64.toUInt64 (((((a0 - (((Int64.toUInt64 a0 >>> ((Int32.toInt64 (1 : Int32)).toUInt64 &&& Int64.toUInt64 63)).toInt64) &&& (6148914691236517205 : Int64))) &&& (3689348814741910323 : Int64)) + (((Int64.toUInt64 (a0 - (((Int64.toUInt64 a0 >>> ((Int32.toInt64 (1 : Int32)).toUInt64 &&& Int64.toUInt64 63)).toInt64) &&& (6148914691236517205 : Int64))) >>> ((Int32.toInt64 (2 : Int32)).toUInt64 &&& Int64.toUInt64 63)).toInt64) &&& (3689348814741910323 : Int64))) + ((Int64.toUInt64 (((a0 - (((Int64.toUInt64 a0 >>> ((Int32.toInt64 (1 : Int32)).toUInt64 &&& Int64.toUInt64 63)).toInt64) &&& (6148914691236517205 : Int64))) &&& (3689348814741910323 : Int64)) + (((Int64.toUInt64 (a0 - (((Int64.toUInt64 a0 >>> ((Int32.toInt64 (1 : Int32)).toUInt64 &&& Int64.toUInt64 63)).toInt64) &&& (6148914691236517205 : Int64))) >>> ((Int32.toInt64 (2 : Int32)).toUInt64 &&& Int64.toUInt64 63)).toInt64) &&& (3689348814741910323 : Int64))) >>> ((Int32.toInt64 (4 : Int32)).toUInt64 &&& Int64.toUInt64 63)).toInt64)) &&& (1085102592571150095 : Int64)) >>> ((Int32.toInt64 (8 : Int32)).toUInt64 &&& Int64.toUInt64 63)).toInt64)) + ((Int64.toUInt64 ((((((a0 - (((Int64.toUInt64 a0 >>> ((Int32.toInt64 (1 : Int32)).toUInt64 &&& Int64.toUInt64 63)).toInt64) &&& (6148914691236517205 : Int64))) &&& (3689348814741910323 : Int64)) + (((Int64.toUInt64 (a0 - (((Int64.toUInt64 a0 >>> ((Int32.toInt64 (1 : Int32)).toUInt64 &&& Int64.toUInt64 63)).toInt64) &&& (6148914691236517205 : Int64))) >>> ((Int32.toInt64 (2 : Int32)).toUInt64 &&& Int64.toUInt64 63)).toInt64) &&& (3689348814741910323 : Int64))) + ((Int64.toUInt64 (((a0 - (((Int64.toUInt64 a0 >>> ((Int32.toInt64 (1 : Int32)).toUInt64 &&& Int64.toUInt64 63)).toInt64) &&& (6148914691236517205 : Int64))) &&& (3689348814741910323 : Int64)) + (((Int64.toUInt64 (a0 - (((Int64.toUInt64 a0 >>> ((Int32.toInt64 (1 : Int32)).toUInt64 &&& Int64.toUInt64 63)).toInt64) &&& (6148914691236517205 : Int64))) >>> ((Int32.toInt64 (2 : Int32)).toUInt64 &&& Int64.toUInt64 63)).toInt64) &&& (3689348814741910323 : Int64))) >>> ((Int32.toInt64 (4 : Int32)).toUInt64 &&& Int64.toUInt64 63)).toInt64)) &&& (1085102592571150095 : Int64)) + ((Int64.toUInt64 (((((a0 - (((Int64.toUInt64 a0 >>> ((Int32.toInt64 (1 : Int32)).toUInt64 &&& Int64.toUInt64 63)).toInt64) &&& (6148914691236517205 : Int64))) &&& (3689348814741910323 : Int64)) + (((Int64.toUInt64 (a0 - (((Int64.toUInt64 a0 >>> ((Int32.toInt64 (1 : Int32)).toUInt64 &&& Int64.toUInt64 63)).toInt64) &&& (6148914691236517205 : Int64))) >>> ((Int32.toInt64 (2 : Int32)).toUInt64 &&& Int64.toUInt64 63)).toInt64) &&& (3689348814741910323 : Int64))) + ((Int64.toUInt64 (((a0 - (((Int64.toUInt64 a0 >>> ((Int32.toInt64 (1 : Int32)).toUInt64 &&& Int64.toUInt64 63)).toInt64) &&& (6148914691236517205 : Int64))) &&& (3689348814741910323 : Int64)) + (((Int64.toUInt64 (a0 - (((Int64.toUInt64 a0 >>> ((Int32.toInt64 (1 : Int32)).toUInt64 &&& Int64.toUInt64 63)).toInt64) &&& (6148914691236517205 : Int64))) >>> ((Int32.toInt64 (2 : Int32)).toUInt64 &&& Int64.toUInt64 63)).toInt64) &&& (3689348814741910323 : Int64))) >>> ((Int32.toInt64 (4 : Int32)).toUInt64 &&& Int64.toUInt64 63)).toInt64)) &&& (1085102592571150095 : Int64)) >>> ((Int32.toInt64 (8 : Int32)).toUInt64 &&& Int64.toUInt64 63)).toInt64)) >>> ((Int32.toInt64 (16 : Int32)).toUInt64 &&& Int64.toUInt64 63)).toInt64)) >>> ((Int32.toInt64 (32 : Int32)).toUInt64 &&& Int64.toUInt64 63)).toInt64))) &&& (127 : Int32))
set_option maxRecDepth 100000 in
set_option maxHeartbeats 4000000 in
theorem CJ13_bitCount_95d88 {S : Nat × (Nat → Int32)} {d : Nat} {I : tq_PI} {L : tq_PL} {a0 : Int64}  {out : Int32} (hf : FJ13_bitCount_95d88 I L a0 = out) : tq_K S mJ13_bitCount_95d88 d [.long a0] I L (tq_one2 (some (.int out)) I L) := by
  unfold FJ13_bitCount_95d88 at hf
  refine tq_K_of (by decide) (Nat.le_of_ble_eq_true rfl) (ls := [.long a0, tq_u]) rfl ?_
  refine tq_lload_n rJ13_bitCount_95d88_0 rfl ?_
  refine tq_lload_n rJ13_bitCount_95d88_1 rfl ?_
  refine tq_iconst (1 : Int32) rJ13_bitCount_95d88_2 (by decide) ?_
  refine tq_lushr rJ13_bitCount_95d88_3 ?_
  refine tq_ldc2 rJ13_bitCount_95d88_4 (k_J13_314) ?_
  refine tq_land rJ13_bitCount_95d88_7 ?_
  refine tq_lsub rJ13_bitCount_95d88_8 ?_
  refine tq_lstore_n ([.long (a0 - (((Int64.toUInt64 a0 >>> ((Int32.toInt64 (1 : Int32)).toUInt64 &&& Int64.toUInt64 63)).toInt64) &&& (6148914691236517205 : Int64))), tq_u]) rJ13_bitCount_95d88_9 (Nat.le_of_ble_eq_true rfl) rfl ?_
  refine tq_lload_n rJ13_bitCount_95d88_10 rfl ?_
  refine tq_ldc2 rJ13_bitCount_95d88_11 (k_J13_316) ?_
  refine tq_land rJ13_bitCount_95d88_14 ?_
  refine tq_lload_n rJ13_bitCount_95d88_15 rfl ?_
  refine tq_iconst (2 : Int32) rJ13_bitCount_95d88_16 (by decide) ?_
  refine tq_lushr rJ13_bitCount_95d88_17 ?_
  refine tq_ldc2 rJ13_bitCount_95d88_18 (k_J13_316) ?_
  refine tq_land rJ13_bitCount_95d88_21 ?_
  refine tq_ladd rJ13_bitCount_95d88_22 ?_
  refine tq_lstore_n ([.long (((a0 - (((Int64.toUInt64 a0 >>> ((Int32.toInt64 (1 : Int32)).toUInt64 &&& Int64.toUInt64 63)).toInt64) &&& (6148914691236517205 : Int64))) &&& (3689348814741910323 : Int64)) + (((Int64.toUInt64 (a0 - (((Int64.toUInt64 a0 >>> ((Int32.toInt64 (1 : Int32)).toUInt64 &&& Int64.toUInt64 63)).toInt64) &&& (6148914691236517205 : Int64))) >>> ((Int32.toInt64 (2 : Int32)).toUInt64 &&& Int64.toUInt64 63)).toInt64) &&& (3689348814741910323 : Int64))), tq_u]) rJ13_bitCount_95d88_23 (Nat.le_of_ble_eq_true rfl) rfl ?_
  refine tq_lload_n rJ13_bitCount_95d88_24 rfl ?_
  refine tq_lload_n rJ13_bitCount_95d88_25 rfl ?_
  refine tq_iconst (4 : Int32) rJ13_bitCount_95d88_26 (by decide) ?_
  refine tq_lushr rJ13_bitCount_95d88_27 ?_
  refine tq_ladd rJ13_bitCount_95d88_28 ?_
  refine tq_ldc2 rJ13_bitCount_95d88_29 (k_J13_318) ?_
  refine tq_land rJ13_bitCount_95d88_32 ?_
  refine tq_lstore_n ([.long (((((a0 - (((Int64.toUInt64 a0 >>> ((Int32.toInt64 (1 : Int32)).toUInt64 &&& Int64.toUInt64 63)).toInt64) &&& (6148914691236517205 : Int64))) &&& (3689348814741910323 : Int64)) + (((Int64.toUInt64 (a0 - (((Int64.toUInt64 a0 >>> ((Int32.toInt64 (1 : Int32)).toUInt64 &&& Int64.toUInt64 63)).toInt64) &&& (6148914691236517205 : Int64))) >>> ((Int32.toInt64 (2 : Int32)).toUInt64 &&& Int64.toUInt64 63)).toInt64) &&& (3689348814741910323 : Int64))) + ((Int64.toUInt64 (((a0 - (((Int64.toUInt64 a0 >>> ((Int32.toInt64 (1 : Int32)).toUInt64 &&& Int64.toUInt64 63)).toInt64) &&& (6148914691236517205 : Int64))) &&& (3689348814741910323 : Int64)) + (((Int64.toUInt64 (a0 - (((Int64.toUInt64 a0 >>> ((Int32.toInt64 (1 : Int32)).toUInt64 &&& Int64.toUInt64 63)).toInt64) &&& (6148914691236517205 : Int64))) >>> ((Int32.toInt64 (2 : Int32)).toUInt64 &&& Int64.toUInt64 63)).toInt64) &&& (3689348814741910323 : Int64))) >>> ((Int32.toInt64 (4 : Int32)).toUInt64 &&& Int64.toUInt64 63)).toInt64)) &&& (1085102592571150095 : Int64)), tq_u]) rJ13_bitCount_95d88_33 (Nat.le_of_ble_eq_true rfl) rfl ?_
  refine tq_lload_n rJ13_bitCount_95d88_34 rfl ?_
  refine tq_lload_n rJ13_bitCount_95d88_35 rfl ?_
  refine tq_bipush (8 : Int32) rJ13_bitCount_95d88_36 (by decide) ?_
  refine tq_lushr rJ13_bitCount_95d88_38 ?_
  refine tq_ladd rJ13_bitCount_95d88_39 ?_
  refine tq_lstore_n ([.long ((((((a0 - (((Int64.toUInt64 a0 >>> ((Int32.toInt64 (1 : Int32)).toUInt64 &&& Int64.toUInt64 63)).toInt64) &&& (6148914691236517205 : Int64))) &&& (3689348814741910323 : Int64)) + (((Int64.toUInt64 (a0 - (((Int64.toUInt64 a0 >>> ((Int32.toInt64 (1 : Int32)).toUInt64 &&& Int64.toUInt64 63)).toInt64) &&& (6148914691236517205 : Int64))) >>> ((Int32.toInt64 (2 : Int32)).toUInt64 &&& Int64.toUInt64 63)).toInt64) &&& (3689348814741910323 : Int64))) + ((Int64.toUInt64 (((a0 - (((Int64.toUInt64 a0 >>> ((Int32.toInt64 (1 : Int32)).toUInt64 &&& Int64.toUInt64 63)).toInt64) &&& (6148914691236517205 : Int64))) &&& (3689348814741910323 : Int64)) + (((Int64.toUInt64 (a0 - (((Int64.toUInt64 a0 >>> ((Int32.toInt64 (1 : Int32)).toUInt64 &&& Int64.toUInt64 63)).toInt64) &&& (6148914691236517205 : Int64))) >>> ((Int32.toInt64 (2 : Int32)).toUInt64 &&& Int64.toUInt64 63)).toInt64) &&& (3689348814741910323 : Int64))) >>> ((Int32.toInt64 (4 : Int32)).toUInt64 &&& Int64.toUInt64 63)).toInt64)) &&& (1085102592571150095 : Int64)) + ((Int64.toUInt64 (((((a0 - (((Int64.toUInt64 a0 >>> ((Int32.toInt64 (1 : Int32)).toUInt64 &&& Int64.toUInt64 63)).toInt64) &&& (6148914691236517205 : Int64))) &&& (3689348814741910323 : Int64)) + (((Int64.toUInt64 (a0 - (((Int64.toUInt64 a0 >>> ((Int32.toInt64 (1 : Int32)).toUInt64 &&& Int64.toUInt64 63)).toInt64) &&& (6148914691236517205 : Int64))) >>> ((Int32.toInt64 (2 : Int32)).toUInt64 &&& Int64.toUInt64 63)).toInt64) &&& (3689348814741910323 : Int64))) + ((Int64.toUInt64 (((a0 - (((Int64.toUInt64 a0 >>> ((Int32.toInt64 (1 : Int32)).toUInt64 &&& Int64.toUInt64 63)).toInt64) &&& (6148914691236517205 : Int64))) &&& (3689348814741910323 : Int64)) + (((Int64.toUInt64 (a0 - (((Int64.toUInt64 a0 >>> ((Int32.toInt64 (1 : Int32)).toUInt64 &&& Int64.toUInt64 63)).toInt64) &&& (6148914691236517205 : Int64))) >>> ((Int32.toInt64 (2 : Int32)).toUInt64 &&& Int64.toUInt64 63)).toInt64) &&& (3689348814741910323 : Int64))) >>> ((Int32.toInt64 (4 : Int32)).toUInt64 &&& Int64.toUInt64 63)).toInt64)) &&& (1085102592571150095 : Int64)) >>> ((Int32.toInt64 (8 : Int32)).toUInt64 &&& Int64.toUInt64 63)).toInt64)), tq_u]) rJ13_bitCount_95d88_40 (Nat.le_of_ble_eq_true rfl) rfl ?_
  refine tq_lload_n rJ13_bitCount_95d88_41 rfl ?_
  refine tq_lload_n rJ13_bitCount_95d88_42 rfl ?_
  refine tq_bipush (16 : Int32) rJ13_bitCount_95d88_43 (by decide) ?_
  refine tq_lushr rJ13_bitCount_95d88_45 ?_
  refine tq_ladd rJ13_bitCount_95d88_46 ?_
  refine tq_lstore_n ([.long (((((((a0 - (((Int64.toUInt64 a0 >>> ((Int32.toInt64 (1 : Int32)).toUInt64 &&& Int64.toUInt64 63)).toInt64) &&& (6148914691236517205 : Int64))) &&& (3689348814741910323 : Int64)) + (((Int64.toUInt64 (a0 - (((Int64.toUInt64 a0 >>> ((Int32.toInt64 (1 : Int32)).toUInt64 &&& Int64.toUInt64 63)).toInt64) &&& (6148914691236517205 : Int64))) >>> ((Int32.toInt64 (2 : Int32)).toUInt64 &&& Int64.toUInt64 63)).toInt64) &&& (3689348814741910323 : Int64))) + ((Int64.toUInt64 (((a0 - (((Int64.toUInt64 a0 >>> ((Int32.toInt64 (1 : Int32)).toUInt64 &&& Int64.toUInt64 63)).toInt64) &&& (6148914691236517205 : Int64))) &&& (3689348814741910323 : Int64)) + (((Int64.toUInt64 (a0 - (((Int64.toUInt64 a0 >>> ((Int32.toInt64 (1 : Int32)).toUInt64 &&& Int64.toUInt64 63)).toInt64) &&& (6148914691236517205 : Int64))) >>> ((Int32.toInt64 (2 : Int32)).toUInt64 &&& Int64.toUInt64 63)).toInt64) &&& (3689348814741910323 : Int64))) >>> ((Int32.toInt64 (4 : Int32)).toUInt64 &&& Int64.toUInt64 63)).toInt64)) &&& (1085102592571150095 : Int64)) + ((Int64.toUInt64 (((((a0 - (((Int64.toUInt64 a0 >>> ((Int32.toInt64 (1 : Int32)).toUInt64 &&& Int64.toUInt64 63)).toInt64) &&& (6148914691236517205 : Int64))) &&& (3689348814741910323 : Int64)) + (((Int64.toUInt64 (a0 - (((Int64.toUInt64 a0 >>> ((Int32.toInt64 (1 : Int32)).toUInt64 &&& Int64.toUInt64 63)).toInt64) &&& (6148914691236517205 : Int64))) >>> ((Int32.toInt64 (2 : Int32)).toUInt64 &&& Int64.toUInt64 63)).toInt64) &&& (3689348814741910323 : Int64))) + ((Int64.toUInt64 (((a0 - (((Int64.toUInt64 a0 >>> ((Int32.toInt64 (1 : Int32)).toUInt64 &&& Int64.toUInt64 63)).toInt64) &&& (6148914691236517205 : Int64))) &&& (3689348814741910323 : Int64)) + (((Int64.toUInt64 (a0 - (((Int64.toUInt64 a0 >>> ((Int32.toInt64 (1 : Int32)).toUInt64 &&& Int64.toUInt64 63)).toInt64) &&& (6148914691236517205 : Int64))) >>> ((Int32.toInt64 (2 : Int32)).toUInt64 &&& Int64.toUInt64 63)).toInt64) &&& (3689348814741910323 : Int64))) >>> ((Int32.toInt64 (4 : Int32)).toUInt64 &&& Int64.toUInt64 63)).toInt64)) &&& (1085102592571150095 : Int64)) >>> ((Int32.toInt64 (8 : Int32)).toUInt64 &&& Int64.toUInt64 63)).toInt64)) + ((Int64.toUInt64 ((((((a0 - (((Int64.toUInt64 a0 >>> ((Int32.toInt64 (1 : Int32)).toUInt64 &&& Int64.toUInt64 63)).toInt64) &&& (6148914691236517205 : Int64))) &&& (3689348814741910323 : Int64)) + (((Int64.toUInt64 (a0 - (((Int64.toUInt64 a0 >>> ((Int32.toInt64 (1 : Int32)).toUInt64 &&& Int64.toUInt64 63)).toInt64) &&& (6148914691236517205 : Int64))) >>> ((Int32.toInt64 (2 : Int32)).toUInt64 &&& Int64.toUInt64 63)).toInt64) &&& (3689348814741910323 : Int64))) + ((Int64.toUInt64 (((a0 - (((Int64.toUInt64 a0 >>> ((Int32.toInt64 (1 : Int32)).toUInt64 &&& Int64.toUInt64 63)).toInt64) &&& (6148914691236517205 : Int64))) &&& (3689348814741910323 : Int64)) + (((Int64.toUInt64 (a0 - (((Int64.toUInt64 a0 >>> ((Int32.toInt64 (1 : Int32)).toUInt64 &&& Int64.toUInt64 63)).toInt64) &&& (6148914691236517205 : Int64))) >>> ((Int32.toInt64 (2 : Int32)).toUInt64 &&& Int64.toUInt64 63)).toInt64) &&& (3689348814741910323 : Int64))) >>> ((Int32.toInt64 (4 : Int32)).toUInt64 &&& Int64.toUInt64 63)).toInt64)) &&& (1085102592571150095 : Int64)) + ((Int64.toUInt64 (((((a0 - (((Int64.toUInt64 a0 >>> ((Int32.toInt64 (1 : Int32)).toUInt64 &&& Int64.toUInt64 63)).toInt64) &&& (6148914691236517205 : Int64))) &&& (3689348814741910323 : Int64)) + (((Int64.toUInt64 (a0 - (((Int64.toUInt64 a0 >>> ((Int32.toInt64 (1 : Int32)).toUInt64 &&& Int64.toUInt64 63)).toInt64) &&& (6148914691236517205 : Int64))) >>> ((Int32.toInt64 (2 : Int32)).toUInt64 &&& Int64.toUInt64 63)).toInt64) &&& (3689348814741910323 : Int64))) + ((Int64.toUInt64 (((a0 - (((Int64.toUInt64 a0 >>> ((Int32.toInt64 (1 : Int32)).toUInt64 &&& Int64.toUInt64 63)).toInt64) &&& (6148914691236517205 : Int64))) &&& (3689348814741910323 : Int64)) + (((Int64.toUInt64 (a0 - (((Int64.toUInt64 a0 >>> ((Int32.toInt64 (1 : Int32)).toUInt64 &&& Int64.toUInt64 63)).toInt64) &&& (6148914691236517205 : Int64))) >>> ((Int32.toInt64 (2 : Int32)).toUInt64 &&& Int64.toUInt64 63)).toInt64) &&& (3689348814741910323 : Int64))) >>> ((Int32.toInt64 (4 : Int32)).toUInt64 &&& Int64.toUInt64 63)).toInt64)) &&& (1085102592571150095 : Int64)) >>> ((Int32.toInt64 (8 : Int32)).toUInt64 &&& Int64.toUInt64 63)).toInt64)) >>> ((Int32.toInt64 (16 : Int32)).toUInt64 &&& Int64.toUInt64 63)).toInt64)), tq_u]) rJ13_bitCount_95d88_47 (Nat.le_of_ble_eq_true rfl) rfl ?_
  refine tq_lload_n rJ13_bitCount_95d88_48 rfl ?_
  refine tq_lload_n rJ13_bitCount_95d88_49 rfl ?_
  refine tq_bipush (32 : Int32) rJ13_bitCount_95d88_50 (by decide) ?_
  refine tq_lushr rJ13_bitCount_95d88_52 ?_
  refine tq_ladd rJ13_bitCount_95d88_53 ?_
  refine tq_lstore_n ([.long ((((((((a0 - (((Int64.toUInt64 a0 >>> ((Int32.toInt64 (1 : Int32)).toUInt64 &&& Int64.toUInt64 63)).toInt64) &&& (6148914691236517205 : Int64))) &&& (3689348814741910323 : Int64)) + (((Int64.toUInt64 (a0 - (((Int64.toUInt64 a0 >>> ((Int32.toInt64 (1 : Int32)).toUInt64 &&& Int64.toUInt64 63)).toInt64) &&& (6148914691236517205 : Int64))) >>> ((Int32.toInt64 (2 : Int32)).toUInt64 &&& Int64.toUInt64 63)).toInt64) &&& (3689348814741910323 : Int64))) + ((Int64.toUInt64 (((a0 - (((Int64.toUInt64 a0 >>> ((Int32.toInt64 (1 : Int32)).toUInt64 &&& Int64.toUInt64 63)).toInt64) &&& (6148914691236517205 : Int64))) &&& (3689348814741910323 : Int64)) + (((Int64.toUInt64 (a0 - (((Int64.toUInt64 a0 >>> ((Int32.toInt64 (1 : Int32)).toUInt64 &&& Int64.toUInt64 63)).toInt64) &&& (6148914691236517205 : Int64))) >>> ((Int32.toInt64 (2 : Int32)).toUInt64 &&& Int64.toUInt64 63)).toInt64) &&& (3689348814741910323 : Int64))) >>> ((Int32.toInt64 (4 : Int32)).toUInt64 &&& Int64.toUInt64 63)).toInt64)) &&& (1085102592571150095 : Int64)) + ((Int64.toUInt64 (((((a0 - (((Int64.toUInt64 a0 >>> ((Int32.toInt64 (1 : Int32)).toUInt64 &&& Int64.toUInt64 63)).toInt64) &&& (6148914691236517205 : Int64))) &&& (3689348814741910323 : Int64)) + (((Int64.toUInt64 (a0 - (((Int64.toUInt64 a0 >>> ((Int32.toInt64 (1 : Int32)).toUInt64 &&& Int64.toUInt64 63)).toInt64) &&& (6148914691236517205 : Int64))) >>> ((Int32.toInt64 (2 : Int32)).toUInt64 &&& Int64.toUInt64 63)).toInt64) &&& (3689348814741910323 : Int64))) + ((Int64.toUInt64 (((a0 - (((Int64.toUInt64 a0 >>> ((Int32.toInt64 (1 : Int32)).toUInt64 &&& Int64.toUInt64 63)).toInt64) &&& (6148914691236517205 : Int64))) &&& (3689348814741910323 : Int64)) + (((Int64.toUInt64 (a0 - (((Int64.toUInt64 a0 >>> ((Int32.toInt64 (1 : Int32)).toUInt64 &&& Int64.toUInt64 63)).toInt64) &&& (6148914691236517205 : Int64))) >>> ((Int32.toInt64 (2 : Int32)).toUInt64 &&& Int64.toUInt64 63)).toInt64) &&& (3689348814741910323 : Int64))) >>> ((Int32.toInt64 (4 : Int32)).toUInt64 &&& Int64.toUInt64 63)).toInt64)) &&& (1085102592571150095 : Int64)) >>> ((Int32.toInt64 (8 : Int32)).toUInt64 &&& Int64.toUInt64 63)).toInt64)) + ((Int64.toUInt64 ((((((a0 - (((Int64.toUInt64 a0 >>> ((Int32.toInt64 (1 : Int32)).toUInt64 &&& Int64.toUInt64 63)).toInt64) &&& (6148914691236517205 : Int64))) &&& (3689348814741910323 : Int64)) + (((Int64.toUInt64 (a0 - (((Int64.toUInt64 a0 >>> ((Int32.toInt64 (1 : Int32)).toUInt64 &&& Int64.toUInt64 63)).toInt64) &&& (6148914691236517205 : Int64))) >>> ((Int32.toInt64 (2 : Int32)).toUInt64 &&& Int64.toUInt64 63)).toInt64) &&& (3689348814741910323 : Int64))) + ((Int64.toUInt64 (((a0 - (((Int64.toUInt64 a0 >>> ((Int32.toInt64 (1 : Int32)).toUInt64 &&& Int64.toUInt64 63)).toInt64) &&& (6148914691236517205 : Int64))) &&& (3689348814741910323 : Int64)) + (((Int64.toUInt64 (a0 - (((Int64.toUInt64 a0 >>> ((Int32.toInt64 (1 : Int32)).toUInt64 &&& Int64.toUInt64 63)).toInt64) &&& (6148914691236517205 : Int64))) >>> ((Int32.toInt64 (2 : Int32)).toUInt64 &&& Int64.toUInt64 63)).toInt64) &&& (3689348814741910323 : Int64))) >>> ((Int32.toInt64 (4 : Int32)).toUInt64 &&& Int64.toUInt64 63)).toInt64)) &&& (1085102592571150095 : Int64)) + ((Int64.toUInt64 (((((a0 - (((Int64.toUInt64 a0 >>> ((Int32.toInt64 (1 : Int32)).toUInt64 &&& Int64.toUInt64 63)).toInt64) &&& (6148914691236517205 : Int64))) &&& (3689348814741910323 : Int64)) + (((Int64.toUInt64 (a0 - (((Int64.toUInt64 a0 >>> ((Int32.toInt64 (1 : Int32)).toUInt64 &&& Int64.toUInt64 63)).toInt64) &&& (6148914691236517205 : Int64))) >>> ((Int32.toInt64 (2 : Int32)).toUInt64 &&& Int64.toUInt64 63)).toInt64) &&& (3689348814741910323 : Int64))) + ((Int64.toUInt64 (((a0 - (((Int64.toUInt64 a0 >>> ((Int32.toInt64 (1 : Int32)).toUInt64 &&& Int64.toUInt64 63)).toInt64) &&& (6148914691236517205 : Int64))) &&& (3689348814741910323 : Int64)) + (((Int64.toUInt64 (a0 - (((Int64.toUInt64 a0 >>> ((Int32.toInt64 (1 : Int32)).toUInt64 &&& Int64.toUInt64 63)).toInt64) &&& (6148914691236517205 : Int64))) >>> ((Int32.toInt64 (2 : Int32)).toUInt64 &&& Int64.toUInt64 63)).toInt64) &&& (3689348814741910323 : Int64))) >>> ((Int32.toInt64 (4 : Int32)).toUInt64 &&& Int64.toUInt64 63)).toInt64)) &&& (1085102592571150095 : Int64)) >>> ((Int32.toInt64 (8 : Int32)).toUInt64 &&& Int64.toUInt64 63)).toInt64)) >>> ((Int32.toInt64 (16 : Int32)).toUInt64 &&& Int64.toUInt64 63)).toInt64)) + ((Int64.toUInt64 (((((((a0 - (((Int64.toUInt64 a0 >>> ((Int32.toInt64 (1 : Int32)).toUInt64 &&& Int64.toUInt64 63)).toInt64) &&& (6148914691236517205 : Int64))) &&& (3689348814741910323 : Int64)) + (((Int64.toUInt64 (a0 - (((Int64.toUInt64 a0 >>> ((Int32.toInt64 (1 : Int32)).toUInt64 &&& Int64.toUInt64 63)).toInt64) &&& (6148914691236517205 : Int64))) >>> ((Int32.toInt64 (2 : Int32)).toUInt64 &&& Int64.toUInt64 63)).toInt64) &&& (3689348814741910323 : Int64))) + ((Int64.toUInt64 (((a0 - (((Int64.toUInt64 a0 >>> ((Int32.toInt64 (1 : Int32)).toUInt64 &&& Int64.toUInt64 63)).toInt64) &&& (6148914691236517205 : Int64))) &&& (3689348814741910323 : Int64)) + (((Int64.toUInt64 (a0 - (((Int64.toUInt64 a0 >>> ((Int32.toInt64 (1 : Int32)).toUInt64 &&& Int64.toUInt64 63)).toInt64) &&& (6148914691236517205 : Int64))) >>> ((Int32.toInt64 (2 : Int32)).toUInt64 &&& Int64.toUInt64 63)).toInt64) &&& (3689348814741910323 : Int64))) >>> ((Int32.toInt64 (4 : Int32)).toUInt64 &&& Int64.toUInt64 63)).toInt64)) &&& (1085102592571150095 : Int64)) + ((Int64.toUInt64 (((((a0 - (((Int64.toUInt64 a0 >>> ((Int32.toInt64 (1 : Int32)).toUInt64 &&& Int64.toUInt64 63)).toInt64) &&& (6148914691236517205 : Int64))) &&& (3689348814741910323 : Int64)) + (((Int64.toUInt64 (a0 - (((Int64.toUInt64 a0 >>> ((Int32.toInt64 (1 : Int32)).toUInt64 &&& Int64.toUInt64 63)).toInt64) &&& (6148914691236517205 : Int64))) >>> ((Int32.toInt64 (2 : Int32)).toUInt64 &&& Int64.toUInt64 63)).toInt64) &&& (3689348814741910323 : Int64))) + ((Int64.toUInt64 (((a0 - (((Int64.toUInt64 a0 >>> ((Int32.toInt64 (1 : Int32)).toUInt64 &&& Int64.toUInt64 63)).toInt64) &&& (6148914691236517205 : Int64))) &&& (3689348814741910323 : Int64)) + (((Int64.toUInt64 (a0 - (((Int64.toUInt64 a0 >>> ((Int32.toInt64 (1 : Int32)).toUInt64 &&& Int64.toUInt64 63)).toInt64) &&& (6148914691236517205 : Int64))) >>> ((Int32.toInt64 (2 : Int32)).toUInt64 &&& Int64.toUInt64 63)).toInt64) &&& (3689348814741910323 : Int64))) >>> ((Int32.toInt64 (4 : Int32)).toUInt64 &&& Int64.toUInt64 63)).toInt64)) &&& (1085102592571150095 : Int64)) >>> ((Int32.toInt64 (8 : Int32)).toUInt64 &&& Int64.toUInt64 63)).toInt64)) + ((Int64.toUInt64 ((((((a0 - (((Int64.toUInt64 a0 >>> ((Int32.toInt64 (1 : Int32)).toUInt64 &&& Int64.toUInt64 63)).toInt64) &&& (6148914691236517205 : Int64))) &&& (3689348814741910323 : Int64)) + (((Int64.toUInt64 (a0 - (((Int64.toUInt64 a0 >>> ((Int32.toInt64 (1 : Int32)).toUInt64 &&& Int64.toUInt64 63)).toInt64) &&& (6148914691236517205 : Int64))) >>> ((Int32.toInt64 (2 : Int32)).toUInt64 &&& Int64.toUInt64 63)).toInt64) &&& (3689348814741910323 : Int64))) + ((Int64.toUInt64 (((a0 - (((Int64.toUInt64 a0 >>> ((Int32.toInt64 (1 : Int32)).toUInt64 &&& Int64.toUInt64 63)).toInt64) &&& (6148914691236517205 : Int64))) &&& (3689348814741910323 : Int64)) + (((Int64.toUInt64 (a0 - (((Int64.toUInt64 a0 >>> ((Int32.toInt64 (1 : Int32)).toUInt64 &&& Int64.toUInt64 63)).toInt64) &&& (6148914691236517205 : Int64))) >>> ((Int32.toInt64 (2 : Int32)).toUInt64 &&& Int64.toUInt64 63)).toInt64) &&& (3689348814741910323 : Int64))) >>> ((Int32.toInt64 (4 : Int32)).toUInt64 &&& Int64.toUInt64 63)).toInt64)) &&& (1085102592571150095 : Int64)) + ((Int64.toUInt64 (((((a0 - (((Int64.toUInt64 a0 >>> ((Int32.toInt64 (1 : Int32)).toUInt64 &&& Int64.toUInt64 63)).toInt64) &&& (6148914691236517205 : Int64))) &&& (3689348814741910323 : Int64)) + (((Int64.toUInt64 (a0 - (((Int64.toUInt64 a0 >>> ((Int32.toInt64 (1 : Int32)).toUInt64 &&& Int64.toUInt64 63)).toInt64) &&& (6148914691236517205 : Int64))) >>> ((Int32.toInt64 (2 : Int32)).toUInt64 &&& Int64.toUInt64 63)).toInt64) &&& (3689348814741910323 : Int64))) + ((Int64.toUInt64 (((a0 - (((Int64.toUInt64 a0 >>> ((Int32.toInt64 (1 : Int32)).toUInt64 &&& Int64.toUInt64 63)).toInt64) &&& (6148914691236517205 : Int64))) &&& (3689348814741910323 : Int64)) + (((Int64.toUInt64 (a0 - (((Int64.toUInt64 a0 >>> ((Int32.toInt64 (1 : Int32)).toUInt64 &&& Int64.toUInt64 63)).toInt64) &&& (6148914691236517205 : Int64))) >>> ((Int32.toInt64 (2 : Int32)).toUInt64 &&& Int64.toUInt64 63)).toInt64) &&& (3689348814741910323 : Int64))) >>> ((Int32.toInt64 (4 : Int32)).toUInt64 &&& Int64.toUInt64 63)).toInt64)) &&& (1085102592571150095 : Int64)) >>> ((Int32.toInt64 (8 : Int32)).toUInt64 &&& Int64.toUInt64 63)).toInt64)) >>> ((Int32.toInt64 (16 : Int32)).toUInt64 &&& Int64.toUInt64 63)).toInt64)) >>> ((Int32.toInt64 (32 : Int32)).toUInt64 &&& Int64.toUInt64 63)).toInt64)), tq_u]) rJ13_bitCount_95d88_54 (Nat.le_of_ble_eq_true rfl) rfl ?_
  refine tq_lload_n rJ13_bitCount_95d88_55 rfl ?_
  refine tq_l2i rJ13_bitCount_95d88_56 ?_
  refine tq_bipush (127 : Int32) rJ13_bitCount_95d88_57 (by decide) ?_
  refine tq_iand rJ13_bitCount_95d88_59 ?_
  refine ty_iret rJ13_bitCount_95d88_60 rfl rfl ?_
  subst hf
  exact ⟨rfl, rfl, rfl⟩

abbrev mX2_countIn : tq_M := (yX2_countIn, cX2_countIn, 5, (Option.some Jvm.ClassFile.FieldType.int), 0, 0)
theorem moJ13_bitCount_95d88 : tq_mok mJ13_bitCount_95d88 1 := ⟨tq_sg1 _ (List.mem_of_getElem? (i := 20) rfl), tq_sg3 _ (List.mem_of_getElem? (i := 193) rfl), ⟨by decide, by decide, by decide +kernel⟩, by decide⟩
theorem msJ13_bitCount_95d88 : Cond.static mJ13_bitCount_95d88.1 ∈ lw_tbl := tq_sg3 _ (List.mem_of_getElem? (i := 192) rfl)
theorem l_X2_52 : tq_lok RX2 52 mJ13_bitCount_95d88.1 := Or.inl (tq_sg5 _ (List.mem_of_getElem? (i := 63) rfl))
theorem rX2_countIn_0 : tq_D cX2_countIn 0 (.iconst 0) 1 1 := ⟨by decide +kernel, rfl⟩
theorem rX2_countIn_1 : tq_D cX2_countIn 1 (.istore_n 3) 1 2 := ⟨by decide +kernel, rfl⟩
theorem rX2_countIn_2 : tq_D cX2_countIn 2 (.iconst 1) 1 3 := ⟨by decide +kernel, rfl⟩
theorem rX2_countIn_3 : tq_D cX2_countIn 3 (.istore 4) 2 5 := ⟨by decide +kernel, rfl⟩
theorem rX2_countIn_5 : tq_D cX2_countIn 5 (.iload 4) 2 7 := ⟨by decide +kernel, rfl⟩
theorem rX2_countIn_7 : tq_D cX2_countIn 7 (.aload_n 0) 1 8 := ⟨by decide +kernel, rfl⟩
theorem rX2_countIn_8 : tq_D cX2_countIn 8 (.getfield 9) 3 11 := ⟨by decide +kernel, rfl⟩
theorem rX2_countIn_11 : tq_D cX2_countIn 11 (.arraylength) 1 12 := ⟨by decide +kernel, rfl⟩
theorem rX2_countIn_12 : tq_J cX2_countIn 12 (.if_icmp .ge) 36 15 := ⟨24, by decide +kernel, by decide, rfl⟩
theorem rX2_countIn_15 : tq_D cX2_countIn 15 (.iload_n 3) 1 16 := ⟨by decide +kernel, rfl⟩
theorem rX2_countIn_16 : tq_D cX2_countIn 16 (.aload_n 0) 1 17 := ⟨by decide +kernel, rfl⟩
theorem rX2_countIn_17 : tq_D cX2_countIn 17 (.getfield 9) 3 20 := ⟨by decide +kernel, rfl⟩
theorem rX2_countIn_20 : tq_D cX2_countIn 20 (.iload 4) 2 22 := ⟨by decide +kernel, rfl⟩
theorem rX2_countIn_22 : tq_D cX2_countIn 22 (.laload) 1 23 := ⟨by decide +kernel, rfl⟩
theorem rX2_countIn_23 : tq_D cX2_countIn 23 (.lload_n 1) 1 24 := ⟨by decide +kernel, rfl⟩
theorem rX2_countIn_24 : tq_D cX2_countIn 24 (.land) 1 25 := ⟨by decide +kernel, rfl⟩
theorem rX2_countIn_25 : tq_D cX2_countIn 25 (.invokestatic 52) 3 28 := ⟨by decide +kernel, rfl⟩
theorem rX2_countIn_28 : tq_D cX2_countIn 28 (.iadd) 1 29 := ⟨by decide +kernel, rfl⟩
theorem rX2_countIn_29 : tq_D cX2_countIn 29 (.istore_n 3) 1 30 := ⟨by decide +kernel, rfl⟩
theorem rX2_countIn_30 : tq_D cX2_countIn 30 (.iinc 4 1) 3 33 := ⟨by decide +kernel, rfl⟩
theorem rX2_countIn_33 : tq_J cX2_countIn 33 .goto 5 36 := ⟨(-28), by decide +kernel, by decide, rfl⟩
theorem rX2_countIn_36 : tq_D cX2_countIn 36 (.iload_n 3) 1 37 := ⟨by decide +kernel, rfl⟩
theorem rX2_countIn_37 : decode cX2_countIn 37 = .ok (.ireturn, 1) := by decide +kernel
noncomputable def FX2_countIn_s5 (I : tq_PI) (L : tq_PL) (a0 : Nat) (a1 : Int64) (a3 : Int32) (a4 : Int32) : Option ((Int32 × Int32) ⊕ (Int32)) :=
  (if (10 : Int32) ≤ a4 then some (.inr a3) else (if 0 ≤ a4 ∧ a4 < 10 then (tq_let (FJ13_bitCount_95d88 I L (((L (tq_rg a0 0) a4.toNatClampNeg) &&& a1))) fun p3 => some (.inl ((a3 + p3), (a4 + 1)))) else none))
noncomputable def FX2_countIn (I : tq_PI) (L : tq_PL) (a0 : Nat) (a1 : Int64) : Option (Int32) :=
  ((tq_it (fun p : Int32 × Int32 => FX2_countIn_s5 I L a0 a1 p.1 p.2) tq_N ((0 : Int32), (1 : Int32))).bind fun p4 => some p4)
set_option maxRecDepth 100000 in
set_option maxHeartbeats 4000000 in
theorem FX2_countIn_s5_x {S : Nat × (Nat → Int32)} {d : Nat} {I : tq_PI} {L : tq_PL} {a0 : Nat} {a1 : Int64} {a3 : Int32} {a4 : Int32} (h0 : tq_sh0 a0 = 2) {q0 : Option Value → tq_PI → tq_PL → Prop} {out : (Int32 × Int32) ⊕ (Int32)} (hf : FX2_countIn_s5 I L a0 a1 a3 a4 = some out) (hk : Sum.elim (fun p : Int32 × Int32 => tq_X S mX2_countIn (d + 1) tq_k0 5 ([.ref a0, .long a1, tq_u, .int p.1, .int p.2]) [] (tq_st I L) (tq_Q q0)) (fun p : Int32 => tq_X S mX2_countIn (d + 1) tq_k0 36 ([tq_u, tq_u, tq_u, .int p, tq_u]) [] (tq_st I L) (tq_Q q0)) out) : tq_X S mX2_countIn (d + 1) tq_k0 5 ([.ref a0, .long a1, tq_u, .int a3, .int a4]) [] (tq_st I L) (tq_Q q0) := by
  unfold FX2_countIn_s5 at hf
  refine tq_iload rX2_countIn_5 rfl ?_
  refine tq_aload_n rX2_countIn_7 rfl ?_
  refine ty_getR rX2_countIn_8 f_X2_9 rfl h0 (hp_2_0 h0).1 ?_
  refine ty_alen (v := 10) rX2_countIn_11 (hp_2_0 h0).2.1 (by decide) (hp_2_0 h0).2.2 rfl ?_
  refine tq_icmp_ge rX2_countIn_12 (fun c1 => ?_) (fun c1 => ?_)
  · rw [if_pos c1] at hf
    have hf := Option.some.inj hf
    subst hf
    exact tq_forget _ (tq_le_u (tq_le_u (tq_le_u (tq_le_s (tq_le_u tq_le_n))))) hk
  · rw [if_neg c1] at hf
    refine tq_iload_n rX2_countIn_15 rfl ?_
    refine tq_aload_n rX2_countIn_16 rfl ?_
    refine ty_getR rX2_countIn_17 f_X2_9 rfl h0 (hp_2_0 h0).1 ?_
    refine tq_iload rX2_countIn_20 rfl ?_
    obtain ⟨g2, hf⟩ := tq_chk hf
    refine ty_lald (v := 10) rX2_countIn_22 (hp_2_0 h0).2.1 (hp_2_0 h0).2.2 rfl (by decide) g2 ?_
    refine tq_lload_n rX2_countIn_23 rfl ?_
    refine tq_land rX2_countIn_24 ?_
    obtain ⟨p3, e3, hf⟩ := tq_let_elim hf
    refine ty_callSI p3 ([.long ((L (tq_rg a0 0) a4.toNatClampNeg) &&& a1)]) ([.int a3]) rX2_countIn_25 l_X2_52 moJ13_bitCount_95d88 msJ13_bitCount_95d88 rfl rfl (Nat.le_of_ble_eq_true rfl) ⟨rfl, rfl⟩ (CJ13_bitCount_95d88  e3) ?_
    refine tq_iadd rX2_countIn_28 ?_
    refine tq_istore_n ([.ref a0, .long a1, tq_u, .int (a3 + p3), .int a4]) rX2_countIn_29 (Nat.le_of_ble_eq_true rfl) rfl ?_
    refine tq_iinc (a4 + 1) ([.ref a0, .long a1, tq_u, .int (a3 + p3), .int (a4 + 1)]) rX2_countIn_30 rfl (tq_inc (by decide)) (Nat.le_of_ble_eq_true rfl) rfl ?_
    refine tq_goto rX2_countIn_33 ?_
    have hf := Option.some.inj hf
    subst hf
    exact tq_forget _ (tq_le_s (tq_le_s (tq_le_u (tq_le_s (tq_le_s tq_le_n))))) hk

set_option maxRecDepth 100000 in
set_option maxHeartbeats 4000000 in
theorem CX2_countIn {S : Nat × (Nat → Int32)} {d : Nat} {I : tq_PI} {L : tq_PL} {a0 : Nat} {a1 : Int64} (h0 : tq_sh0 a0 = 2) {out : Int32} (hf : FX2_countIn I L a0 a1 = some out) : tq_K S mX2_countIn (d + 1) [.ref a0, .long a1] I L (tq_one2 (some (.int out)) I L) := by
  unfold FX2_countIn at hf
  refine tq_K_of (by decide) (Nat.le_of_ble_eq_true rfl) (ls := [.ref a0, .long a1, tq_u, tq_u, tq_u]) rfl ?_
  refine tq_iconst (0 : Int32) rX2_countIn_0 (by decide) ?_
  refine tq_istore_n ([.ref a0, .long a1, tq_u, .int (0 : Int32), tq_u]) rX2_countIn_1 (Nat.le_of_ble_eq_true rfl) rfl ?_
  refine tq_iconst (1 : Int32) rX2_countIn_2 (by decide) ?_
  refine tq_istore ([.ref a0, .long a1, tq_u, .int (0 : Int32), .int (1 : Int32)]) rX2_countIn_3 (Nat.le_of_ble_eq_true rfl) rfl ?_
  obtain ⟨p4, e4, hf⟩ := Option.bind_eq_some_iff.mp hf
  refine tq_forget _ (tq_le_s (tq_le_s (tq_le_u (tq_le_s (tq_le_s tq_le_n))))) ?_
  refine tq_it_elim (P := fun p : Int32 × Int32 => tq_X S mX2_countIn (d + 1) tq_k0 5 ([.ref a0, .long a1, tq_u, .int p.1, .int p.2]) [] (tq_st I L) (tq_Q (tq_one2 (some (.int out)) I L))) (R := fun p : Int32 => tq_X S mX2_countIn (d + 1) tq_k0 36 ([tq_u, tq_u, tq_u, .int p, tq_u]) [] (tq_st I L) (tq_Q (tq_one2 (some (.int out)) I L))) (fun p o hp hk => FX2_countIn_s5_x  h0 hp hk) _ (((0 : Int32), (1 : Int32))) _ e4 ?_
  show tq_X _ _ _ _ _ _ _ _ _
  refine tq_iload_n rX2_countIn_36 rfl ?_
  refine ty_iret rX2_countIn_37 rfl rfl ?_
  have hf := Option.some.inj hf
  subst hf
  exact ⟨rfl, rfl, rfl⟩

abbrev mX2_fitCount : tq_M := (yX2_fitCount, cX2_fitCount, 1, (Option.some Jvm.ClassFile.FieldType.int), 0, 0)
theorem moX2_countIn : tq_mok mX2_countIn 1 := ⟨tq_sg1 _ (List.mem_of_getElem? (i := 11) rfl), tq_sg5 _ (List.mem_of_getElem? (i := 62) rfl), ⟨by decide, by decide, by decide +kernel⟩, by decide⟩
theorem mvX2_countIn : 2 < 13 ∧ (tq_cl 2).1 = mX2_countIn.1.cls ∧ Cond.instanceMethod mX2_countIn.1 ∈ lw_tbl ∧ Cond.selects mX2_countIn.1.cls mX2_countIn.1 mX2_countIn.1 ∈ lw_tbl := ⟨by decide, rfl, tq_sg5 _ (List.mem_of_getElem? (i := 61) rfl), List.mem_append_left _ (List.mem_map.mpr ⟨_, List.mem_of_getElem? (i := 32) rfl, rfl⟩)⟩
theorem l_X2_48 : tq_lok RX2 48 mX2_countIn.1 := Or.inl (tq_sg5 _ (List.mem_of_getElem? (i := 59) rfl))
theorem rX2_fitCount_0 : tq_D cX2_fitCount 0 (.aload_n 0) 1 1 := ⟨by decide +kernel, rfl⟩
theorem rX2_fitCount_1 : tq_D cX2_fitCount 1 (.ldc2_w 19) 3 4 := ⟨by decide +kernel, rfl⟩
theorem rX2_fitCount_4 : tq_D cX2_fitCount 4 (.invokevirtual 48) 3 7 := ⟨by decide +kernel, rfl⟩
theorem rX2_fitCount_7 : decode cX2_fitCount 7 = .ok (.ireturn, 1) := by decide +kernel
noncomputable def FX2_fitCount (I : tq_PI) (L : tq_PL) (a0 : Nat) : Option (Int32) :=
  ((FX2_countIn I L a0 ((281474976710655 : Int64))).bind fun p1 => some p1)
set_option maxRecDepth 100000 in
set_option maxHeartbeats 4000000 in
theorem CX2_fitCount {S : Nat × (Nat → Int32)} {d : Nat} {I : tq_PI} {L : tq_PL} {a0 : Nat} (h0 : tq_sh0 a0 = 2) {out : Int32} (hf : FX2_fitCount I L a0 = some out) : tq_K S mX2_fitCount (d + 2) [.ref a0] I L (tq_one2 (some (.int out)) I L) := by
  unfold FX2_fitCount at hf
  refine tq_K_of (by decide) (Nat.le_of_ble_eq_true rfl) (ls := [.ref a0]) rfl ?_
  refine tq_aload_n rX2_fitCount_0 rfl ?_
  refine tq_ldc2 rX2_fitCount_1 (k_X2_19) ?_
  obtain ⟨p1, e1, hf⟩ := Option.bind_eq_some_iff.mp hf
  refine ty_callVI p1 ([.long (281474976710655 : Int64)]) ([]) rX2_fitCount_4 l_X2_48 moX2_countIn mvX2_countIn h0 rfl rfl (Nat.le_of_ble_eq_true rfl) ⟨rfl, rfl⟩ (CX2_countIn h0 e1) ?_
  refine ty_iret rX2_fitCount_7 rfl rfl ?_
  have hf := Option.some.inj hf
  subst hf
  exact ⟨rfl, rfl, rfl⟩

abbrev mX2_countNear : tq_M := (yX2_countNear, cX2_countNear, 3, (Option.some Jvm.ClassFile.FieldType.int), 0, 0)
theorem rX2_countNear_0 : tq_D cX2_countNear 0 (.aload_n 0) 1 1 := ⟨by decide +kernel, rfl⟩
theorem rX2_countNear_1 : tq_D cX2_countNear 1 (.iload_n 1) 1 2 := ⟨by decide +kernel, rfl⟩
theorem rX2_countNear_2 : tq_D cX2_countNear 2 (.iload_n 2) 1 3 := ⟨by decide +kernel, rfl⟩
theorem rX2_countNear_3 : tq_D cX2_countNear 3 (.invokestatic 38) 3 6 := ⟨by decide +kernel, rfl⟩
theorem rX2_countNear_6 : tq_D cX2_countNear 6 (.invokevirtual 48) 3 9 := ⟨by decide +kernel, rfl⟩
theorem rX2_countNear_9 : decode cX2_countNear 9 = .ok (.ireturn, 1) := by decide +kernel
noncomputable def FX2_countNear (I : tq_PI) (L : tq_PL) (a0 : Nat) (a1 : Int32) (a2 : Int32) : Option (Int32) :=
  ((FX2_near I L a1 a2).bind fun p1 => ((FX2_countIn I L a0 p1).bind fun p2 => some p2))
set_option maxRecDepth 100000 in
set_option maxHeartbeats 4000000 in
theorem CX2_countNear {S : Nat × (Nat → Int32)} {d : Nat} {I : tq_PI} {L : tq_PL} {a0 : Nat} {a1 : Int32} {a2 : Int32} (h0 : tq_sh0 a0 = 2) {out : Int32} (hf : FX2_countNear I L a0 a1 a2 = some out) : tq_K S mX2_countNear (d + 3) [.ref a0, .int a1, .int a2] I L (tq_one2 (some (.int out)) I L) := by
  unfold FX2_countNear at hf
  refine tq_K_of (by decide) (Nat.le_of_ble_eq_true rfl) (ls := [.ref a0, .int a1, .int a2]) rfl ?_
  refine tq_aload_n rX2_countNear_0 rfl ?_
  refine tq_iload_n rX2_countNear_1 rfl ?_
  refine tq_iload_n rX2_countNear_2 rfl ?_
  obtain ⟨p1, e1, hf⟩ := Option.bind_eq_some_iff.mp hf
  refine ty_callSJ p1 ([.int a1, .int a2]) ([.ref a0]) rX2_countNear_3 l_X2_38 moX2_near msX2_near rfl rfl (Nat.le_of_ble_eq_true rfl) ⟨rfl, rfl⟩ (CX2_near  e1) ?_
  obtain ⟨p2, e2, hf⟩ := Option.bind_eq_some_iff.mp hf
  refine ty_callVI p2 ([.long p1]) ([]) rX2_countNear_6 l_X2_48 moX2_countIn mvX2_countIn h0 rfl rfl (Nat.le_of_ble_eq_true rfl) ⟨rfl, rfl⟩ (CX2_countIn h0 e2) ?_
  refine ty_iret rX2_countNear_9 rfl rfl ?_
  have hf := Option.some.inj hf
  subst hf
  exact ⟨rfl, rfl, rfl⟩

abbrev mX2_fitAt : tq_M := (yX2_fitAt, cX2_fitAt, 5, (Option.some Jvm.ClassFile.FieldType.int), 0, 0)
theorem rX2_fitAt_0 : tq_D cX2_fitAt 0 (.iconst 0) 1 1 := ⟨by decide +kernel, rfl⟩
theorem rX2_fitAt_1 : tq_D cX2_fitAt 1 (.istore_n 2) 1 2 := ⟨by decide +kernel, rfl⟩
theorem rX2_fitAt_2 : tq_D cX2_fitAt 2 (.iconst 0) 1 3 := ⟨by decide +kernel, rfl⟩
theorem rX2_fitAt_3 : tq_D cX2_fitAt 3 (.istore_n 3) 1 4 := ⟨by decide +kernel, rfl⟩
theorem rX2_fitAt_4 : tq_D cX2_fitAt 4 (.iload_n 3) 1 5 := ⟨by decide +kernel, rfl⟩
theorem rX2_fitAt_5 : tq_D cX2_fitAt 5 (.sipush 432) 3 8 := ⟨by decide +kernel, rfl⟩
theorem rX2_fitAt_8 : tq_J cX2_fitAt 8 (.if_icmp .ge) 68 11 := ⟨60, by decide +kernel, by decide, rfl⟩
theorem rX2_fitAt_11 : tq_D cX2_fitAt 11 (.iload_n 1) 1 12 := ⟨by decide +kernel, rfl⟩
theorem rX2_fitAt_12 : tq_J cX2_fitAt 12 (.ifCond .lt) 68 15 := ⟨56, by decide +kernel, by decide, rfl⟩
theorem rX2_fitAt_15 : tq_D cX2_fitAt 15 (.iload_n 3) 1 16 := ⟨by decide +kernel, rfl⟩
theorem rX2_fitAt_16 : tq_D cX2_fitAt 16 (.bipush 9) 2 18 := ⟨by decide +kernel, rfl⟩
theorem rX2_fitAt_18 : tq_D cX2_fitAt 18 (.irem) 1 19 := ⟨by decide +kernel, rfl⟩
theorem rX2_fitAt_19 : tq_D cX2_fitAt 19 (.iconst 1) 1 20 := ⟨by decide +kernel, rfl⟩
theorem rX2_fitAt_20 : tq_D cX2_fitAt 20 (.iadd) 1 21 := ⟨by decide +kernel, rfl⟩
theorem rX2_fitAt_21 : tq_D cX2_fitAt 21 (.istore 4) 2 23 := ⟨by decide +kernel, rfl⟩
theorem rX2_fitAt_23 : tq_D cX2_fitAt 23 (.iload 4) 2 25 := ⟨by decide +kernel, rfl⟩
theorem rX2_fitAt_25 : tq_D cX2_fitAt 25 (.aload_n 0) 1 26 := ⟨by decide +kernel, rfl⟩
theorem rX2_fitAt_26 : tq_D cX2_fitAt 26 (.getfield 9) 3 29 := ⟨by decide +kernel, rfl⟩
theorem rX2_fitAt_29 : tq_D cX2_fitAt 29 (.arraylength) 1 30 := ⟨by decide +kernel, rfl⟩
theorem rX2_fitAt_30 : tq_J cX2_fitAt 30 (.if_icmp .ge) 62 33 := ⟨32, by decide +kernel, by decide, rfl⟩
theorem rX2_fitAt_33 : tq_D cX2_fitAt 33 (.aload_n 0) 1 34 := ⟨by decide +kernel, rfl⟩
theorem rX2_fitAt_34 : tq_D cX2_fitAt 34 (.getfield 9) 3 37 := ⟨by decide +kernel, rfl⟩
theorem rX2_fitAt_37 : tq_D cX2_fitAt 37 (.iload 4) 2 39 := ⟨by decide +kernel, rfl⟩
theorem rX2_fitAt_39 : tq_D cX2_fitAt 39 (.laload) 1 40 := ⟨by decide +kernel, rfl⟩
theorem rX2_fitAt_40 : tq_D cX2_fitAt 40 (.lconst 1) 1 41 := ⟨by decide +kernel, rfl⟩
theorem rX2_fitAt_41 : tq_D cX2_fitAt 41 (.iload_n 3) 1 42 := ⟨by decide +kernel, rfl⟩
theorem rX2_fitAt_42 : tq_D cX2_fitAt 42 (.bipush 9) 2 44 := ⟨by decide +kernel, rfl⟩
theorem rX2_fitAt_44 : tq_D cX2_fitAt 44 (.idiv) 1 45 := ⟨by decide +kernel, rfl⟩
theorem rX2_fitAt_45 : tq_D cX2_fitAt 45 (.lshl) 1 46 := ⟨by decide +kernel, rfl⟩
theorem rX2_fitAt_46 : tq_D cX2_fitAt 46 (.land) 1 47 := ⟨by decide +kernel, rfl⟩
theorem rX2_fitAt_47 : tq_D cX2_fitAt 47 (.lconst 0) 1 48 := ⟨by decide +kernel, rfl⟩
theorem rX2_fitAt_48 : tq_D cX2_fitAt 48 (.lcmp) 1 49 := ⟨by decide +kernel, rfl⟩
theorem rX2_fitAt_49 : tq_J cX2_fitAt 49 (.ifCond .eq) 62 52 := ⟨13, by decide +kernel, by decide, rfl⟩
theorem rX2_fitAt_52 : tq_D cX2_fitAt 52 (.iload_n 2) 1 53 := ⟨by decide +kernel, rfl⟩
theorem rX2_fitAt_53 : tq_D cX2_fitAt 53 (.iload_n 1) 1 54 := ⟨by decide +kernel, rfl⟩
theorem rX2_fitAt_54 : tq_J cX2_fitAt 54 (.if_icmp .ne) 59 57 := ⟨5, by decide +kernel, by decide, rfl⟩
theorem rX2_fitAt_57 : tq_D cX2_fitAt 57 (.iload_n 3) 1 58 := ⟨by decide +kernel, rfl⟩
theorem rX2_fitAt_58 : decode cX2_fitAt 58 = .ok (.ireturn, 1) := by decide +kernel
theorem rX2_fitAt_59 : tq_D cX2_fitAt 59 (.iinc 2 1) 3 62 := ⟨by decide +kernel, rfl⟩
theorem rX2_fitAt_62 : tq_D cX2_fitAt 62 (.iinc 3 1) 3 65 := ⟨by decide +kernel, rfl⟩
theorem rX2_fitAt_65 : tq_J cX2_fitAt 65 .goto 4 68 := ⟨(-61), by decide +kernel, by decide, rfl⟩
theorem rX2_fitAt_68 : tq_D cX2_fitAt 68 (.bipush (-2)) 2 70 := ⟨by decide +kernel, rfl⟩
theorem rX2_fitAt_70 : decode cX2_fitAt 70 = .ok (.ireturn, 1) := by decide +kernel
noncomputable def FX2_fitAt_j62L4 (I : tq_PI) (L : tq_PL) (a0 : Nat) (a1 : Int32) (a2 : Int32) (a3 : Int32) : Option ((Int32 × Int32) ⊕ ((Unit) ⊕ (Int32))) :=
  some (.inl (a2, (a3 + 1)))
noncomputable def FX2_fitAt_s4 (I : tq_PI) (L : tq_PL) (a0 : Nat) (a1 : Int32) (a2 : Int32) (a3 : Int32) : Option ((Int32 × Int32) ⊕ ((Unit) ⊕ (Int32))) :=
  (if (432 : Int32) ≤ a3 then some (.inr (.inl ())) else (if a1 < 0 then some (.inr (.inl ())) else (if ¬ (9 : Int32) = 0 then (if (10 : Int32) ≤ ((a3 - a3 / (9 : Int32) * (9 : Int32)) + (1 : Int32)) then (FX2_fitAt_j62L4 I L a0 a1 a2 a3) else (if 0 ≤ ((a3 - a3 / (9 : Int32) * (9 : Int32)) + (1 : Int32)) ∧ ((a3 - a3 / (9 : Int32) * (9 : Int32)) + (1 : Int32)) < 10 then (if ¬ (9 : Int32) = 0 then (if (lg_cmp ((L (tq_rg a0 0) (((a3 - a3 / (9 : Int32) * (9 : Int32)) + (1 : Int32))).toNatClampNeg) &&& ((1 : Int64) <<< (Int32.toInt64 (a3 / (9 : Int32)) &&& 63))) (0 : Int64)) = 0 then (FX2_fitAt_j62L4 I L a0 a1 a2 a3) else (if a2 = a1 then some (.inr (.inr a3)) else (FX2_fitAt_j62L4 I L a0 a1 ((a2 + 1)) a3))) else none) else none)) else none)))
noncomputable def FX2_fitAt (I : tq_PI) (L : tq_PL) (a0 : Nat) (a1 : Int32) : Option (Int32) :=
  ((tq_it (fun p : Int32 × Int32 => FX2_fitAt_s4 I L a0 a1 p.1 p.2) tq_N ((0 : Int32), (0 : Int32))).bind fun p9 => p9.elim (fun t10 => some (-2 : Int32)) (fun t10 => some t10))
set_option maxRecDepth 100000 in
set_option maxHeartbeats 4000000 in
theorem FX2_fitAt_j62L4_x {S : Nat × (Nat → Int32)} {d : Nat} {I : tq_PI} {L : tq_PL} {a0 : Nat} {a1 : Int32} {a2 : Int32} {a3 : Int32} (h0 : tq_sh0 a0 = 2) {q0 : Option Value → tq_PI → tq_PL → Prop} {out : (Int32 × Int32) ⊕ ((Unit) ⊕ (Int32))} (hf : FX2_fitAt_j62L4 I L a0 a1 a2 a3 = some out) (hk : Sum.elim (fun p : Int32 × Int32 => tq_X S mX2_fitAt d tq_k0 4 ([.ref a0, .int a1, .int p.1, .int p.2, tq_u]) [] (tq_st I L) (tq_Q q0)) (Sum.elim (fun p : Unit => tq_X S mX2_fitAt d tq_k0 68 ([tq_u, tq_u, tq_u, tq_u, tq_u]) [] (tq_st I L) (tq_Q q0)) (fun p : Int32 => q0 (some (.int p)) I L)) out) : tq_X S mX2_fitAt d tq_k0 62 ([.ref a0, .int a1, .int a2, .int a3, tq_u]) ([]) (tq_st I L) (tq_Q q0) := by
  unfold FX2_fitAt_j62L4 at hf
  refine tq_iinc (a3 + 1) ([.ref a0, .int a1, .int a2, .int (a3 + 1), tq_u]) rX2_fitAt_62 rfl (tq_inc (by decide)) (Nat.le_of_ble_eq_true rfl) rfl ?_
  refine tq_goto rX2_fitAt_65 ?_
  have hf := Option.some.inj hf
  subst hf
  exact tq_forget _ (tq_le_s (tq_le_s (tq_le_s (tq_le_s (tq_le_u tq_le_n))))) hk

set_option maxRecDepth 100000 in
set_option maxHeartbeats 4000000 in
theorem FX2_fitAt_s4_x {S : Nat × (Nat → Int32)} {d : Nat} {I : tq_PI} {L : tq_PL} {a0 : Nat} {a1 : Int32} {a2 : Int32} {a3 : Int32} (h0 : tq_sh0 a0 = 2) {q0 : Option Value → tq_PI → tq_PL → Prop} {out : (Int32 × Int32) ⊕ ((Unit) ⊕ (Int32))} (hf : FX2_fitAt_s4 I L a0 a1 a2 a3 = some out) (hk : Sum.elim (fun p : Int32 × Int32 => tq_X S mX2_fitAt d tq_k0 4 ([.ref a0, .int a1, .int p.1, .int p.2, tq_u]) [] (tq_st I L) (tq_Q q0)) (Sum.elim (fun p : Unit => tq_X S mX2_fitAt d tq_k0 68 ([tq_u, tq_u, tq_u, tq_u, tq_u]) [] (tq_st I L) (tq_Q q0)) (fun p : Int32 => q0 (some (.int p)) I L)) out) : tq_X S mX2_fitAt d tq_k0 4 ([.ref a0, .int a1, .int a2, .int a3, tq_u]) [] (tq_st I L) (tq_Q q0) := by
  unfold FX2_fitAt_s4 at hf
  refine tq_iload_n rX2_fitAt_4 rfl ?_
  refine tq_sipush (432 : Int32) rX2_fitAt_5 (by decide) ?_
  refine tq_icmp_ge rX2_fitAt_8 (fun c1 => ?_) (fun c1 => ?_)
  · rw [if_pos c1] at hf
    have hf := Option.some.inj hf
    subst hf
    exact tq_forget _ (tq_le_u (tq_le_u (tq_le_u (tq_le_u (tq_le_u tq_le_n))))) hk
  · rw [if_neg c1] at hf
    refine tq_iload_n rX2_fitAt_11 rfl ?_
    refine tq_if_lt rX2_fitAt_12 (fun c2 => ?_) (fun c2 => ?_)
    · rw [if_pos c2] at hf
      have hf := Option.some.inj hf
      subst hf
      exact tq_forget _ (tq_le_u (tq_le_u (tq_le_u (tq_le_u (tq_le_u tq_le_n))))) hk
    · rw [if_neg c2] at hf
      refine tq_iload_n rX2_fitAt_15 rfl ?_
      refine tq_bipush (9 : Int32) rX2_fitAt_16 (by decide) ?_
      obtain ⟨g3, hf⟩ := tq_chk hf
      refine tq_irem rX2_fitAt_18 g3 ?_
      refine tq_iconst (1 : Int32) rX2_fitAt_19 (by decide) ?_
      refine tq_iadd rX2_fitAt_20 ?_
      refine tq_istore ([.ref a0, .int a1, .int a2, .int a3, .int ((a3 - a3 / (9 : Int32) * (9 : Int32)) + (1 : Int32))]) rX2_fitAt_21 (Nat.le_of_ble_eq_true rfl) rfl ?_
      refine tq_iload rX2_fitAt_23 rfl ?_
      refine tq_aload_n rX2_fitAt_25 rfl ?_
      refine ty_getR rX2_fitAt_26 f_X2_9 rfl h0 (hp_2_0 h0).1 ?_
      refine ty_alen (v := 10) rX2_fitAt_29 (hp_2_0 h0).2.1 (by decide) (hp_2_0 h0).2.2 rfl ?_
      refine tq_icmp_ge rX2_fitAt_30 (fun c4 => ?_) (fun c4 => ?_)
      · rw [if_pos c4] at hf
        exact tq_forget _ (tq_le_s (tq_le_s (tq_le_s (tq_le_s (tq_le_u tq_le_n))))) (FX2_fitAt_j62L4_x  h0 hf hk)
      · rw [if_neg c4] at hf
        refine tq_aload_n rX2_fitAt_33 rfl ?_
        refine ty_getR rX2_fitAt_34 f_X2_9 rfl h0 (hp_2_0 h0).1 ?_
        refine tq_iload rX2_fitAt_37 rfl ?_
        obtain ⟨g5, hf⟩ := tq_chk hf
        refine ty_lald (v := 10) rX2_fitAt_39 (hp_2_0 h0).2.1 (hp_2_0 h0).2.2 rfl (by decide) g5 ?_
        refine tq_lconst (1 : Int64) rX2_fitAt_40 (by decide) ?_
        refine tq_iload_n rX2_fitAt_41 rfl ?_
        refine tq_bipush (9 : Int32) rX2_fitAt_42 (by decide) ?_
        obtain ⟨g6, hf⟩ := tq_chk hf
        refine tq_idiv rX2_fitAt_44 g6 ?_
        refine tq_lshl rX2_fitAt_45 ?_
        refine tq_land rX2_fitAt_46 ?_
        refine tq_lconst (0 : Int64) rX2_fitAt_47 (by decide) ?_
        refine tq_lcmp rX2_fitAt_48 ?_
        refine tq_if_eq rX2_fitAt_49 (fun c7 => ?_) (fun c7 => ?_)
        · rw [if_pos c7] at hf
          exact tq_forget _ (tq_le_s (tq_le_s (tq_le_s (tq_le_s (tq_le_u tq_le_n))))) (FX2_fitAt_j62L4_x  h0 hf hk)
        · rw [if_neg c7] at hf
          refine tq_iload_n rX2_fitAt_52 rfl ?_
          refine tq_iload_n rX2_fitAt_53 rfl ?_
          refine tq_icmp_ne rX2_fitAt_54 (fun c8 => ?_) (fun c8 => ?_)
          · rw [if_neg c8] at hf
            refine tq_iinc (a2 + 1) ([.ref a0, .int a1, .int (a2 + 1), .int a3, .int ((a3 - a3 / (9 : Int32) * (9 : Int32)) + (1 : Int32))]) rX2_fitAt_59 rfl (tq_inc (by decide)) (Nat.le_of_ble_eq_true rfl) rfl ?_
            exact tq_forget _ (tq_le_s (tq_le_s (tq_le_s (tq_le_s (tq_le_u tq_le_n))))) (FX2_fitAt_j62L4_x  h0 hf hk)
          · rw [if_pos c8] at hf
            refine tq_iload_n rX2_fitAt_57 rfl ?_
            refine ty_iret rX2_fitAt_58 rfl rfl ?_
            have hf := Option.some.inj hf
            subst hf
            exact hk

set_option maxRecDepth 100000 in
set_option maxHeartbeats 4000000 in
theorem CX2_fitAt {S : Nat × (Nat → Int32)} {d : Nat} {I : tq_PI} {L : tq_PL} {a0 : Nat} {a1 : Int32} (h0 : tq_sh0 a0 = 2) {out : Int32} (hf : FX2_fitAt I L a0 a1 = some out) : tq_K S mX2_fitAt d [.ref a0, .int a1] I L (tq_one2 (some (.int out)) I L) := by
  unfold FX2_fitAt at hf
  refine tq_K_of (by decide) (Nat.le_of_ble_eq_true rfl) (ls := [.ref a0, .int a1, tq_u, tq_u, tq_u]) rfl ?_
  refine tq_iconst (0 : Int32) rX2_fitAt_0 (by decide) ?_
  refine tq_istore_n ([.ref a0, .int a1, .int (0 : Int32), tq_u, tq_u]) rX2_fitAt_1 (Nat.le_of_ble_eq_true rfl) rfl ?_
  refine tq_iconst (0 : Int32) rX2_fitAt_2 (by decide) ?_
  refine tq_istore_n ([.ref a0, .int a1, .int (0 : Int32), .int (0 : Int32), tq_u]) rX2_fitAt_3 (Nat.le_of_ble_eq_true rfl) rfl ?_
  obtain ⟨p9, e9, hf⟩ := Option.bind_eq_some_iff.mp hf
  refine tq_forget _ (tq_le_s (tq_le_s (tq_le_s (tq_le_s (tq_le_u tq_le_n))))) ?_
  refine tq_it_elim (P := fun p : Int32 × Int32 => tq_X S mX2_fitAt d tq_k0 4 ([.ref a0, .int a1, .int p.1, .int p.2, tq_u]) [] (tq_st I L) (tq_Q (tq_one2 (some (.int out)) I L))) (R := Sum.elim (fun p : Unit => tq_X S mX2_fitAt d tq_k0 68 ([tq_u, tq_u, tq_u, tq_u, tq_u]) [] (tq_st I L) (tq_Q (tq_one2 (some (.int out)) I L))) (fun p : Int32 => (tq_one2 (some (.int out)) I L) (some (.int p)) I L)) (fun p o hp hk => FX2_fitAt_s4_x  h0 hp hk) _ (((0 : Int32), (0 : Int32))) _ e9 ?_
  rcases tq_selim hf with ⟨t10, t10q, hf⟩ | ⟨t10, t10q, hf⟩
  · rw [t10q]
    show tq_X _ _ _ _ _ _ _ _ _
    refine tq_bipush (-2 : Int32) rX2_fitAt_68 (by decide) ?_
    refine ty_iret rX2_fitAt_70 rfl rfl ?_
    have hf := Option.some.inj hf
    subst hf
    exact ⟨rfl, rfl, rfl⟩
  · rw [t10q]
    have hf := Option.some.inj hf
    subst hf
    exact ⟨rfl, rfl, rfl⟩

abbrev mX2_sureCell : tq_M := (yX2_sureCell, cX2_sureCell, 4, (Option.some Jvm.ClassFile.FieldType.int), 0, 0)
theorem rX2_sureCell_0 : tq_D cX2_sureCell 0 (.lconst 0) 1 1 := ⟨by decide +kernel, rfl⟩
theorem rX2_sureCell_1 : tq_D cX2_sureCell 1 (.lstore_n 1) 1 2 := ⟨by decide +kernel, rfl⟩
theorem rX2_sureCell_2 : tq_D cX2_sureCell 2 (.iconst 1) 1 3 := ⟨by decide +kernel, rfl⟩
theorem rX2_sureCell_3 : tq_D cX2_sureCell 3 (.istore_n 3) 1 4 := ⟨by decide +kernel, rfl⟩
theorem rX2_sureCell_4 : tq_D cX2_sureCell 4 (.iload_n 3) 1 5 := ⟨by decide +kernel, rfl⟩
theorem rX2_sureCell_5 : tq_D cX2_sureCell 5 (.aload_n 0) 1 6 := ⟨by decide +kernel, rfl⟩
theorem rX2_sureCell_6 : tq_D cX2_sureCell 6 (.getfield 9) 3 9 := ⟨by decide +kernel, rfl⟩
theorem rX2_sureCell_9 : tq_D cX2_sureCell 9 (.arraylength) 1 10 := ⟨by decide +kernel, rfl⟩
theorem rX2_sureCell_10 : tq_J cX2_sureCell 10 (.if_icmp .ge) 28 13 := ⟨18, by decide +kernel, by decide, rfl⟩
theorem rX2_sureCell_13 : tq_D cX2_sureCell 13 (.lload_n 1) 1 14 := ⟨by decide +kernel, rfl⟩
theorem rX2_sureCell_14 : tq_D cX2_sureCell 14 (.aload_n 0) 1 15 := ⟨by decide +kernel, rfl⟩
theorem rX2_sureCell_15 : tq_D cX2_sureCell 15 (.getfield 9) 3 18 := ⟨by decide +kernel, rfl⟩
theorem rX2_sureCell_18 : tq_D cX2_sureCell 18 (.iload_n 3) 1 19 := ⟨by decide +kernel, rfl⟩
theorem rX2_sureCell_19 : tq_D cX2_sureCell 19 (.laload) 1 20 := ⟨by decide +kernel, rfl⟩
theorem rX2_sureCell_20 : tq_D cX2_sureCell 20 (.lor) 1 21 := ⟨by decide +kernel, rfl⟩
theorem rX2_sureCell_21 : tq_D cX2_sureCell 21 (.lstore_n 1) 1 22 := ⟨by decide +kernel, rfl⟩
theorem rX2_sureCell_22 : tq_D cX2_sureCell 22 (.iinc 3 1) 3 25 := ⟨by decide +kernel, rfl⟩
theorem rX2_sureCell_25 : tq_J cX2_sureCell 25 .goto 4 28 := ⟨(-21), by decide +kernel, by decide, rfl⟩
theorem rX2_sureCell_28 : tq_D cX2_sureCell 28 (.lload_n 1) 1 29 := ⟨by decide +kernel, rfl⟩
theorem rX2_sureCell_29 : tq_D cX2_sureCell 29 (.invokestatic 52) 3 32 := ⟨by decide +kernel, rfl⟩
theorem rX2_sureCell_32 : tq_D cX2_sureCell 32 (.iconst 1) 1 33 := ⟨by decide +kernel, rfl⟩
theorem rX2_sureCell_33 : tq_J cX2_sureCell 33 (.if_icmp .ne) 45 36 := ⟨12, by decide +kernel, by decide, rfl⟩
theorem rX2_sureCell_36 : tq_D cX2_sureCell 36 (.lload_n 1) 1 37 := ⟨by decide +kernel, rfl⟩
theorem rX2_sureCell_37 : tq_D cX2_sureCell 37 (.lconst 1) 1 38 := ⟨by decide +kernel, rfl⟩
theorem rX2_sureCell_38 : tq_D cX2_sureCell 38 (.lsub) 1 39 := ⟨by decide +kernel, rfl⟩
theorem rX2_sureCell_39 : tq_D cX2_sureCell 39 (.invokestatic 52) 3 42 := ⟨by decide +kernel, rfl⟩
theorem rX2_sureCell_42 : tq_J cX2_sureCell 42 .goto 46 45 := ⟨4, by decide +kernel, by decide, rfl⟩
theorem rX2_sureCell_45 : tq_D cX2_sureCell 45 (.iconst (-1)) 1 46 := ⟨by decide +kernel, rfl⟩
theorem rX2_sureCell_46 : decode cX2_sureCell 46 = .ok (.ireturn, 1) := by decide +kernel
noncomputable def FX2_sureCell_s4 (I : tq_PI) (L : tq_PL) (a0 : Nat) (a1 : Int64) (a3 : Int32) : Option ((Int64 × Int32) ⊕ (Int64)) :=
  (if (10 : Int32) ≤ a3 then some (.inr a1) else (if 0 ≤ a3 ∧ a3 < 10 then some (.inl ((a1 ||| (L (tq_rg a0 0) a3.toNatClampNeg)), (a3 + 1))) else none))
noncomputable def FX2_sureCell (I : tq_PI) (L : tq_PL) (a0 : Nat) : Option (Int32) :=
  ((tq_it (fun p : Int64 × Int32 => FX2_sureCell_s4 I L a0 p.1 p.2) tq_N ((0 : Int64), (1 : Int32))).bind fun p3 => (tq_let (FJ13_bitCount_95d88 I L p3) fun p4 => (if p4 = (1 : Int32) then (tq_let (FJ13_bitCount_95d88 I L ((p3 - (1 : Int64)))) fun p6 => some p6) else some (-1 : Int32))))
set_option maxRecDepth 100000 in
set_option maxHeartbeats 4000000 in
theorem FX2_sureCell_s4_x {S : Nat × (Nat → Int32)} {d : Nat} {I : tq_PI} {L : tq_PL} {a0 : Nat} {a1 : Int64} {a3 : Int32} (h0 : tq_sh0 a0 = 2) {q0 : Option Value → tq_PI → tq_PL → Prop} {out : (Int64 × Int32) ⊕ (Int64)} (hf : FX2_sureCell_s4 I L a0 a1 a3 = some out) (hk : Sum.elim (fun p : Int64 × Int32 => tq_X S mX2_sureCell (d + 1) tq_k0 4 ([.ref a0, .long p.1, tq_u, .int p.2]) [] (tq_st I L) (tq_Q q0)) (fun p : Int64 => tq_X S mX2_sureCell (d + 1) tq_k0 28 ([tq_u, .long p, tq_u, tq_u]) [] (tq_st I L) (tq_Q q0)) out) : tq_X S mX2_sureCell (d + 1) tq_k0 4 ([.ref a0, .long a1, tq_u, .int a3]) [] (tq_st I L) (tq_Q q0) := by
  unfold FX2_sureCell_s4 at hf
  refine tq_iload_n rX2_sureCell_4 rfl ?_
  refine tq_aload_n rX2_sureCell_5 rfl ?_
  refine ty_getR rX2_sureCell_6 f_X2_9 rfl h0 (hp_2_0 h0).1 ?_
  refine ty_alen (v := 10) rX2_sureCell_9 (hp_2_0 h0).2.1 (by decide) (hp_2_0 h0).2.2 rfl ?_
  refine tq_icmp_ge rX2_sureCell_10 (fun c1 => ?_) (fun c1 => ?_)
  · rw [if_pos c1] at hf
    have hf := Option.some.inj hf
    subst hf
    exact tq_forget _ (tq_le_u (tq_le_s (tq_le_u (tq_le_u tq_le_n)))) hk
  · rw [if_neg c1] at hf
    refine tq_lload_n rX2_sureCell_13 rfl ?_
    refine tq_aload_n rX2_sureCell_14 rfl ?_
    refine ty_getR rX2_sureCell_15 f_X2_9 rfl h0 (hp_2_0 h0).1 ?_
    refine tq_iload_n rX2_sureCell_18 rfl ?_
    obtain ⟨g2, hf⟩ := tq_chk hf
    refine ty_lald (v := 10) rX2_sureCell_19 (hp_2_0 h0).2.1 (hp_2_0 h0).2.2 rfl (by decide) g2 ?_
    refine tq_lor rX2_sureCell_20 ?_
    refine tq_lstore_n ([.ref a0, .long (a1 ||| (L (tq_rg a0 0) a3.toNatClampNeg)), tq_u, .int a3]) rX2_sureCell_21 (Nat.le_of_ble_eq_true rfl) rfl ?_
    refine tq_iinc (a3 + 1) ([.ref a0, .long (a1 ||| (L (tq_rg a0 0) a3.toNatClampNeg)), tq_u, .int (a3 + 1)]) rX2_sureCell_22 rfl (tq_inc (by decide)) (Nat.le_of_ble_eq_true rfl) rfl ?_
    refine tq_goto rX2_sureCell_25 ?_
    have hf := Option.some.inj hf
    subst hf
    exact tq_forget _ (tq_le_s (tq_le_s (tq_le_u (tq_le_s tq_le_n)))) hk

set_option maxRecDepth 100000 in
set_option maxHeartbeats 4000000 in
theorem CX2_sureCell {S : Nat × (Nat → Int32)} {d : Nat} {I : tq_PI} {L : tq_PL} {a0 : Nat} (h0 : tq_sh0 a0 = 2) {out : Int32} (hf : FX2_sureCell I L a0 = some out) : tq_K S mX2_sureCell (d + 1) [.ref a0] I L (tq_one2 (some (.int out)) I L) := by
  unfold FX2_sureCell at hf
  refine tq_K_of (by decide) (Nat.le_of_ble_eq_true rfl) (ls := [.ref a0, tq_u, tq_u, tq_u]) rfl ?_
  refine tq_lconst (0 : Int64) rX2_sureCell_0 (by decide) ?_
  refine tq_lstore_n ([.ref a0, .long (0 : Int64), tq_u, tq_u]) rX2_sureCell_1 (Nat.le_of_ble_eq_true rfl) rfl ?_
  refine tq_iconst (1 : Int32) rX2_sureCell_2 (by decide) ?_
  refine tq_istore_n ([.ref a0, .long (0 : Int64), tq_u, .int (1 : Int32)]) rX2_sureCell_3 (Nat.le_of_ble_eq_true rfl) rfl ?_
  obtain ⟨p3, e3, hf⟩ := Option.bind_eq_some_iff.mp hf
  refine tq_forget _ (tq_le_s (tq_le_s (tq_le_u (tq_le_s tq_le_n)))) ?_
  refine tq_it_elim (P := fun p : Int64 × Int32 => tq_X S mX2_sureCell (d + 1) tq_k0 4 ([.ref a0, .long p.1, tq_u, .int p.2]) [] (tq_st I L) (tq_Q (tq_one2 (some (.int out)) I L))) (R := fun p : Int64 => tq_X S mX2_sureCell (d + 1) tq_k0 28 ([tq_u, .long p, tq_u, tq_u]) [] (tq_st I L) (tq_Q (tq_one2 (some (.int out)) I L))) (fun p o hp hk => FX2_sureCell_s4_x  h0 hp hk) _ (((0 : Int64), (1 : Int32))) _ e3 ?_
  show tq_X _ _ _ _ _ _ _ _ _
  refine tq_lload_n rX2_sureCell_28 rfl ?_
  obtain ⟨p4, e4, hf⟩ := tq_let_elim hf
  refine ty_callSI p4 ([.long p3]) ([]) rX2_sureCell_29 l_X2_52 moJ13_bitCount_95d88 msJ13_bitCount_95d88 rfl rfl (Nat.le_of_ble_eq_true rfl) ⟨rfl, rfl⟩ (CJ13_bitCount_95d88  e4) ?_
  refine tq_iconst (1 : Int32) rX2_sureCell_32 (by decide) ?_
  refine tq_icmp_ne rX2_sureCell_33 (fun c5 => ?_) (fun c5 => ?_)
  · rw [if_neg c5] at hf
    refine tq_iconst (-1 : Int32) rX2_sureCell_45 (by decide) ?_
    refine ty_iret rX2_sureCell_46 rfl rfl ?_
    have hf := Option.some.inj hf
    subst hf
    exact ⟨rfl, rfl, rfl⟩
  · rw [if_pos c5] at hf
    refine tq_lload_n rX2_sureCell_36 rfl ?_
    refine tq_lconst (1 : Int64) rX2_sureCell_37 (by decide) ?_
    refine tq_lsub rX2_sureCell_38 ?_
    obtain ⟨p6, e6, hf⟩ := tq_let_elim hf
    refine ty_callSI p6 ([.long (p3 - (1 : Int64))]) ([]) rX2_sureCell_39 l_X2_52 moJ13_bitCount_95d88 msJ13_bitCount_95d88 rfl rfl (Nat.le_of_ble_eq_true rfl) ⟨rfl, rfl⟩ (CJ13_bitCount_95d88  e6) ?_
    refine tq_goto rX2_sureCell_42 ?_
    refine ty_iret rX2_sureCell_46 rfl rfl ?_
    have hf := Option.some.inj hf
    subst hf
    exact ⟨rfl, rfl, rfl⟩

