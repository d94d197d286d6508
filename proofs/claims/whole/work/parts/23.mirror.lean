/-! THE MIRROR, part 3: by program (wip/whole/gen_mirror.py). -/
abbrev mX5_run : tq_M := (yX5_run, cX5_run, 7, (Option.none : Option Jvm.ClassFile.FieldType), 0, 0)
theorem f_X5_32 : tq_fok RX5 32 5 6 := ⟨by decide, by decide, Or.inl (tq_sg2 _ (List.mem_of_getElem? (i := 54) rfl))⟩
theorem f_X5_35 : tq_fok RX5 35 5 7 := ⟨by decide, by decide, Or.inl (tq_sg2 _ (List.mem_of_getElem? (i := 56) rfl))⟩
theorem f_X5_38 : tq_fok RX5 38 5 8 := ⟨by decide, by decide, Or.inl (tq_sg2 _ (List.mem_of_getElem? (i := 58) rfl))⟩
theorem rX5_run_0 : tq_D cX5_run 0 (.aload_n 0) 1 1 := ⟨by decide +kernel, rfl⟩
theorem rX5_run_1 : tq_D cX5_run 1 (.iconst 0) 1 2 := ⟨by decide +kernel, rfl⟩
theorem rX5_run_2 : tq_D cX5_run 2 (.putfield 32) 3 5 := ⟨by decide +kernel, rfl⟩
theorem rX5_run_5 : tq_D cX5_run 5 (.aload_n 0) 1 6 := ⟨by decide +kernel, rfl⟩
theorem rX5_run_6 : tq_D cX5_run 6 (.iconst 0) 1 7 := ⟨by decide +kernel, rfl⟩
theorem rX5_run_7 : tq_D cX5_run 7 (.putfield 35) 3 10 := ⟨by decide +kernel, rfl⟩
theorem rX5_run_10 : tq_D cX5_run 10 (.aload_n 0) 1 11 := ⟨by decide +kernel, rfl⟩
theorem rX5_run_11 : tq_D cX5_run 11 (.aload_n 1) 1 12 := ⟨by decide +kernel, rfl⟩
theorem rX5_run_12 : tq_D cX5_run 12 (.invokevirtual 42) 3 15 := ⟨by decide +kernel, rfl⟩
theorem rX5_run_15 : tq_D cX5_run 15 (.putfield 38) 3 18 := ⟨by decide +kernel, rfl⟩
theorem rX5_run_18 : tq_D cX5_run 18 (.iconst 0) 1 19 := ⟨by decide +kernel, rfl⟩
theorem rX5_run_19 : tq_D cX5_run 19 (.istore_n 3) 1 20 := ⟨by decide +kernel, rfl⟩
theorem rX5_run_20 : tq_D cX5_run 20 (.iload_n 3) 1 21 := ⟨by decide +kernel, rfl⟩
theorem rX5_run_21 : tq_D cX5_run 21 (.iload_n 2) 1 22 := ⟨by decide +kernel, rfl⟩
theorem rX5_run_22 : tq_J cX5_run 22 (.if_icmp .ge) 105 25 := ⟨83, by decide +kernel, by decide, rfl⟩
theorem rX5_run_25 : tq_D cX5_run 25 (.iload_n 3) 1 26 := ⟨by decide +kernel, rfl⟩
theorem rX5_run_26 : tq_D cX5_run 26 (.iconst 2) 1 27 := ⟨by decide +kernel, rfl⟩
theorem rX5_run_27 : tq_D cX5_run 27 (.irem) 1 28 := ⟨by decide +kernel, rfl⟩
theorem rX5_run_28 : tq_D cX5_run 28 (.istore 4) 2 30 := ⟨by decide +kernel, rfl⟩
theorem rX5_run_30 : tq_D cX5_run 30 (.aload_n 1) 1 31 := ⟨by decide +kernel, rfl⟩
theorem rX5_run_31 : tq_D cX5_run 31 (.aload_n 1) 1 32 := ⟨by decide +kernel, rfl⟩
theorem rX5_run_32 : tq_D cX5_run 32 (.iload 4) 2 34 := ⟨by decide +kernel, rfl⟩
theorem rX5_run_34 : tq_D cX5_run 34 (.aload_n 0) 1 35 := ⟨by decide +kernel, rfl⟩
theorem rX5_run_35 : tq_D cX5_run 35 (.getfield 38) 3 38 := ⟨by decide +kernel, rfl⟩
theorem rX5_run_38 : tq_D cX5_run 38 (.invokevirtual 64) 3 41 := ⟨by decide +kernel, rfl⟩
theorem rX5_run_41 : tq_D cX5_run 41 (.invokevirtual 68) 3 44 := ⟨by decide +kernel, rfl⟩
theorem rX5_run_44 : tq_D cX5_run 44 (.lstore 5) 2 46 := ⟨by decide +kernel, rfl⟩
theorem rX5_run_46 : tq_D cX5_run 46 (.iload 4) 2 48 := ⟨by decide +kernel, rfl⟩
theorem rX5_run_48 : tq_J cX5_run 48 (.ifCond .ne) 69 51 := ⟨21, by decide +kernel, by decide, rfl⟩
theorem rX5_run_51 : tq_D cX5_run 51 (.aload_n 0) 1 52 := ⟨by decide +kernel, rfl⟩
theorem rX5_run_52 : tq_D cX5_run 52 (.dup) 1 53 := ⟨by decide +kernel, rfl⟩
theorem rX5_run_53 : tq_D cX5_run 53 (.getfield 32) 3 56 := ⟨by decide +kernel, rfl⟩
theorem rX5_run_56 : tq_D cX5_run 56 (.aload_n 1) 1 57 := ⟨by decide +kernel, rfl⟩
theorem rX5_run_57 : tq_D cX5_run 57 (.lload 5) 2 59 := ⟨by decide +kernel, rfl⟩
theorem rX5_run_59 : tq_D cX5_run 59 (.invokevirtual 72) 3 62 := ⟨by decide +kernel, rfl⟩
theorem rX5_run_62 : tq_D cX5_run 62 (.iadd) 1 63 := ⟨by decide +kernel, rfl⟩
theorem rX5_run_63 : tq_D cX5_run 63 (.putfield 32) 3 66 := ⟨by decide +kernel, rfl⟩
theorem rX5_run_66 : tq_J cX5_run 66 .goto 84 69 := ⟨18, by decide +kernel, by decide, rfl⟩
theorem rX5_run_69 : tq_D cX5_run 69 (.aload_n 0) 1 70 := ⟨by decide +kernel, rfl⟩
theorem rX5_run_70 : tq_D cX5_run 70 (.dup) 1 71 := ⟨by decide +kernel, rfl⟩
theorem rX5_run_71 : tq_D cX5_run 71 (.getfield 35) 3 74 := ⟨by decide +kernel, rfl⟩
theorem rX5_run_74 : tq_D cX5_run 74 (.aload_n 1) 1 75 := ⟨by decide +kernel, rfl⟩
theorem rX5_run_75 : tq_D cX5_run 75 (.lload 5) 2 77 := ⟨by decide +kernel, rfl⟩
theorem rX5_run_77 : tq_D cX5_run 77 (.invokevirtual 72) 3 80 := ⟨by decide +kernel, rfl⟩
theorem rX5_run_80 : tq_D cX5_run 80 (.iadd) 1 81 := ⟨by decide +kernel, rfl⟩
theorem rX5_run_81 : tq_D cX5_run 81 (.putfield 35) 3 84 := ⟨by decide +kernel, rfl⟩
theorem rX5_run_84 : tq_D cX5_run 84 (.aload_n 0) 1 85 := ⟨by decide +kernel, rfl⟩
theorem rX5_run_85 : tq_D cX5_run 85 (.dup) 1 86 := ⟨by decide +kernel, rfl⟩
theorem rX5_run_86 : tq_D cX5_run 86 (.getfield 38) 3 89 := ⟨by decide +kernel, rfl⟩
theorem rX5_run_89 : tq_D cX5_run 89 (.lload 5) 2 91 := ⟨by decide +kernel, rfl⟩
theorem rX5_run_91 : tq_D cX5_run 91 (.ldc2_w 58) 3 94 := ⟨by decide +kernel, rfl⟩
theorem rX5_run_94 : tq_D cX5_run 94 (.lxor) 1 95 := ⟨by decide +kernel, rfl⟩
theorem rX5_run_95 : tq_D cX5_run 95 (.land) 1 96 := ⟨by decide +kernel, rfl⟩
theorem rX5_run_96 : tq_D cX5_run 96 (.putfield 38) 3 99 := ⟨by decide +kernel, rfl⟩
theorem rX5_run_99 : tq_D cX5_run 99 (.iinc 3 1) 3 102 := ⟨by decide +kernel, rfl⟩
theorem rX5_run_102 : tq_J cX5_run 102 .goto 20 105 := ⟨(-82), by decide +kernel, by decide, rfl⟩
theorem rX5_run_105 : decode cX5_run 105 = .ok (.return_, 1) := by decide +kernel
noncomputable def FX5_run_j84L20 (I : tq_PI) (L : tq_PL) (a0 : Nat) (a1 : Nat) (a2 : Int32) (a3 : Int32) (a5 : Int64) : Option ((Int32 × tq_PI × tq_PL) ⊕ (tq_PI × tq_PL)) :=
  some (.inl ((a3 + 1), I, (tq_up2 L a0 8 ((L a0 8) &&& (a5 ^^^ (-1 : Int64))))))
noncomputable def FX5_run_s20 (I : tq_PI) (L : tq_PL) (a0 : Nat) (a1 : Nat) (a2 : Int32) (a3 : Int32) : Option ((Int32 × tq_PI × tq_PL) ⊕ (tq_PI × tq_PL)) :=
  (if a2 ≤ a3 then some (.inr (I, L)) else (if ¬ (2 : Int32) = 0 then ((FX3_safeFor I L a1 ((a3 - a3 / (2 : Int32) * (2 : Int32))) ((L a0 8))).bind fun p4 => (tq_let (FX3_dearest I L a1 p4) fun p5 => (if (a3 - a3 / (2 : Int32) * (2 : Int32)) = 0 then (tq_let (FX3_worthOf I L a1 p5) fun p8 => (FX5_run_j84L20 ((tq_up2 I a0 6 ((I a0 6) + p8))) L a0 a1 a2 a3 p5)) else (tq_let (FX3_worthOf I L a1 p5) fun p7 => (FX5_run_j84L20 ((tq_up2 I a0 7 ((I a0 7) + p7))) L a0 a1 a2 a3 p5))))) else none))
noncomputable def FX5_run (I : tq_PI) (L : tq_PL) (a0 : Nat) (a1 : Nat) (a2 : Int32) : Option (tq_PI × tq_PL) :=
  (tq_let (FX3_solid ((tq_up2 (tq_up2 I a0 6 (0 : Int32)) a0 7 (0 : Int32))) L a1) fun p1 => ((tq_it (fun p : Int32 × tq_PI × tq_PL => FX5_run_s20 p.2.1 p.2.2 a0 a1 a2 p.1) tq_N ((0 : Int32), (tq_up2 (tq_up2 I a0 6 (0 : Int32)) a0 7 (0 : Int32)), (tq_up2 L a0 8 p1))).bind fun p9 => some (p9.1, p9.2)))
set_option maxRecDepth 100000 in
set_option maxHeartbeats 4000000 in
theorem FX5_run_j84L20_x {S : Nat × (Nat → Int32)} {d : Nat} {I : tq_PI} {L : tq_PL} {a0 : Nat} {a1 : Nat} {a2 : Int32} {a3 : Int32} {a5 : Int64} (h0 : tq_sh0 a0 = 5) (h1 : tq_sh0 a1 = 3) {q0 : Option Value → tq_PI → tq_PL → Prop} {out : (Int32 × tq_PI × tq_PL) ⊕ (tq_PI × tq_PL)} (hf : FX5_run_j84L20 I L a0 a1 a2 a3 a5 = some out) (hk : Sum.elim (fun p : Int32 × tq_PI × tq_PL => tq_X S mX5_run (d + 4) tq_k0 20 ([.ref a0, .ref a1, .int a2, .int p.1, tq_u, tq_u, tq_u]) [] (tq_st p.2.1 p.2.2) (tq_Q q0)) (fun p : tq_PI × tq_PL => tq_X S mX5_run (d + 4) tq_k0 105 ([tq_u, tq_u, tq_u, tq_u, tq_u, tq_u, tq_u]) [] (tq_st p.1 p.2) (tq_Q q0)) out) : tq_X S mX5_run (d + 4) tq_k0 84 ([.ref a0, .ref a1, .int a2, .int a3, tq_u, .long a5, tq_u]) ([]) (tq_st I L) (tq_Q q0) := by
  unfold FX5_run_j84L20 at hf
  refine tq_aload_n rX5_run_84 rfl ?_
  refine tq_dup rX5_run_85 rfl ?_
  refine ty_getL rX5_run_86 f_X5_38 rfl h0 ?_
  refine tq_lload rX5_run_89 rfl ?_
  refine tq_ldc2 rX5_run_91 (k_X5_58) ?_
  refine tq_lxor rX5_run_94 ?_
  refine tq_land rX5_run_95 ?_
  refine ty_putL rX5_run_96 f_X5_38 rfl h0 rfl ?_
  refine tq_iinc (a3 + 1) ([.ref a0, .ref a1, .int a2, .int (a3 + 1), tq_u, .long a5, tq_u]) rX5_run_99 rfl (tq_inc (by decide)) (Nat.le_of_ble_eq_true rfl) rfl ?_
  refine tq_goto rX5_run_102 ?_
  have hf := Option.some.inj hf
  subst hf
  exact tq_forget _ (tq_le_s (tq_le_s (tq_le_s (tq_le_s (tq_le_u (tq_le_u (tq_le_u tq_le_n))))))) hk

set_option maxRecDepth 100000 in
set_option maxHeartbeats 4000000 in
theorem FX5_run_s20_x {S : Nat × (Nat → Int32)} {d : Nat} {I : tq_PI} {L : tq_PL} {a0 : Nat} {a1 : Nat} {a2 : Int32} {a3 : Int32} (h0 : tq_sh0 a0 = 5) (h1 : tq_sh0 a1 = 3) {q0 : Option Value → tq_PI → tq_PL → Prop} {out : (Int32 × tq_PI × tq_PL) ⊕ (tq_PI × tq_PL)} (hf : FX5_run_s20 I L a0 a1 a2 a3 = some out) (hk : Sum.elim (fun p : Int32 × tq_PI × tq_PL => tq_X S mX5_run (d + 4) tq_k0 20 ([.ref a0, .ref a1, .int a2, .int p.1, tq_u, tq_u, tq_u]) [] (tq_st p.2.1 p.2.2) (tq_Q q0)) (fun p : tq_PI × tq_PL => tq_X S mX5_run (d + 4) tq_k0 105 ([tq_u, tq_u, tq_u, tq_u, tq_u, tq_u, tq_u]) [] (tq_st p.1 p.2) (tq_Q q0)) out) : tq_X S mX5_run (d + 4) tq_k0 20 ([.ref a0, .ref a1, .int a2, .int a3, tq_u, tq_u, tq_u]) [] (tq_st I L) (tq_Q q0) := by
  unfold FX5_run_s20 at hf
  refine tq_iload_n rX5_run_20 rfl ?_
  refine tq_iload_n rX5_run_21 rfl ?_
  refine tq_icmp_ge rX5_run_22 (fun c2 => ?_) (fun c2 => ?_)
  · rw [if_pos c2] at hf
    have hf := Option.some.inj hf
    subst hf
    exact tq_forget _ (tq_le_u (tq_le_u (tq_le_u (tq_le_u (tq_le_u (tq_le_u (tq_le_u tq_le_n))))))) hk
  · rw [if_neg c2] at hf
    refine tq_iload_n rX5_run_25 rfl ?_
    refine tq_iconst (2 : Int32) rX5_run_26 (by decide) ?_
    obtain ⟨g3, hf⟩ := tq_chk hf
    refine tq_irem rX5_run_27 g3 ?_
    refine tq_istore ([.ref a0, .ref a1, .int a2, .int a3, .int (a3 - a3 / (2 : Int32) * (2 : Int32)), tq_u, tq_u]) rX5_run_28 (Nat.le_of_ble_eq_true rfl) rfl ?_
    refine tq_aload_n rX5_run_30 rfl ?_
    refine tq_aload_n rX5_run_31 rfl ?_
    refine tq_iload rX5_run_32 rfl ?_
    refine tq_aload_n rX5_run_34 rfl ?_
    refine ty_getL rX5_run_35 f_X5_38 rfl h0 ?_
    obtain ⟨p4, e4, hf⟩ := Option.bind_eq_some_iff.mp hf
    refine ty_callVJ p4 ([.int (a3 - a3 / (2 : Int32) * (2 : Int32)), .long (L a0 8)]) ([.ref a1]) rX5_run_38 l_X5_64 moX3_safeFor mvX3_safeFor h1 rfl rfl (Nat.le_of_ble_eq_true rfl) ⟨rfl, rfl⟩ (CX3_safeFor h1 e4) ?_
    obtain ⟨p5, e5, hf⟩ := tq_let_elim hf
    refine ty_callVJ p5 ([.long p4]) ([]) rX5_run_41 l_X5_68 moX3_dearest mvX3_dearest h1 rfl rfl (Nat.le_of_ble_eq_true rfl) ⟨rfl, rfl⟩ (CX3_dearest h1 e5) ?_
    refine tq_lstore ([.ref a0, .ref a1, .int a2, .int a3, .int (a3 - a3 / (2 : Int32) * (2 : Int32)), .long p5, tq_u]) rX5_run_44 (Nat.le_of_ble_eq_true rfl) rfl ?_
    refine tq_iload rX5_run_46 rfl ?_
    refine tq_if_ne rX5_run_48 (fun c6 => ?_) (fun c6 => ?_)
    · rw [if_neg c6] at hf
      refine tq_aload_n rX5_run_69 rfl ?_
      refine tq_dup rX5_run_70 rfl ?_
      refine ty_getI rX5_run_71 f_X5_35 rfl h0 ?_
      refine tq_aload_n rX5_run_74 rfl ?_
      refine tq_lload rX5_run_75 rfl ?_
      obtain ⟨p7, e7, hf⟩ := tq_let_elim hf
      refine ty_callVI p7 ([.long p5]) ([.int (I a0 7), .ref a0]) rX5_run_77 l_X5_72 moX3_worthOf mvX3_worthOf h1 rfl rfl (Nat.le_of_ble_eq_true rfl) ⟨rfl, rfl⟩ (CX3_worthOf h1 e7) ?_
      refine tq_iadd rX5_run_80 ?_
      refine ty_putI rX5_run_81 f_X5_35 rfl h0 rfl ?_
      exact tq_forget _ (tq_le_s (tq_le_s (tq_le_s (tq_le_s (tq_le_u (tq_le_s (tq_le_u tq_le_n))))))) (FX5_run_j84L20_x  h0 h1 hf hk)
    · rw [if_pos c6] at hf
      refine tq_aload_n rX5_run_51 rfl ?_
      refine tq_dup rX5_run_52 rfl ?_
      refine ty_getI rX5_run_53 f_X5_32 rfl h0 ?_
      refine tq_aload_n rX5_run_56 rfl ?_
      refine tq_lload rX5_run_57 rfl ?_
      obtain ⟨p8, e8, hf⟩ := tq_let_elim hf
      refine ty_callVI p8 ([.long p5]) ([.int (I a0 6), .ref a0]) rX5_run_59 l_X5_72 moX3_worthOf mvX3_worthOf h1 rfl rfl (Nat.le_of_ble_eq_true rfl) ⟨rfl, rfl⟩ (CX3_worthOf h1 e8) ?_
      refine tq_iadd rX5_run_62 ?_
      refine ty_putI rX5_run_63 f_X5_32 rfl h0 rfl ?_
      refine tq_goto rX5_run_66 ?_
      exact tq_forget _ (tq_le_s (tq_le_s (tq_le_s (tq_le_s (tq_le_u (tq_le_s (tq_le_u tq_le_n))))))) (FX5_run_j84L20_x  h0 h1 hf hk)

set_option maxRecDepth 100000 in
set_option maxHeartbeats 4000000 in
theorem CX5_run {S : Nat × (Nat → Int32)} {d : Nat} {I : tq_PI} {L : tq_PL} {a0 : Nat} {a1 : Nat} {a2 : Int32} (h0 : tq_sh0 a0 = 5) (h1 : tq_sh0 a1 = 3) {out : tq_PI × tq_PL} (hf : FX5_run I L a0 a1 a2 = some out) : tq_K S mX5_run (d + 4) [.ref a0, .ref a1, .int a2] I L (tq_one2 (none) out.1 out.2) := by
  unfold FX5_run at hf
  refine tq_K_of (by decide) (Nat.le_of_ble_eq_true rfl) (ls := [.ref a0, .ref a1, .int a2, tq_u, tq_u, tq_u, tq_u]) rfl ?_
  refine tq_aload_n rX5_run_0 rfl ?_
  refine tq_iconst (0 : Int32) rX5_run_1 (by decide) ?_
  refine ty_putI rX5_run_2 f_X5_32 rfl h0 rfl ?_
  refine tq_aload_n rX5_run_5 rfl ?_
  refine tq_iconst (0 : Int32) rX5_run_6 (by decide) ?_
  refine ty_putI rX5_run_7 f_X5_35 rfl h0 rfl ?_
  refine tq_aload_n rX5_run_10 rfl ?_
  refine tq_aload_n rX5_run_11 rfl ?_
  obtain ⟨p1, e1, hf⟩ := tq_let_elim hf
  refine ty_callVJ p1 ([]) ([.ref a0]) rX5_run_12 l_X5_42 moX3_solid mvX3_solid h1 rfl rfl (Nat.le_of_ble_eq_true rfl) ⟨rfl, rfl⟩ (CX3_solid h1 e1) ?_
  refine ty_putL rX5_run_15 f_X5_38 rfl h0 rfl ?_
  refine tq_iconst (0 : Int32) rX5_run_18 (by decide) ?_
  refine tq_istore_n ([.ref a0, .ref a1, .int a2, .int (0 : Int32), tq_u, tq_u, tq_u]) rX5_run_19 (Nat.le_of_ble_eq_true rfl) rfl ?_
  obtain ⟨p9, e9, hf⟩ := Option.bind_eq_some_iff.mp hf
  refine tq_forget _ (tq_le_s (tq_le_s (tq_le_s (tq_le_s (tq_le_u (tq_le_u (tq_le_u tq_le_n))))))) ?_
  refine tq_it_elim (P := fun p : Int32 × tq_PI × tq_PL => tq_X S mX5_run (d + 4) tq_k0 20 ([.ref a0, .ref a1, .int a2, .int p.1, tq_u, tq_u, tq_u]) [] (tq_st p.2.1 p.2.2) (tq_Q (tq_one2 (none) out.1 out.2))) (R := fun p : tq_PI × tq_PL => tq_X S mX5_run (d + 4) tq_k0 105 ([tq_u, tq_u, tq_u, tq_u, tq_u, tq_u, tq_u]) [] (tq_st p.1 p.2) (tq_Q (tq_one2 (none) out.1 out.2))) (fun p o hp hk => FX5_run_s20_x  h0 h1 hp hk) _ (((0 : Int32), (tq_up2 (tq_up2 I a0 6 (0 : Int32)) a0 7 (0 : Int32)), (tq_up2 L a0 8 p1))) _ e9 ?_
  show tq_X _ _ _ _ _ _ _ _ _
  refine ty_vret rX5_run_105 rfl rfl ?_
  have hf := Option.some.inj hf
  subst hf
  exact ⟨rfl, rfl, rfl⟩

abbrev mX6_stands : tq_M := (yX6_stands, cX6_stands, 3, (Option.some Jvm.ClassFile.FieldType.boolean), 0, 0)
theorem l_X6_40 : tq_lok RX6 40 mX3_standing.1 := Or.inl (tq_sg4 _ (List.mem_of_getElem? (i := 233) rfl))
theorem rX6_stands_0 : tq_D cX6_stands 0 (.aload_n 0) 1 1 := ⟨by decide +kernel, rfl⟩
theorem rX6_stands_1 : tq_D cX6_stands 1 (.lload_n 1) 1 2 := ⟨by decide +kernel, rfl⟩
theorem rX6_stands_2 : tq_D cX6_stands 2 (.invokevirtual 40) 3 5 := ⟨by decide +kernel, rfl⟩
theorem rX6_stands_5 : tq_D cX6_stands 5 (.lload_n 1) 1 6 := ⟨by decide +kernel, rfl⟩
theorem rX6_stands_6 : tq_D cX6_stands 6 (.lcmp) 1 7 := ⟨by decide +kernel, rfl⟩
theorem rX6_stands_7 : tq_J cX6_stands 7 (.ifCond .ne) 14 10 := ⟨7, by decide +kernel, by decide, rfl⟩
theorem rX6_stands_10 : tq_D cX6_stands 10 (.iconst 1) 1 11 := ⟨by decide +kernel, rfl⟩
theorem rX6_stands_11 : tq_J cX6_stands 11 .goto 15 14 := ⟨4, by decide +kernel, by decide, rfl⟩
theorem rX6_stands_14 : tq_D cX6_stands 14 (.iconst 0) 1 15 := ⟨by decide +kernel, rfl⟩
theorem rX6_stands_15 : decode cX6_stands 15 = .ok (.ireturn, 1) := by decide +kernel
noncomputable def FX6_stands (I : tq_PI) (L : tq_PL) (a0 : Nat) (a1 : Int64) : Bool :=
  (tq_let (FX3_standing I L a0 a1) fun p1 => (if (lg_cmp p1 a1) = 0 then true else false))
set_option maxRecDepth 100000 in
set_option maxHeartbeats 4000000 in
theorem CX6_stands {S : Nat × (Nat → Int32)} {d : Nat} {I : tq_PI} {L : tq_PL} {a0 : Nat} {a1 : Int64} (h0 : tq_sh0 a0 = 3) {out : Bool} (hf : FX6_stands I L a0 a1 = out) : tq_K S mX6_stands (d + 2) [.ref a0, .long a1] I L (tq_one2 (some (.int (tq_b out))) I L) := by
  unfold FX6_stands at hf
  refine tq_K_of (by decide) (Nat.le_of_ble_eq_true rfl) (ls := [.ref a0, .long a1, tq_u]) rfl ?_
  refine tq_aload_n rX6_stands_0 rfl ?_
  refine tq_lload_n rX6_stands_1 rfl ?_
  obtain ⟨p1, e1, hf⟩ := tq_let_elim hf
  refine ty_callVJ p1 ([.long a1]) ([]) rX6_stands_2 l_X6_40 moX3_standing mvX3_standing h0 rfl rfl (Nat.le_of_ble_eq_true rfl) ⟨rfl, rfl⟩ (CX3_standing h0 e1) ?_
  refine tq_lload_n rX6_stands_5 rfl ?_
  refine tq_lcmp rX6_stands_6 ?_
  refine tq_if_ne rX6_stands_7 (fun c2 => ?_) (fun c2 => ?_)
  · rw [if_neg c2] at hf
    refine tq_iconst (0 : Int32) rX6_stands_14 (by decide) ?_
    refine ty_zret (ty := .boolean) rX6_stands_15 rfl rfl rfl ?_
    subst hf
    exact ⟨rfl, rfl, rfl⟩
  · rw [if_pos c2] at hf
    refine tq_iconst (1 : Int32) rX6_stands_10 (by decide) ?_
    refine tq_goto rX6_stands_11 ?_
    refine ty_zret (ty := .boolean) rX6_stands_15 rfl rfl rfl ?_
    subst hf
    exact ⟨rfl, rfl, rfl⟩

abbrev mX6_holdByOne : tq_M := (yX6_holdByOne, cX6_holdByOne, 7, (Option.some Jvm.ClassFile.FieldType.boolean), 0, 0)
theorem moX6_stands : tq_mok mX6_stands 2 := ⟨tq_sg1 _ (List.mem_of_getElem? (i := 10) rfl), tq_sg4 _ (List.mem_of_getElem? (i := 232) rfl), ⟨by decide, by decide, by decide +kernel⟩, by decide⟩
theorem msX6_stands : Cond.static mX6_stands.1 ∈ lw_tbl := tq_sg4 _ (List.mem_of_getElem? (i := 231) rfl)
theorem f_X6_9 : tq_fok RX6 9 6 0 := ⟨by decide, by decide, Or.inl (tq_sg2 _ (List.mem_of_getElem? (i := 86) rfl))⟩
theorem l_X6_27 : tq_lok RX6 27 mX6_stands.1 := Or.inl (tq_sg4 _ (List.mem_of_getElem? (i := 230) rfl))
theorem l_X6_37 : tq_lok RX6 37 mX3_air.1 := Or.inl (tq_sg4 _ (List.mem_of_getElem? (i := 238) rfl))
theorem rX6_holdByOne_0 : tq_D cX6_holdByOne 0 (.iconst 0) 1 1 := ⟨by decide +kernel, rfl⟩
theorem rX6_holdByOne_1 : tq_D cX6_holdByOne 1 (.istore 4) 2 3 := ⟨by decide +kernel, rfl⟩
theorem rX6_holdByOne_3 : tq_D cX6_holdByOne 3 (.iload 4) 2 5 := ⟨by decide +kernel, rfl⟩
theorem rX6_holdByOne_5 : tq_D cX6_holdByOne 5 (.bipush 48) 2 7 := ⟨by decide +kernel, rfl⟩
theorem rX6_holdByOne_7 : tq_J cX6_holdByOne 7 (.if_icmp .ge) 53 10 := ⟨46, by decide +kernel, by decide, rfl⟩
theorem rX6_holdByOne_10 : tq_D cX6_holdByOne 10 (.aload_n 1) 1 11 := ⟨by decide +kernel, rfl⟩
theorem rX6_holdByOne_11 : tq_D cX6_holdByOne 11 (.invokevirtual 37) 3 14 := ⟨by decide +kernel, rfl⟩
theorem rX6_holdByOne_14 : tq_D cX6_holdByOne 14 (.lconst 1) 1 15 := ⟨by decide +kernel, rfl⟩
theorem rX6_holdByOne_15 : tq_D cX6_holdByOne 15 (.iload 4) 2 17 := ⟨by decide +kernel, rfl⟩
theorem rX6_holdByOne_17 : tq_D cX6_holdByOne 17 (.lshl) 1 18 := ⟨by decide +kernel, rfl⟩
theorem rX6_holdByOne_18 : tq_D cX6_holdByOne 18 (.land) 1 19 := ⟨by decide +kernel, rfl⟩
theorem rX6_holdByOne_19 : tq_D cX6_holdByOne 19 (.lstore 5) 2 21 := ⟨by decide +kernel, rfl⟩
theorem rX6_holdByOne_21 : tq_D cX6_holdByOne 21 (.lload 5) 2 23 := ⟨by decide +kernel, rfl⟩
theorem rX6_holdByOne_23 : tq_D cX6_holdByOne 23 (.lconst 0) 1 24 := ⟨by decide +kernel, rfl⟩
theorem rX6_holdByOne_24 : tq_D cX6_holdByOne 24 (.lcmp) 1 25 := ⟨by decide +kernel, rfl⟩
theorem rX6_holdByOne_25 : tq_J cX6_holdByOne 25 (.ifCond .eq) 47 28 := ⟨22, by decide +kernel, by decide, rfl⟩
theorem rX6_holdByOne_28 : tq_D cX6_holdByOne 28 (.aload_n 1) 1 29 := ⟨by decide +kernel, rfl⟩
theorem rX6_holdByOne_29 : tq_D cX6_holdByOne 29 (.lload_n 2) 1 30 := ⟨by decide +kernel, rfl⟩
theorem rX6_holdByOne_30 : tq_D cX6_holdByOne 30 (.lload 5) 2 32 := ⟨by decide +kernel, rfl⟩
theorem rX6_holdByOne_32 : tq_D cX6_holdByOne 32 (.lor) 1 33 := ⟨by decide +kernel, rfl⟩
theorem rX6_holdByOne_33 : tq_D cX6_holdByOne 33 (.invokestatic 27) 3 36 := ⟨by decide +kernel, rfl⟩
theorem rX6_holdByOne_36 : tq_J cX6_holdByOne 36 (.ifCond .eq) 47 39 := ⟨11, by decide +kernel, by decide, rfl⟩
theorem rX6_holdByOne_39 : tq_D cX6_holdByOne 39 (.aload_n 0) 1 40 := ⟨by decide +kernel, rfl⟩
theorem rX6_holdByOne_40 : tq_D cX6_holdByOne 40 (.lload 5) 2 42 := ⟨by decide +kernel, rfl⟩
theorem rX6_holdByOne_42 : tq_D cX6_holdByOne 42 (.putfield 9) 3 45 := ⟨by decide +kernel, rfl⟩
theorem rX6_holdByOne_45 : tq_D cX6_holdByOne 45 (.iconst 1) 1 46 := ⟨by decide +kernel, rfl⟩
theorem rX6_holdByOne_46 : decode cX6_holdByOne 46 = .ok (.ireturn, 1) := by decide +kernel
theorem rX6_holdByOne_47 : tq_D cX6_holdByOne 47 (.iinc 4 1) 3 50 := ⟨by decide +kernel, rfl⟩
theorem rX6_holdByOne_50 : tq_J cX6_holdByOne 50 .goto 3 53 := ⟨(-47), by decide +kernel, by decide, rfl⟩
theorem rX6_holdByOne_53 : tq_D cX6_holdByOne 53 (.iconst 0) 1 54 := ⟨by decide +kernel, rfl⟩
theorem rX6_holdByOne_54 : decode cX6_holdByOne 54 = .ok (.ireturn, 1) := by decide +kernel
noncomputable def FX6_holdByOne_j47L3 (I : tq_PI) (L : tq_PL) (a0 : Nat) (a1 : Nat) (a2 : Int64) (a4 : Int32) : Option ((Int32) ⊕ ((Unit) ⊕ (Bool × tq_PL))) :=
  some (.inl (a4 + 1))
noncomputable def FX6_holdByOne_s3 (I : tq_PI) (L : tq_PL) (a0 : Nat) (a1 : Nat) (a2 : Int64) (a4 : Int32) : Option ((Int32) ⊕ ((Unit) ⊕ (Bool × tq_PL))) :=
  (if (48 : Int32) ≤ a4 then some (.inr (.inl ())) else (tq_let (FX3_air I L a1) fun p2 => (if (lg_cmp (p2 &&& ((1 : Int64) <<< (Int32.toInt64 a4 &&& 63))) (0 : Int64)) = 0 then (FX6_holdByOne_j47L3 I L a0 a1 a2 a4) else (tq_let (FX6_stands I L a1 ((a2 ||| (p2 &&& ((1 : Int64) <<< (Int32.toInt64 a4 &&& 63)))))) fun p4 => (if (tq_b p4) = 0 then (FX6_holdByOne_j47L3 I L a0 a1 a2 a4) else some (.inr (.inr (true, (tq_up2 L a0 0 (p2 &&& ((1 : Int64) <<< (Int32.toInt64 a4 &&& 63))))))))))))
noncomputable def FX6_holdByOne (I : tq_PI) (L : tq_PL) (a0 : Nat) (a1 : Nat) (a2 : Int64) : Option (Bool × tq_PL) :=
  ((tq_it (fun p : Int32 => FX6_holdByOne_s3 I L a0 a1 a2 p) tq_N (0 : Int32)).bind fun p6 => p6.elim (fun t7 => some (false, L)) (fun t7 => some t7))
set_option maxRecDepth 100000 in
set_option maxHeartbeats 4000000 in
theorem FX6_holdByOne_j47L3_x {S : Nat × (Nat → Int32)} {d : Nat} {I : tq_PI} {L : tq_PL} {a0 : Nat} {a1 : Nat} {a2 : Int64} {a4 : Int32} (h0 : tq_sh0 a0 = 6) (h1 : tq_sh0 a1 = 3) {q0 : Option Value → tq_PI → tq_PL → Prop} {out : (Int32) ⊕ ((Unit) ⊕ (Bool × tq_PL))} (hf : FX6_holdByOne_j47L3 I L a0 a1 a2 a4 = some out) (hk : Sum.elim (fun p : Int32 => tq_X S mX6_holdByOne (d + 3) tq_k0 3 ([.ref a0, .ref a1, .long a2, tq_u, .int p, tq_u, tq_u]) [] (tq_st I L) (tq_Q q0)) (Sum.elim (fun p : Unit => tq_X S mX6_holdByOne (d + 3) tq_k0 53 ([tq_u, tq_u, tq_u, tq_u, tq_u, tq_u, tq_u]) [] (tq_st I L) (tq_Q q0)) (fun p : Bool × tq_PL => q0 (some (.int (tq_b p.1))) I p.2)) out) : tq_X S mX6_holdByOne (d + 3) tq_k0 47 ([.ref a0, .ref a1, .long a2, tq_u, .int a4, tq_u, tq_u]) ([]) (tq_st I L) (tq_Q q0) := by
  unfold FX6_holdByOne_j47L3 at hf
  refine tq_iinc (a4 + 1) ([.ref a0, .ref a1, .long a2, tq_u, .int (a4 + 1), tq_u, tq_u]) rX6_holdByOne_47 rfl (tq_inc (by decide)) (Nat.le_of_ble_eq_true rfl) rfl ?_
  refine tq_goto rX6_holdByOne_50 ?_
  have hf := Option.some.inj hf
  subst hf
  exact tq_forget _ (tq_le_s (tq_le_s (tq_le_s (tq_le_u (tq_le_s (tq_le_u (tq_le_u tq_le_n))))))) hk

set_option maxRecDepth 100000 in
set_option maxHeartbeats 4000000 in
theorem FX6_holdByOne_s3_x {S : Nat × (Nat → Int32)} {d : Nat} {I : tq_PI} {L : tq_PL} {a0 : Nat} {a1 : Nat} {a2 : Int64} {a4 : Int32} (h0 : tq_sh0 a0 = 6) (h1 : tq_sh0 a1 = 3) {q0 : Option Value → tq_PI → tq_PL → Prop} {out : (Int32) ⊕ ((Unit) ⊕ (Bool × tq_PL))} (hf : FX6_holdByOne_s3 I L a0 a1 a2 a4 = some out) (hk : Sum.elim (fun p : Int32 => tq_X S mX6_holdByOne (d + 3) tq_k0 3 ([.ref a0, .ref a1, .long a2, tq_u, .int p, tq_u, tq_u]) [] (tq_st I L) (tq_Q q0)) (Sum.elim (fun p : Unit => tq_X S mX6_holdByOne (d + 3) tq_k0 53 ([tq_u, tq_u, tq_u, tq_u, tq_u, tq_u, tq_u]) [] (tq_st I L) (tq_Q q0)) (fun p : Bool × tq_PL => q0 (some (.int (tq_b p.1))) I p.2)) out) : tq_X S mX6_holdByOne (d + 3) tq_k0 3 ([.ref a0, .ref a1, .long a2, tq_u, .int a4, tq_u, tq_u]) [] (tq_st I L) (tq_Q q0) := by
  unfold FX6_holdByOne_s3 at hf
  refine tq_iload rX6_holdByOne_3 rfl ?_
  refine tq_bipush (48 : Int32) rX6_holdByOne_5 (by decide) ?_
  refine tq_icmp_ge rX6_holdByOne_7 (fun c1 => ?_) (fun c1 => ?_)
  · rw [if_pos c1] at hf
    have hf := Option.some.inj hf
    subst hf
    exact tq_forget _ (tq_le_u (tq_le_u (tq_le_u (tq_le_u (tq_le_u (tq_le_u (tq_le_u tq_le_n))))))) hk
  · rw [if_neg c1] at hf
    refine tq_aload_n rX6_holdByOne_10 rfl ?_
    obtain ⟨p2, e2, hf⟩ := tq_let_elim hf
    refine ty_callVJ p2 ([]) ([]) rX6_holdByOne_11 l_X6_37 moX3_air mvX3_air h1 rfl rfl (Nat.le_of_ble_eq_true rfl) ⟨rfl, rfl⟩ (CX3_air h1 e2) ?_
    refine tq_lconst (1 : Int64) rX6_holdByOne_14 (by decide) ?_
    refine tq_iload rX6_holdByOne_15 rfl ?_
    refine tq_lshl rX6_holdByOne_17 ?_
    refine tq_land rX6_holdByOne_18 ?_
    refine tq_lstore ([.ref a0, .ref a1, .long a2, tq_u, .int a4, .long (p2 &&& ((1 : Int64) <<< (Int32.toInt64 a4 &&& 63))), tq_u]) rX6_holdByOne_19 (Nat.le_of_ble_eq_true rfl) rfl ?_
    refine tq_lload rX6_holdByOne_21 rfl ?_
    refine tq_lconst (0 : Int64) rX6_holdByOne_23 (by decide) ?_
    refine tq_lcmp rX6_holdByOne_24 ?_
    refine tq_if_eq rX6_holdByOne_25 (fun c3 => ?_) (fun c3 => ?_)
    · rw [if_pos c3] at hf
      exact tq_forget _ (tq_le_s (tq_le_s (tq_le_s (tq_le_u (tq_le_s (tq_le_u (tq_le_u tq_le_n))))))) (FX6_holdByOne_j47L3_x  h0 h1 hf hk)
    · rw [if_neg c3] at hf
      refine tq_aload_n rX6_holdByOne_28 rfl ?_
      refine tq_lload_n rX6_holdByOne_29 rfl ?_
      refine tq_lload rX6_holdByOne_30 rfl ?_
      refine tq_lor rX6_holdByOne_32 ?_
      obtain ⟨p4, e4, hf⟩ := tq_let_elim hf
      refine ty_callSI (tq_b p4) ([.ref a1, .long (a2 ||| (p2 &&& ((1 : Int64) <<< (Int32.toInt64 a4 &&& 63))))]) ([]) rX6_holdByOne_33 l_X6_27 moX6_stands msX6_stands rfl rfl (Nat.le_of_ble_eq_true rfl) ⟨rfl, rfl⟩ (CX6_stands h1 e4) ?_
      refine tq_if_eq rX6_holdByOne_36 (fun c5 => ?_) (fun c5 => ?_)
      · rw [if_pos c5] at hf
        exact tq_forget _ (tq_le_s (tq_le_s (tq_le_s (tq_le_u (tq_le_s (tq_le_u (tq_le_u tq_le_n))))))) (FX6_holdByOne_j47L3_x  h0 h1 hf hk)
      · rw [if_neg c5] at hf
        refine tq_aload_n rX6_holdByOne_39 rfl ?_
        refine tq_lload rX6_holdByOne_40 rfl ?_
        refine ty_putL rX6_holdByOne_42 f_X6_9 rfl h0 rfl ?_
        refine tq_iconst (1 : Int32) rX6_holdByOne_45 (by decide) ?_
        refine ty_zret (ty := .boolean) rX6_holdByOne_46 rfl rfl rfl ?_
        have hf := Option.some.inj hf
        subst hf
        exact hk

set_option maxRecDepth 100000 in
set_option maxHeartbeats 4000000 in
theorem CX6_holdByOne {S : Nat × (Nat → Int32)} {d : Nat} {I : tq_PI} {L : tq_PL} {a0 : Nat} {a1 : Nat} {a2 : Int64} (h0 : tq_sh0 a0 = 6) (h1 : tq_sh0 a1 = 3) {out : Bool × tq_PL} (hf : FX6_holdByOne I L a0 a1 a2 = some out) : tq_K S mX6_holdByOne (d + 3) [.ref a0, .ref a1, .long a2] I L (tq_one2 (some (.int (tq_b out.1))) I out.2) := by
  unfold FX6_holdByOne at hf
  refine tq_K_of (by decide) (Nat.le_of_ble_eq_true rfl) (ls := [.ref a0, .ref a1, .long a2, tq_u, tq_u, tq_u, tq_u]) rfl ?_
  refine tq_iconst (0 : Int32) rX6_holdByOne_0 (by decide) ?_
  refine tq_istore ([.ref a0, .ref a1, .long a2, tq_u, .int (0 : Int32), tq_u, tq_u]) rX6_holdByOne_1 (Nat.le_of_ble_eq_true rfl) rfl ?_
  obtain ⟨p6, e6, hf⟩ := Option.bind_eq_some_iff.mp hf
  refine tq_forget _ (tq_le_s (tq_le_s (tq_le_s (tq_le_u (tq_le_s (tq_le_u (tq_le_u tq_le_n))))))) ?_
  refine tq_it_elim (P := fun p : Int32 => tq_X S mX6_holdByOne (d + 3) tq_k0 3 ([.ref a0, .ref a1, .long a2, tq_u, .int p, tq_u, tq_u]) [] (tq_st I L) (tq_Q (tq_one2 (some (.int (tq_b out.1))) I out.2))) (R := Sum.elim (fun p : Unit => tq_X S mX6_holdByOne (d + 3) tq_k0 53 ([tq_u, tq_u, tq_u, tq_u, tq_u, tq_u, tq_u]) [] (tq_st I L) (tq_Q (tq_one2 (some (.int (tq_b out.1))) I out.2))) (fun p : Bool × tq_PL => (tq_one2 (some (.int (tq_b out.1))) I out.2) (some (.int (tq_b p.1))) I p.2)) (fun p o hp hk => FX6_holdByOne_s3_x  h0 h1 hp hk) _ ((0 : Int32)) _ e6 ?_
  rcases tq_selim hf with ⟨t7, t7q, hf⟩ | ⟨t7, t7q, hf⟩
  · rw [t7q]
    show tq_X _ _ _ _ _ _ _ _ _
    refine tq_iconst (0 : Int32) rX6_holdByOne_53 (by decide) ?_
    refine ty_zret (ty := .boolean) rX6_holdByOne_54 rfl rfl rfl ?_
    have hf := Option.some.inj hf
    subst hf
    exact ⟨rfl, rfl, rfl⟩
  · rw [t7q]
    have hf := Option.some.inj hf
    subst hf
    exact ⟨rfl, rfl, rfl⟩

abbrev mX6_holdByTwo : tq_M := (yX6_holdByTwo, cX6_holdByTwo, 10, (Option.some Jvm.ClassFile.FieldType.boolean), 0, 0)
theorem rX6_holdByTwo_0 : tq_D cX6_holdByTwo 0 (.iconst 0) 1 1 := ⟨by decide +kernel, rfl⟩
theorem rX6_holdByTwo_1 : tq_D cX6_holdByTwo 1 (.istore 4) 2 3 := ⟨by decide +kernel, rfl⟩
theorem rX6_holdByTwo_3 : tq_D cX6_holdByTwo 3 (.iload 4) 2 5 := ⟨by decide +kernel, rfl⟩
theorem rX6_holdByTwo_5 : tq_D cX6_holdByTwo 5 (.bipush 48) 2 7 := ⟨by decide +kernel, rfl⟩
theorem rX6_holdByTwo_7 : tq_J cX6_holdByTwo 7 (.if_icmp .ge) 96 10 := ⟨89, by decide +kernel, by decide, rfl⟩
theorem rX6_holdByTwo_10 : tq_D cX6_holdByTwo 10 (.aload_n 1) 1 11 := ⟨by decide +kernel, rfl⟩
theorem rX6_holdByTwo_11 : tq_D cX6_holdByTwo 11 (.invokevirtual 37) 3 14 := ⟨by decide +kernel, rfl⟩
theorem rX6_holdByTwo_14 : tq_D cX6_holdByTwo 14 (.lconst 1) 1 15 := ⟨by decide +kernel, rfl⟩
theorem rX6_holdByTwo_15 : tq_D cX6_holdByTwo 15 (.iload 4) 2 17 := ⟨by decide +kernel, rfl⟩
theorem rX6_holdByTwo_17 : tq_D cX6_holdByTwo 17 (.lshl) 1 18 := ⟨by decide +kernel, rfl⟩
theorem rX6_holdByTwo_18 : tq_D cX6_holdByTwo 18 (.land) 1 19 := ⟨by decide +kernel, rfl⟩
theorem rX6_holdByTwo_19 : tq_D cX6_holdByTwo 19 (.lstore 5) 2 21 := ⟨by decide +kernel, rfl⟩
theorem rX6_holdByTwo_21 : tq_D cX6_holdByTwo 21 (.iload 4) 2 23 := ⟨by decide +kernel, rfl⟩
theorem rX6_holdByTwo_23 : tq_D cX6_holdByTwo 23 (.iconst 1) 1 24 := ⟨by decide +kernel, rfl⟩
theorem rX6_holdByTwo_24 : tq_D cX6_holdByTwo 24 (.iadd) 1 25 := ⟨by decide +kernel, rfl⟩
theorem rX6_holdByTwo_25 : tq_D cX6_holdByTwo 25 (.istore 7) 2 27 := ⟨by decide +kernel, rfl⟩
theorem rX6_holdByTwo_27 : tq_D cX6_holdByTwo 27 (.iload 7) 2 29 := ⟨by decide +kernel, rfl⟩
theorem rX6_holdByTwo_29 : tq_D cX6_holdByTwo 29 (.bipush 48) 2 31 := ⟨by decide +kernel, rfl⟩
theorem rX6_holdByTwo_31 : tq_J cX6_holdByTwo 31 (.if_icmp .ge) 90 34 := ⟨59, by decide +kernel, by decide, rfl⟩
theorem rX6_holdByTwo_34 : tq_D cX6_holdByTwo 34 (.lload 5) 2 36 := ⟨by decide +kernel, rfl⟩
theorem rX6_holdByTwo_36 : tq_D cX6_holdByTwo 36 (.lconst 0) 1 37 := ⟨by decide +kernel, rfl⟩
theorem rX6_holdByTwo_37 : tq_D cX6_holdByTwo 37 (.lcmp) 1 38 := ⟨by decide +kernel, rfl⟩
theorem rX6_holdByTwo_38 : tq_J cX6_holdByTwo 38 (.ifCond .eq) 90 41 := ⟨52, by decide +kernel, by decide, rfl⟩
theorem rX6_holdByTwo_41 : tq_D cX6_holdByTwo 41 (.aload_n 1) 1 42 := ⟨by decide +kernel, rfl⟩
theorem rX6_holdByTwo_42 : tq_D cX6_holdByTwo 42 (.invokevirtual 37) 3 45 := ⟨by decide +kernel, rfl⟩
theorem rX6_holdByTwo_45 : tq_D cX6_holdByTwo 45 (.lconst 1) 1 46 := ⟨by decide +kernel, rfl⟩
theorem rX6_holdByTwo_46 : tq_D cX6_holdByTwo 46 (.iload 7) 2 48 := ⟨by decide +kernel, rfl⟩
theorem rX6_holdByTwo_48 : tq_D cX6_holdByTwo 48 (.lshl) 1 49 := ⟨by decide +kernel, rfl⟩
theorem rX6_holdByTwo_49 : tq_D cX6_holdByTwo 49 (.land) 1 50 := ⟨by decide +kernel, rfl⟩
theorem rX6_holdByTwo_50 : tq_D cX6_holdByTwo 50 (.lstore 8) 2 52 := ⟨by decide +kernel, rfl⟩
theorem rX6_holdByTwo_52 : tq_D cX6_holdByTwo 52 (.lload 8) 2 54 := ⟨by decide +kernel, rfl⟩
theorem rX6_holdByTwo_54 : tq_D cX6_holdByTwo 54 (.lconst 0) 1 55 := ⟨by decide +kernel, rfl⟩
theorem rX6_holdByTwo_55 : tq_D cX6_holdByTwo 55 (.lcmp) 1 56 := ⟨by decide +kernel, rfl⟩
theorem rX6_holdByTwo_56 : tq_J cX6_holdByTwo 56 (.ifCond .eq) 84 59 := ⟨28, by decide +kernel, by decide, rfl⟩
theorem rX6_holdByTwo_59 : tq_D cX6_holdByTwo 59 (.aload_n 1) 1 60 := ⟨by decide +kernel, rfl⟩
theorem rX6_holdByTwo_60 : tq_D cX6_holdByTwo 60 (.lload_n 2) 1 61 := ⟨by decide +kernel, rfl⟩
theorem rX6_holdByTwo_61 : tq_D cX6_holdByTwo 61 (.lload 5) 2 63 := ⟨by decide +kernel, rfl⟩
theorem rX6_holdByTwo_63 : tq_D cX6_holdByTwo 63 (.lor) 1 64 := ⟨by decide +kernel, rfl⟩
theorem rX6_holdByTwo_64 : tq_D cX6_holdByTwo 64 (.lload 8) 2 66 := ⟨by decide +kernel, rfl⟩
theorem rX6_holdByTwo_66 : tq_D cX6_holdByTwo 66 (.lor) 1 67 := ⟨by decide +kernel, rfl⟩
theorem rX6_holdByTwo_67 : tq_D cX6_holdByTwo 67 (.invokestatic 27) 3 70 := ⟨by decide +kernel, rfl⟩
theorem rX6_holdByTwo_70 : tq_J cX6_holdByTwo 70 (.ifCond .eq) 84 73 := ⟨14, by decide +kernel, by decide, rfl⟩
theorem rX6_holdByTwo_73 : tq_D cX6_holdByTwo 73 (.aload_n 0) 1 74 := ⟨by decide +kernel, rfl⟩
theorem rX6_holdByTwo_74 : tq_D cX6_holdByTwo 74 (.lload 5) 2 76 := ⟨by decide +kernel, rfl⟩
theorem rX6_holdByTwo_76 : tq_D cX6_holdByTwo 76 (.lload 8) 2 78 := ⟨by decide +kernel, rfl⟩
theorem rX6_holdByTwo_78 : tq_D cX6_holdByTwo 78 (.lor) 1 79 := ⟨by decide +kernel, rfl⟩
theorem rX6_holdByTwo_79 : tq_D cX6_holdByTwo 79 (.putfield 9) 3 82 := ⟨by decide +kernel, rfl⟩
theorem rX6_holdByTwo_82 : tq_D cX6_holdByTwo 82 (.iconst 1) 1 83 := ⟨by decide +kernel, rfl⟩
theorem rX6_holdByTwo_83 : decode cX6_holdByTwo 83 = .ok (.ireturn, 1) := by decide +kernel
theorem rX6_holdByTwo_84 : tq_D cX6_holdByTwo 84 (.iinc 7 1) 3 87 := ⟨by decide +kernel, rfl⟩
theorem rX6_holdByTwo_87 : tq_J cX6_holdByTwo 87 .goto 27 90 := ⟨(-60), by decide +kernel, by decide, rfl⟩
theorem rX6_holdByTwo_90 : tq_D cX6_holdByTwo 90 (.iinc 4 1) 3 93 := ⟨by decide +kernel, rfl⟩
theorem rX6_holdByTwo_93 : tq_J cX6_holdByTwo 93 .goto 3 96 := ⟨(-90), by decide +kernel, by decide, rfl⟩
theorem rX6_holdByTwo_96 : tq_D cX6_holdByTwo 96 (.iconst 0) 1 97 := ⟨by decide +kernel, rfl⟩
theorem rX6_holdByTwo_97 : decode cX6_holdByTwo 97 = .ok (.ireturn, 1) := by decide +kernel
noncomputable def FX6_holdByTwo_j84L27 (I : tq_PI) (L : tq_PL) (a0 : Nat) (a1 : Nat) (a2 : Int64) (a4 : Int32) (a5 : Int64) (a7 : Int32) : Option ((Int32) ⊕ ((Unit) ⊕ (Bool × tq_PL))) :=
  some (.inl (a7 + 1))
noncomputable def FX6_holdByTwo_s27 (I : tq_PI) (L : tq_PL) (a0 : Nat) (a1 : Nat) (a2 : Int64) (a4 : Int32) (a5 : Int64) (a7 : Int32) : Option ((Int32) ⊕ ((Unit) ⊕ (Bool × tq_PL))) :=
  (if (48 : Int32) ≤ a7 then some (.inr (.inl ())) else (if (lg_cmp a5 (0 : Int64)) = 0 then some (.inr (.inl ())) else (tq_let (FX3_air I L a1) fun p5 => (if (lg_cmp (p5 &&& ((1 : Int64) <<< (Int32.toInt64 a7 &&& 63))) (0 : Int64)) = 0 then (FX6_holdByTwo_j84L27 I L a0 a1 a2 a4 a5 a7) else (tq_let (FX6_stands I L a1 (((a2 ||| a5) ||| (p5 &&& ((1 : Int64) <<< (Int32.toInt64 a7 &&& 63)))))) fun p7 => (if (tq_b p7) = 0 then (FX6_holdByTwo_j84L27 I L a0 a1 a2 a4 a5 a7) else some (.inr (.inr (true, (tq_up2 L a0 0 (a5 ||| (p5 &&& ((1 : Int64) <<< (Int32.toInt64 a7 &&& 63))))))))))))))
noncomputable def FX6_holdByTwo_s3 (I : tq_PI) (L : tq_PL) (a0 : Nat) (a1 : Nat) (a2 : Int64) (a4 : Int32) : Option ((Int32) ⊕ ((Unit) ⊕ (Bool × tq_PL))) :=
  (if (48 : Int32) ≤ a4 then some (.inr (.inl ())) else (tq_let (FX3_air I L a1) fun p2 => ((tq_it (fun p : Int32 => FX6_holdByTwo_s27 I L a0 a1 a2 a4 ((p2 &&& ((1 : Int64) <<< (Int32.toInt64 a4 &&& 63)))) p) tq_N (a4 + (1 : Int32))).bind fun p9 => p9.elim (fun t10 => some (.inl (a4 + 1))) (fun t10 => some (.inr (.inr t10))))))
noncomputable def FX6_holdByTwo (I : tq_PI) (L : tq_PL) (a0 : Nat) (a1 : Nat) (a2 : Int64) : Option (Bool × tq_PL) :=
  ((tq_it (fun p : Int32 => FX6_holdByTwo_s3 I L a0 a1 a2 p) tq_N (0 : Int32)).bind fun p11 => p11.elim (fun t12 => some (false, L)) (fun t12 => some t12))
set_option maxRecDepth 100000 in
set_option maxHeartbeats 4000000 in
theorem FX6_holdByTwo_j84L27_x {S : Nat × (Nat → Int32)} {d : Nat} {I : tq_PI} {L : tq_PL} {a0 : Nat} {a1 : Nat} {a2 : Int64} {a4 : Int32} {a5 : Int64} {a7 : Int32} (h0 : tq_sh0 a0 = 6) (h1 : tq_sh0 a1 = 3) {q0 : Option Value → tq_PI → tq_PL → Prop} {out : (Int32) ⊕ ((Unit) ⊕ (Bool × tq_PL))} (hf : FX6_holdByTwo_j84L27 I L a0 a1 a2 a4 a5 a7 = some out) (hk : Sum.elim (fun p : Int32 => tq_X S mX6_holdByTwo (d + 3) tq_k0 27 ([.ref a0, .ref a1, .long a2, tq_u, .int a4, .long a5, tq_u, .int p, tq_u, tq_u]) [] (tq_st I L) (tq_Q q0)) (Sum.elim (fun p : Unit => tq_X S mX6_holdByTwo (d + 3) tq_k0 90 ([.ref a0, .ref a1, .long a2, tq_u, .int a4, tq_u, tq_u, tq_u, tq_u, tq_u]) [] (tq_st I L) (tq_Q q0)) (fun p : Bool × tq_PL => q0 (some (.int (tq_b p.1))) I p.2)) out) : tq_X S mX6_holdByTwo (d + 3) tq_k0 84 ([.ref a0, .ref a1, .long a2, tq_u, .int a4, .long a5, tq_u, .int a7, tq_u, tq_u]) ([]) (tq_st I L) (tq_Q q0) := by
  unfold FX6_holdByTwo_j84L27 at hf
  refine tq_iinc (a7 + 1) ([.ref a0, .ref a1, .long a2, tq_u, .int a4, .long a5, tq_u, .int (a7 + 1), tq_u, tq_u]) rX6_holdByTwo_84 rfl (tq_inc (by decide)) (Nat.le_of_ble_eq_true rfl) rfl ?_
  refine tq_goto rX6_holdByTwo_87 ?_
  have hf := Option.some.inj hf
  subst hf
  exact tq_forget _ (tq_le_s (tq_le_s (tq_le_s (tq_le_u (tq_le_s (tq_le_s (tq_le_u (tq_le_s (tq_le_u (tq_le_u tq_le_n)))))))))) hk

set_option maxRecDepth 100000 in
set_option maxHeartbeats 4000000 in
theorem FX6_holdByTwo_s27_x {S : Nat × (Nat → Int32)} {d : Nat} {I : tq_PI} {L : tq_PL} {a0 : Nat} {a1 : Nat} {a2 : Int64} {a4 : Int32} {a5 : Int64} {a7 : Int32} (h0 : tq_sh0 a0 = 6) (h1 : tq_sh0 a1 = 3) {q0 : Option Value → tq_PI → tq_PL → Prop} {out : (Int32) ⊕ ((Unit) ⊕ (Bool × tq_PL))} (hf : FX6_holdByTwo_s27 I L a0 a1 a2 a4 a5 a7 = some out) (hk : Sum.elim (fun p : Int32 => tq_X S mX6_holdByTwo (d + 3) tq_k0 27 ([.ref a0, .ref a1, .long a2, tq_u, .int a4, .long a5, tq_u, .int p, tq_u, tq_u]) [] (tq_st I L) (tq_Q q0)) (Sum.elim (fun p : Unit => tq_X S mX6_holdByTwo (d + 3) tq_k0 90 ([.ref a0, .ref a1, .long a2, tq_u, .int a4, tq_u, tq_u, tq_u, tq_u, tq_u]) [] (tq_st I L) (tq_Q q0)) (fun p : Bool × tq_PL => q0 (some (.int (tq_b p.1))) I p.2)) out) : tq_X S mX6_holdByTwo (d + 3) tq_k0 27 ([.ref a0, .ref a1, .long a2, tq_u, .int a4, .long a5, tq_u, .int a7, tq_u, tq_u]) [] (tq_st I L) (tq_Q q0) := by
  unfold FX6_holdByTwo_s27 at hf
  refine tq_iload rX6_holdByTwo_27 rfl ?_
  refine tq_bipush (48 : Int32) rX6_holdByTwo_29 (by decide) ?_
  refine tq_icmp_ge rX6_holdByTwo_31 (fun c3 => ?_) (fun c3 => ?_)
  · rw [if_pos c3] at hf
    have hf := Option.some.inj hf
    subst hf
    exact tq_forget _ (tq_le_s (tq_le_s (tq_le_s (tq_le_u (tq_le_s (tq_le_u (tq_le_u (tq_le_u (tq_le_u (tq_le_u tq_le_n)))))))))) hk
  · rw [if_neg c3] at hf
    refine tq_lload rX6_holdByTwo_34 rfl ?_
    refine tq_lconst (0 : Int64) rX6_holdByTwo_36 (by decide) ?_
    refine tq_lcmp rX6_holdByTwo_37 ?_
    refine tq_if_eq rX6_holdByTwo_38 (fun c4 => ?_) (fun c4 => ?_)
    · rw [if_pos c4] at hf
      have hf := Option.some.inj hf
      subst hf
      exact tq_forget _ (tq_le_s (tq_le_s (tq_le_s (tq_le_u (tq_le_s (tq_le_u (tq_le_u (tq_le_u (tq_le_u (tq_le_u tq_le_n)))))))))) hk
    · rw [if_neg c4] at hf
      refine tq_aload_n rX6_holdByTwo_41 rfl ?_
      obtain ⟨p5, e5, hf⟩ := tq_let_elim hf
      refine ty_callVJ p5 ([]) ([]) rX6_holdByTwo_42 l_X6_37 moX3_air mvX3_air h1 rfl rfl (Nat.le_of_ble_eq_true rfl) ⟨rfl, rfl⟩ (CX3_air h1 e5) ?_
      refine tq_lconst (1 : Int64) rX6_holdByTwo_45 (by decide) ?_
      refine tq_iload rX6_holdByTwo_46 rfl ?_
      refine tq_lshl rX6_holdByTwo_48 ?_
      refine tq_land rX6_holdByTwo_49 ?_
      refine tq_lstore ([.ref a0, .ref a1, .long a2, tq_u, .int a4, .long a5, tq_u, .int a7, .long (p5 &&& ((1 : Int64) <<< (Int32.toInt64 a7 &&& 63))), tq_u]) rX6_holdByTwo_50 (Nat.le_of_ble_eq_true rfl) rfl ?_
      refine tq_lload rX6_holdByTwo_52 rfl ?_
      refine tq_lconst (0 : Int64) rX6_holdByTwo_54 (by decide) ?_
      refine tq_lcmp rX6_holdByTwo_55 ?_
      refine tq_if_eq rX6_holdByTwo_56 (fun c6 => ?_) (fun c6 => ?_)
      · rw [if_pos c6] at hf
        exact tq_forget _ (tq_le_s (tq_le_s (tq_le_s (tq_le_u (tq_le_s (tq_le_s (tq_le_u (tq_le_s (tq_le_u (tq_le_u tq_le_n)))))))))) (FX6_holdByTwo_j84L27_x  h0 h1 hf hk)
      · rw [if_neg c6] at hf
        refine tq_aload_n rX6_holdByTwo_59 rfl ?_
        refine tq_lload_n rX6_holdByTwo_60 rfl ?_
        refine tq_lload rX6_holdByTwo_61 rfl ?_
        refine tq_lor rX6_holdByTwo_63 ?_
        refine tq_lload rX6_holdByTwo_64 rfl ?_
        refine tq_lor rX6_holdByTwo_66 ?_
        obtain ⟨p7, e7, hf⟩ := tq_let_elim hf
        refine ty_callSI (tq_b p7) ([.ref a1, .long ((a2 ||| a5) ||| (p5 &&& ((1 : Int64) <<< (Int32.toInt64 a7 &&& 63))))]) ([]) rX6_holdByTwo_67 l_X6_27 moX6_stands msX6_stands rfl rfl (Nat.le_of_ble_eq_true rfl) ⟨rfl, rfl⟩ (CX6_stands h1 e7) ?_
        refine tq_if_eq rX6_holdByTwo_70 (fun c8 => ?_) (fun c8 => ?_)
        · rw [if_pos c8] at hf
          exact tq_forget _ (tq_le_s (tq_le_s (tq_le_s (tq_le_u (tq_le_s (tq_le_s (tq_le_u (tq_le_s (tq_le_u (tq_le_u tq_le_n)))))))))) (FX6_holdByTwo_j84L27_x  h0 h1 hf hk)
        · rw [if_neg c8] at hf
          refine tq_aload_n rX6_holdByTwo_73 rfl ?_
          refine tq_lload rX6_holdByTwo_74 rfl ?_
          refine tq_lload rX6_holdByTwo_76 rfl ?_
          refine tq_lor rX6_holdByTwo_78 ?_
          refine ty_putL rX6_holdByTwo_79 f_X6_9 rfl h0 rfl ?_
          refine tq_iconst (1 : Int32) rX6_holdByTwo_82 (by decide) ?_
          refine ty_zret (ty := .boolean) rX6_holdByTwo_83 rfl rfl rfl ?_
          have hf := Option.some.inj hf
          subst hf
          exact hk

set_option maxRecDepth 100000 in
set_option maxHeartbeats 4000000 in
theorem FX6_holdByTwo_s3_x {S : Nat × (Nat → Int32)} {d : Nat} {I : tq_PI} {L : tq_PL} {a0 : Nat} {a1 : Nat} {a2 : Int64} {a4 : Int32} (h0 : tq_sh0 a0 = 6) (h1 : tq_sh0 a1 = 3) {q0 : Option Value → tq_PI → tq_PL → Prop} {out : (Int32) ⊕ ((Unit) ⊕ (Bool × tq_PL))} (hf : FX6_holdByTwo_s3 I L a0 a1 a2 a4 = some out) (hk : Sum.elim (fun p : Int32 => tq_X S mX6_holdByTwo (d + 3) tq_k0 3 ([.ref a0, .ref a1, .long a2, tq_u, .int p, tq_u, tq_u, tq_u, tq_u, tq_u]) [] (tq_st I L) (tq_Q q0)) (Sum.elim (fun p : Unit => tq_X S mX6_holdByTwo (d + 3) tq_k0 96 ([tq_u, tq_u, tq_u, tq_u, tq_u, tq_u, tq_u, tq_u, tq_u, tq_u]) [] (tq_st I L) (tq_Q q0)) (fun p : Bool × tq_PL => q0 (some (.int (tq_b p.1))) I p.2)) out) : tq_X S mX6_holdByTwo (d + 3) tq_k0 3 ([.ref a0, .ref a1, .long a2, tq_u, .int a4, tq_u, tq_u, tq_u, tq_u, tq_u]) [] (tq_st I L) (tq_Q q0) := by
  unfold FX6_holdByTwo_s3 at hf
  refine tq_iload rX6_holdByTwo_3 rfl ?_
  refine tq_bipush (48 : Int32) rX6_holdByTwo_5 (by decide) ?_
  refine tq_icmp_ge rX6_holdByTwo_7 (fun c1 => ?_) (fun c1 => ?_)
  · rw [if_pos c1] at hf
    have hf := Option.some.inj hf
    subst hf
    exact tq_forget _ (tq_le_u (tq_le_u (tq_le_u (tq_le_u (tq_le_u (tq_le_u (tq_le_u (tq_le_u (tq_le_u (tq_le_u tq_le_n)))))))))) hk
  · rw [if_neg c1] at hf
    refine tq_aload_n rX6_holdByTwo_10 rfl ?_
    obtain ⟨p2, e2, hf⟩ := tq_let_elim hf
    refine ty_callVJ p2 ([]) ([]) rX6_holdByTwo_11 l_X6_37 moX3_air mvX3_air h1 rfl rfl (Nat.le_of_ble_eq_true rfl) ⟨rfl, rfl⟩ (CX3_air h1 e2) ?_
    refine tq_lconst (1 : Int64) rX6_holdByTwo_14 (by decide) ?_
    refine tq_iload rX6_holdByTwo_15 rfl ?_
    refine tq_lshl rX6_holdByTwo_17 ?_
    refine tq_land rX6_holdByTwo_18 ?_
    refine tq_lstore ([.ref a0, .ref a1, .long a2, tq_u, .int a4, .long (p2 &&& ((1 : Int64) <<< (Int32.toInt64 a4 &&& 63))), tq_u, tq_u, tq_u, tq_u]) rX6_holdByTwo_19 (Nat.le_of_ble_eq_true rfl) rfl ?_
    refine tq_iload rX6_holdByTwo_21 rfl ?_
    refine tq_iconst (1 : Int32) rX6_holdByTwo_23 (by decide) ?_
    refine tq_iadd rX6_holdByTwo_24 ?_
    refine tq_istore ([.ref a0, .ref a1, .long a2, tq_u, .int a4, .long (p2 &&& ((1 : Int64) <<< (Int32.toInt64 a4 &&& 63))), tq_u, .int (a4 + (1 : Int32)), tq_u, tq_u]) rX6_holdByTwo_25 (Nat.le_of_ble_eq_true rfl) rfl ?_
    obtain ⟨p9, e9, hf⟩ := Option.bind_eq_some_iff.mp hf
    refine tq_forget _ (tq_le_s (tq_le_s (tq_le_s (tq_le_u (tq_le_s (tq_le_s (tq_le_u (tq_le_s (tq_le_u (tq_le_u tq_le_n)))))))))) ?_
    refine tq_it_elim (P := fun p : Int32 => tq_X S mX6_holdByTwo (d + 3) tq_k0 27 ([.ref a0, .ref a1, .long a2, tq_u, .int a4, .long (p2 &&& ((1 : Int64) <<< (Int32.toInt64 a4 &&& 63))), tq_u, .int p, tq_u, tq_u]) [] (tq_st I L) (tq_Q q0)) (R := Sum.elim (fun p : Unit => tq_X S mX6_holdByTwo (d + 3) tq_k0 90 ([.ref a0, .ref a1, .long a2, tq_u, .int a4, tq_u, tq_u, tq_u, tq_u, tq_u]) [] (tq_st I L) (tq_Q q0)) (fun p : Bool × tq_PL => q0 (some (.int (tq_b p.1))) I p.2)) (fun p o hp hk => FX6_holdByTwo_s27_x  h0 h1 hp hk) _ ((a4 + (1 : Int32))) _ e9 ?_
    rcases tq_selim hf with ⟨t10, t10q, hf⟩ | ⟨t10, t10q, hf⟩
    · rw [t10q]
      show tq_X _ _ _ _ _ _ _ _ _
      refine tq_iinc (a4 + 1) ([.ref a0, .ref a1, .long a2, tq_u, .int (a4 + 1), tq_u, tq_u, tq_u, tq_u, tq_u]) rX6_holdByTwo_90 rfl (tq_inc (by decide)) (Nat.le_of_ble_eq_true rfl) rfl ?_
      refine tq_goto rX6_holdByTwo_93 ?_
      have hf := Option.some.inj hf
      subst hf
      exact tq_forget _ (tq_le_s (tq_le_s (tq_le_s (tq_le_u (tq_le_s (tq_le_u (tq_le_u (tq_le_u (tq_le_u (tq_le_u tq_le_n)))))))))) hk
    · rw [t10q]
      have hf := Option.some.inj hf
      subst hf
      exact hk

set_option maxRecDepth 100000 in
set_option maxHeartbeats 4000000 in
theorem CX6_holdByTwo {S : Nat × (Nat → Int32)} {d : Nat} {I : tq_PI} {L : tq_PL} {a0 : Nat} {a1 : Nat} {a2 : Int64} (h0 : tq_sh0 a0 = 6) (h1 : tq_sh0 a1 = 3) {out : Bool × tq_PL} (hf : FX6_holdByTwo I L a0 a1 a2 = some out) : tq_K S mX6_holdByTwo (d + 3) [.ref a0, .ref a1, .long a2] I L (tq_one2 (some (.int (tq_b out.1))) I out.2) := by
  unfold FX6_holdByTwo at hf
  refine tq_K_of (by decide) (Nat.le_of_ble_eq_true rfl) (ls := [.ref a0, .ref a1, .long a2, tq_u, tq_u, tq_u, tq_u, tq_u, tq_u, tq_u]) rfl ?_
  refine tq_iconst (0 : Int32) rX6_holdByTwo_0 (by decide) ?_
  refine tq_istore ([.ref a0, .ref a1, .long a2, tq_u, .int (0 : Int32), tq_u, tq_u, tq_u, tq_u, tq_u]) rX6_holdByTwo_1 (Nat.le_of_ble_eq_true rfl) rfl ?_
  obtain ⟨p11, e11, hf⟩ := Option.bind_eq_some_iff.mp hf
  refine tq_forget _ (tq_le_s (tq_le_s (tq_le_s (tq_le_u (tq_le_s (tq_le_u (tq_le_u (tq_le_u (tq_le_u (tq_le_u tq_le_n)))))))))) ?_
  refine tq_it_elim (P := fun p : Int32 => tq_X S mX6_holdByTwo (d + 3) tq_k0 3 ([.ref a0, .ref a1, .long a2, tq_u, .int p, tq_u, tq_u, tq_u, tq_u, tq_u]) [] (tq_st I L) (tq_Q (tq_one2 (some (.int (tq_b out.1))) I out.2))) (R := Sum.elim (fun p : Unit => tq_X S mX6_holdByTwo (d + 3) tq_k0 96 ([tq_u, tq_u, tq_u, tq_u, tq_u, tq_u, tq_u, tq_u, tq_u, tq_u]) [] (tq_st I L) (tq_Q (tq_one2 (some (.int (tq_b out.1))) I out.2))) (fun p : Bool × tq_PL => (tq_one2 (some (.int (tq_b out.1))) I out.2) (some (.int (tq_b p.1))) I p.2)) (fun p o hp hk => FX6_holdByTwo_s3_x  h0 h1 hp hk) _ ((0 : Int32)) _ e11 ?_
  rcases tq_selim hf with ⟨t12, t12q, hf⟩ | ⟨t12, t12q, hf⟩
  · rw [t12q]
    show tq_X _ _ _ _ _ _ _ _ _
    refine tq_iconst (0 : Int32) rX6_holdByTwo_96 (by decide) ?_
    refine ty_zret (ty := .boolean) rX6_holdByTwo_97 rfl rfl rfl ?_
    have hf := Option.some.inj hf
    subst hf
    exact ⟨rfl, rfl, rfl⟩
  · rw [t12q]
    have hf := Option.some.inj hf
    subst hf
    exact ⟨rfl, rfl, rfl⟩

abbrev mX6_hold : tq_M := (yX6_hold, cX6_hold, 6, (Option.some Jvm.ClassFile.FieldType.boolean), 0, 0)
theorem moX6_holdByOne : tq_mok mX6_holdByOne 2 := ⟨tq_sg1 _ (List.mem_of_getElem? (i := 10) rfl), tq_sg4 _ (List.mem_of_getElem? (i := 237) rfl), ⟨by decide, by decide, by decide +kernel⟩, by decide⟩
theorem mvX6_holdByOne : 6 < 13 ∧ (tq_cl 6).1 = mX6_holdByOne.1.cls ∧ Cond.instanceMethod mX6_holdByOne.1 ∈ lw_tbl ∧ Cond.selects mX6_holdByOne.1.cls mX6_holdByOne.1 mX6_holdByOne.1 ∈ lw_tbl := ⟨by decide, rfl, tq_sg4 _ (List.mem_of_getElem? (i := 236) rfl), List.mem_append_left _ (List.mem_map.mpr ⟨_, List.mem_of_getElem? (i := 30) rfl, rfl⟩)⟩
theorem moX6_holdByTwo : tq_mok mX6_holdByTwo 2 := ⟨tq_sg1 _ (List.mem_of_getElem? (i := 10) rfl), tq_sg5 _ (List.mem_of_getElem? (i := 2) rfl), ⟨by decide, by decide, by decide +kernel⟩, by decide⟩
theorem mvX6_holdByTwo : 6 < 13 ∧ (tq_cl 6).1 = mX6_holdByTwo.1.cls ∧ Cond.instanceMethod mX6_holdByTwo.1 ∈ lw_tbl ∧ Cond.selects mX6_holdByTwo.1.cls mX6_holdByTwo.1 mX6_holdByTwo.1 ∈ lw_tbl := ⟨by decide, rfl, tq_sg5 _ (List.mem_of_getElem? (i := 1) rfl), List.mem_append_left _ (List.mem_map.mpr ⟨_, List.mem_of_getElem? (i := 31) rfl, rfl⟩)⟩
theorem k_X6_25 : Cond.constantLong RX6 25 (-1) ∈ lw_tbl := tq_sg4 _ (List.mem_of_getElem? (i := 229) rfl)
theorem l_X6_19 : tq_lok RX6 19 mX3_solid.1 := Or.inl (tq_sg4 _ (List.mem_of_getElem? (i := 228) rfl))
theorem l_X6_31 : tq_lok RX6 31 mX6_holdByOne.1 := Or.inl (tq_sg4 _ (List.mem_of_getElem? (i := 234) rfl))
theorem l_X6_34 : tq_lok RX6 34 mX6_holdByTwo.1 := Or.inl (tq_sg4 _ (List.mem_of_getElem? (i := 239) rfl))
theorem rX6_hold_0 : tq_D cX6_hold 0 (.aload_n 1) 1 1 := ⟨by decide +kernel, rfl⟩
theorem rX6_hold_1 : tq_D cX6_hold 1 (.invokevirtual 19) 3 4 := ⟨by decide +kernel, rfl⟩
theorem rX6_hold_4 : tq_D cX6_hold 4 (.lload_n 2) 1 5 := ⟨by decide +kernel, rfl⟩
theorem rX6_hold_5 : tq_D cX6_hold 5 (.ldc2_w 25) 3 8 := ⟨by decide +kernel, rfl⟩
theorem rX6_hold_8 : tq_D cX6_hold 8 (.lxor) 1 9 := ⟨by decide +kernel, rfl⟩
theorem rX6_hold_9 : tq_D cX6_hold 9 (.land) 1 10 := ⟨by decide +kernel, rfl⟩
theorem rX6_hold_10 : tq_D cX6_hold 10 (.lstore 4) 2 12 := ⟨by decide +kernel, rfl⟩
theorem rX6_hold_12 : tq_D cX6_hold 12 (.aload_n 0) 1 13 := ⟨by decide +kernel, rfl⟩
theorem rX6_hold_13 : tq_D cX6_hold 13 (.lconst 0) 1 14 := ⟨by decide +kernel, rfl⟩
theorem rX6_hold_14 : tq_D cX6_hold 14 (.putfield 9) 3 17 := ⟨by decide +kernel, rfl⟩
theorem rX6_hold_17 : tq_D cX6_hold 17 (.aload_n 1) 1 18 := ⟨by decide +kernel, rfl⟩
theorem rX6_hold_18 : tq_D cX6_hold 18 (.lload 4) 2 20 := ⟨by decide +kernel, rfl⟩
theorem rX6_hold_20 : tq_D cX6_hold 20 (.invokestatic 27) 3 23 := ⟨by decide +kernel, rfl⟩
theorem rX6_hold_23 : tq_J cX6_hold 23 (.ifCond .eq) 28 26 := ⟨5, by decide +kernel, by decide, rfl⟩
theorem rX6_hold_26 : tq_D cX6_hold 26 (.iconst 1) 1 27 := ⟨by decide +kernel, rfl⟩
theorem rX6_hold_27 : decode cX6_hold 27 = .ok (.ireturn, 1) := by decide +kernel
theorem rX6_hold_28 : tq_D cX6_hold 28 (.aload_n 0) 1 29 := ⟨by decide +kernel, rfl⟩
theorem rX6_hold_29 : tq_D cX6_hold 29 (.aload_n 1) 1 30 := ⟨by decide +kernel, rfl⟩
theorem rX6_hold_30 : tq_D cX6_hold 30 (.lload 4) 2 32 := ⟨by decide +kernel, rfl⟩
theorem rX6_hold_32 : tq_D cX6_hold 32 (.invokevirtual 31) 3 35 := ⟨by decide +kernel, rfl⟩
theorem rX6_hold_35 : tq_J cX6_hold 35 (.ifCond .ne) 48 38 := ⟨13, by decide +kernel, by decide, rfl⟩
theorem rX6_hold_38 : tq_D cX6_hold 38 (.aload_n 0) 1 39 := ⟨by decide +kernel, rfl⟩
theorem rX6_hold_39 : tq_D cX6_hold 39 (.aload_n 1) 1 40 := ⟨by decide +kernel, rfl⟩
theorem rX6_hold_40 : tq_D cX6_hold 40 (.lload 4) 2 42 := ⟨by decide +kernel, rfl⟩
theorem rX6_hold_42 : tq_D cX6_hold 42 (.invokevirtual 34) 3 45 := ⟨by decide +kernel, rfl⟩
theorem rX6_hold_45 : tq_J cX6_hold 45 (.ifCond .eq) 52 48 := ⟨7, by decide +kernel, by decide, rfl⟩
theorem rX6_hold_48 : tq_D cX6_hold 48 (.iconst 1) 1 49 := ⟨by decide +kernel, rfl⟩
theorem rX6_hold_49 : tq_J cX6_hold 49 .goto 53 52 := ⟨4, by decide +kernel, by decide, rfl⟩
theorem rX6_hold_52 : tq_D cX6_hold 52 (.iconst 0) 1 53 := ⟨by decide +kernel, rfl⟩
theorem rX6_hold_53 : decode cX6_hold 53 = .ok (.ireturn, 1) := by decide +kernel
noncomputable def FX6_hold_j48 (I : tq_PI) (L : tq_PL)  : Option (Bool × tq_PL) :=
  some (true, L)
noncomputable def FX6_hold (I : tq_PI) (L : tq_PL) (a0 : Nat) (a1 : Nat) (a2 : Int64) : Option (Bool × tq_PL) :=
  (tq_let (FX3_solid I L a1) fun p1 => (tq_let (FX6_stands I ((tq_up2 L a0 0 (0 : Int64))) a1 ((p1 &&& (a2 ^^^ (-1 : Int64))))) fun p2 => (if (tq_b p2) = 0 then ((FX6_holdByOne I ((tq_up2 L a0 0 (0 : Int64))) a0 a1 ((p1 &&& (a2 ^^^ (-1 : Int64))))).bind fun p4 => (if (tq_b p4.1) = 0 then ((FX6_holdByTwo I p4.2 a0 a1 ((p1 &&& (a2 ^^^ (-1 : Int64))))).bind fun p6 => (if (tq_b p6.1) = 0 then some (false, p6.2) else (FX6_hold_j48 I p6.2 ))) else (FX6_hold_j48 I p4.2 ))) else some (true, (tq_up2 L a0 0 (0 : Int64))))))
set_option maxRecDepth 100000 in
set_option maxHeartbeats 4000000 in
theorem FX6_hold_j48_x {S : Nat × (Nat → Int32)} {d : Nat} {I : tq_PI} {L : tq_PL}   {q0 : Option Value → tq_PI → tq_PL → Prop} {out : Bool × tq_PL} (hf : FX6_hold_j48 I L = some out) (hk : q0 (some (.int (tq_b out.1))) I out.2) : tq_X S mX6_hold (d + 4) tq_k0 48 ([tq_u, tq_u, tq_u, tq_u, tq_u, tq_u]) ([]) (tq_st I L) (tq_Q q0) := by
  unfold FX6_hold_j48 at hf
  refine tq_iconst (1 : Int32) rX6_hold_48 (by decide) ?_
  refine tq_goto rX6_hold_49 ?_
  refine ty_zret (ty := .boolean) rX6_hold_53 rfl rfl rfl ?_
  have hf := Option.some.inj hf
  subst hf
  exact hk

set_option maxRecDepth 100000 in
set_option maxHeartbeats 4000000 in
theorem CX6_hold {S : Nat × (Nat → Int32)} {d : Nat} {I : tq_PI} {L : tq_PL} {a0 : Nat} {a1 : Nat} {a2 : Int64} (h0 : tq_sh0 a0 = 6) (h1 : tq_sh0 a1 = 3) {out : Bool × tq_PL} (hf : FX6_hold I L a0 a1 a2 = some out) : tq_K S mX6_hold (d + 4) [.ref a0, .ref a1, .long a2] I L (tq_one2 (some (.int (tq_b out.1))) I out.2) := by
  unfold FX6_hold at hf
  refine tq_K_of (by decide) (Nat.le_of_ble_eq_true rfl) (ls := [.ref a0, .ref a1, .long a2, tq_u, tq_u, tq_u]) rfl ?_
  refine tq_aload_n rX6_hold_0 rfl ?_
  obtain ⟨p1, e1, hf⟩ := tq_let_elim hf
  refine ty_callVJ p1 ([]) ([]) rX6_hold_1 l_X6_19 moX3_solid mvX3_solid h1 rfl rfl (Nat.le_of_ble_eq_true rfl) ⟨rfl, rfl⟩ (CX3_solid h1 e1) ?_
  refine tq_lload_n rX6_hold_4 rfl ?_
  refine tq_ldc2 rX6_hold_5 (k_X6_25) ?_
  refine tq_lxor rX6_hold_8 ?_
  refine tq_land rX6_hold_9 ?_
  refine tq_lstore ([.ref a0, .ref a1, .long a2, tq_u, .long (p1 &&& (a2 ^^^ (-1 : Int64))), tq_u]) rX6_hold_10 (Nat.le_of_ble_eq_true rfl) rfl ?_
  refine tq_aload_n rX6_hold_12 rfl ?_
  refine tq_lconst (0 : Int64) rX6_hold_13 (by decide) ?_
  refine ty_putL rX6_hold_14 f_X6_9 rfl h0 rfl ?_
  refine tq_aload_n rX6_hold_17 rfl ?_
  refine tq_lload rX6_hold_18 rfl ?_
  obtain ⟨p2, e2, hf⟩ := tq_let_elim hf
  refine ty_callSI (tq_b p2) ([.ref a1, .long (p1 &&& (a2 ^^^ (-1 : Int64)))]) ([]) rX6_hold_20 l_X6_27 moX6_stands msX6_stands rfl rfl (Nat.le_of_ble_eq_true rfl) ⟨rfl, rfl⟩ (CX6_stands h1 e2) ?_
  refine tq_if_eq rX6_hold_23 (fun c3 => ?_) (fun c3 => ?_)
  · rw [if_pos c3] at hf
    refine tq_aload_n rX6_hold_28 rfl ?_
    refine tq_aload_n rX6_hold_29 rfl ?_
    refine tq_lload rX6_hold_30 rfl ?_
    obtain ⟨p4, e4, hf⟩ := Option.bind_eq_some_iff.mp hf
    refine ty_callVI (tq_b p4.1) ([.ref a1, .long (p1 &&& (a2 ^^^ (-1 : Int64)))]) ([]) rX6_hold_32 l_X6_31 moX6_holdByOne mvX6_holdByOne h0 rfl rfl (Nat.le_of_ble_eq_true rfl) ⟨rfl, rfl⟩ (CX6_holdByOne h0 h1 e4) ?_
    refine tq_if_ne rX6_hold_35 (fun c5 => ?_) (fun c5 => ?_)
    · rw [if_neg c5] at hf
      exact tq_forget _ (tq_le_u (tq_le_u (tq_le_u (tq_le_u (tq_le_u (tq_le_u tq_le_n)))))) (FX6_hold_j48_x   hf ⟨rfl, rfl, rfl⟩)
    · rw [if_pos c5] at hf
      refine tq_aload_n rX6_hold_38 rfl ?_
      refine tq_aload_n rX6_hold_39 rfl ?_
      refine tq_lload rX6_hold_40 rfl ?_
      obtain ⟨p6, e6, hf⟩ := Option.bind_eq_some_iff.mp hf
      refine ty_callVI (tq_b p6.1) ([.ref a1, .long (p1 &&& (a2 ^^^ (-1 : Int64)))]) ([]) rX6_hold_42 l_X6_34 moX6_holdByTwo mvX6_holdByTwo h0 rfl rfl (Nat.le_of_ble_eq_true rfl) ⟨rfl, rfl⟩ (CX6_holdByTwo h0 h1 e6) ?_
      refine tq_if_eq rX6_hold_45 (fun c7 => ?_) (fun c7 => ?_)
      · rw [if_pos c7] at hf
        refine tq_iconst (0 : Int32) rX6_hold_52 (by decide) ?_
        refine ty_zret (ty := .boolean) rX6_hold_53 rfl rfl rfl ?_
        have hf := Option.some.inj hf
        subst hf
        exact ⟨rfl, rfl, rfl⟩
      · rw [if_neg c7] at hf
        exact tq_forget _ (tq_le_u (tq_le_u (tq_le_u (tq_le_u (tq_le_u (tq_le_u tq_le_n)))))) (FX6_hold_j48_x   hf ⟨rfl, rfl, rfl⟩)
  · rw [if_neg c3] at hf
    refine tq_iconst (1 : Int32) rX6_hold_26 (by decide) ?_
    refine ty_zret (ty := .boolean) rX6_hold_27 rfl rfl rfl ?_
    have hf := Option.some.inj hf
    subst hf
    exact ⟨rfl, rfl, rfl⟩

abbrev mX6_weigh : tq_M := (yX6_weigh, cX6_weigh, 7, (Option.none : Option Jvm.ClassFile.FieldType), 0, 0)
theorem f_X6_15 : tq_fok RX6 15 6 1 := ⟨by decide, by decide, Or.inl (tq_sg2 _ (List.mem_of_getElem? (i := 88) rfl))⟩
theorem l_X6_48 : tq_lok RX6 48 mX3_safeFor.1 := Or.inl (tq_sg6 _ (List.mem_of_getElem? (i := 29) rfl))
theorem l_X6_52 : tq_lok RX6 52 mJ13_bitCount_95d88.1 := Or.inl (tq_sg6 _ (List.mem_of_getElem? (i := 30) rfl))
theorem rX6_weigh_0 : tq_D cX6_weigh 0 (.aload_n 1) 1 1 := ⟨by decide +kernel, rfl⟩
theorem rX6_weigh_1 : tq_D cX6_weigh 1 (.invokevirtual 19) 3 4 := ⟨by decide +kernel, rfl⟩
theorem rX6_weigh_4 : tq_D cX6_weigh 4 (.lload_n 2) 1 5 := ⟨by decide +kernel, rfl⟩
theorem rX6_weigh_5 : tq_D cX6_weigh 5 (.lor) 1 6 := ⟨by decide +kernel, rfl⟩
theorem rX6_weigh_6 : tq_D cX6_weigh 6 (.lstore 4) 2 8 := ⟨by decide +kernel, rfl⟩
theorem rX6_weigh_8 : tq_D cX6_weigh 8 (.aload_n 1) 1 9 := ⟨by decide +kernel, rfl⟩
theorem rX6_weigh_9 : tq_D cX6_weigh 9 (.lload 4) 2 11 := ⟨by decide +kernel, rfl⟩
theorem rX6_weigh_11 : tq_D cX6_weigh 11 (.invokestatic 27) 3 14 := ⟨by decide +kernel, rfl⟩
theorem rX6_weigh_14 : tq_J cX6_weigh 14 (.ifCond .ne) 18 17 := ⟨4, by decide +kernel, by decide, rfl⟩
theorem rX6_weigh_17 : decode cX6_weigh 17 = .ok (.return_, 1) := by decide +kernel
theorem rX6_weigh_18 : tq_D cX6_weigh 18 (.aload_n 1) 1 19 := ⟨by decide +kernel, rfl⟩
theorem rX6_weigh_19 : tq_D cX6_weigh 19 (.iconst 0) 1 20 := ⟨by decide +kernel, rfl⟩
theorem rX6_weigh_20 : tq_D cX6_weigh 20 (.lload 4) 2 22 := ⟨by decide +kernel, rfl⟩
theorem rX6_weigh_22 : tq_D cX6_weigh 22 (.invokevirtual 48) 3 25 := ⟨by decide +kernel, rfl⟩
theorem rX6_weigh_25 : tq_D cX6_weigh 25 (.invokestatic 52) 3 28 := ⟨by decide +kernel, rfl⟩
theorem rX6_weigh_28 : tq_D cX6_weigh 28 (.aload_n 1) 1 29 := ⟨by decide +kernel, rfl⟩
theorem rX6_weigh_29 : tq_D cX6_weigh 29 (.iconst 1) 1 30 := ⟨by decide +kernel, rfl⟩
theorem rX6_weigh_30 : tq_D cX6_weigh 30 (.lload 4) 2 32 := ⟨by decide +kernel, rfl⟩
theorem rX6_weigh_32 : tq_D cX6_weigh 32 (.invokevirtual 48) 3 35 := ⟨by decide +kernel, rfl⟩
theorem rX6_weigh_35 : tq_D cX6_weigh 35 (.invokestatic 52) 3 38 := ⟨by decide +kernel, rfl⟩
theorem rX6_weigh_38 : tq_D cX6_weigh 38 (.iadd) 1 39 := ⟨by decide +kernel, rfl⟩
theorem rX6_weigh_39 : tq_D cX6_weigh 39 (.istore 6) 2 41 := ⟨by decide +kernel, rfl⟩
theorem rX6_weigh_41 : tq_D cX6_weigh 41 (.iload 6) 2 43 := ⟨by decide +kernel, rfl⟩
theorem rX6_weigh_43 : tq_D cX6_weigh 43 (.aload_n 0) 1 44 := ⟨by decide +kernel, rfl⟩
theorem rX6_weigh_44 : tq_D cX6_weigh 44 (.getfield 15) 3 47 := ⟨by decide +kernel, rfl⟩
theorem rX6_weigh_47 : tq_J cX6_weigh 47 (.if_icmp .le) 61 50 := ⟨14, by decide +kernel, by decide, rfl⟩
theorem rX6_weigh_50 : tq_D cX6_weigh 50 (.aload_n 0) 1 51 := ⟨by decide +kernel, rfl⟩
theorem rX6_weigh_51 : tq_D cX6_weigh 51 (.iload 6) 2 53 := ⟨by decide +kernel, rfl⟩
theorem rX6_weigh_53 : tq_D cX6_weigh 53 (.putfield 15) 3 56 := ⟨by decide +kernel, rfl⟩
theorem rX6_weigh_56 : tq_D cX6_weigh 56 (.aload_n 0) 1 57 := ⟨by decide +kernel, rfl⟩
theorem rX6_weigh_57 : tq_D cX6_weigh 57 (.lload_n 2) 1 58 := ⟨by decide +kernel, rfl⟩
theorem rX6_weigh_58 : tq_D cX6_weigh 58 (.putfield 9) 3 61 := ⟨by decide +kernel, rfl⟩
theorem rX6_weigh_61 : decode cX6_weigh 61 = .ok (.return_, 1) := by decide +kernel
noncomputable def FX6_weigh (I : tq_PI) (L : tq_PL) (a0 : Nat) (a1 : Nat) (a2 : Int64) : Option (tq_PI × tq_PL) :=
  (tq_let (FX3_solid I L a1) fun p1 => (tq_let (FX6_stands I L a1 ((p1 ||| a2))) fun p2 => (if (tq_b p2) = 0 then some (I, L) else ((FX3_safeFor I L a1 ((0 : Int32)) ((p1 ||| a2))).bind fun p4 => (tq_let (FJ13_bitCount_95d88 I L p4) fun p5 => ((FX3_safeFor I L a1 ((1 : Int32)) ((p1 ||| a2))).bind fun p6 => (tq_let (FJ13_bitCount_95d88 I L p6) fun p7 => (if (p5 + p7) ≤ (I a0 1) then some (I, L) else some ((tq_up2 I a0 1 (p5 + p7)), (tq_up2 L a0 0 a2))))))))))
set_option maxRecDepth 100000 in
set_option maxHeartbeats 4000000 in
theorem CX6_weigh {S : Nat × (Nat → Int32)} {d : Nat} {I : tq_PI} {L : tq_PL} {a0 : Nat} {a1 : Nat} {a2 : Int64} (h0 : tq_sh0 a0 = 6) (h1 : tq_sh0 a1 = 3) {out : tq_PI × tq_PL} (hf : FX6_weigh I L a0 a1 a2 = some out) : tq_K S mX6_weigh (d + 4) [.ref a0, .ref a1, .long a2] I L (tq_one2 (none) out.1 out.2) := by
  unfold FX6_weigh at hf
  refine tq_K_of (by decide) (Nat.le_of_ble_eq_true rfl) (ls := [.ref a0, .ref a1, .long a2, tq_u, tq_u, tq_u, tq_u]) rfl ?_
  refine tq_aload_n rX6_weigh_0 rfl ?_
  obtain ⟨p1, e1, hf⟩ := tq_let_elim hf
  refine ty_callVJ p1 ([]) ([]) rX6_weigh_1 l_X6_19 moX3_solid mvX3_solid h1 rfl rfl (Nat.le_of_ble_eq_true rfl) ⟨rfl, rfl⟩ (CX3_solid h1 e1) ?_
  refine tq_lload_n rX6_weigh_4 rfl ?_
  refine tq_lor rX6_weigh_5 ?_
  refine tq_lstore ([.ref a0, .ref a1, .long a2, tq_u, .long (p1 ||| a2), tq_u, tq_u]) rX6_weigh_6 (Nat.le_of_ble_eq_true rfl) rfl ?_
  refine tq_aload_n rX6_weigh_8 rfl ?_
  refine tq_lload rX6_weigh_9 rfl ?_
  obtain ⟨p2, e2, hf⟩ := tq_let_elim hf
  refine ty_callSI (tq_b p2) ([.ref a1, .long (p1 ||| a2)]) ([]) rX6_weigh_11 l_X6_27 moX6_stands msX6_stands rfl rfl (Nat.le_of_ble_eq_true rfl) ⟨rfl, rfl⟩ (CX6_stands h1 e2) ?_
  refine tq_if_ne rX6_weigh_14 (fun c3 => ?_) (fun c3 => ?_)
  · rw [if_neg c3] at hf
    refine tq_aload_n rX6_weigh_18 rfl ?_
    refine tq_iconst (0 : Int32) rX6_weigh_19 (by decide) ?_
    refine tq_lload rX6_weigh_20 rfl ?_
    obtain ⟨p4, e4, hf⟩ := Option.bind_eq_some_iff.mp hf
    refine ty_callVJ p4 ([.int (0 : Int32), .long (p1 ||| a2)]) ([]) rX6_weigh_22 l_X6_48 moX3_safeFor mvX3_safeFor h1 rfl rfl (Nat.le_of_ble_eq_true rfl) ⟨rfl, rfl⟩ (CX3_safeFor h1 e4) ?_
    obtain ⟨p5, e5, hf⟩ := tq_let_elim hf
    refine ty_callSI p5 ([.long p4]) ([]) rX6_weigh_25 l_X6_52 moJ13_bitCount_95d88 msJ13_bitCount_95d88 rfl rfl (Nat.le_of_ble_eq_true rfl) ⟨rfl, rfl⟩ (CJ13_bitCount_95d88  e5) ?_
    refine tq_aload_n rX6_weigh_28 rfl ?_
    refine tq_iconst (1 : Int32) rX6_weigh_29 (by decide) ?_
    refine tq_lload rX6_weigh_30 rfl ?_
    obtain ⟨p6, e6, hf⟩ := Option.bind_eq_some_iff.mp hf
    refine ty_callVJ p6 ([.int (1 : Int32), .long (p1 ||| a2)]) ([.int p5]) rX6_weigh_32 l_X6_48 moX3_safeFor mvX3_safeFor h1 rfl rfl (Nat.le_of_ble_eq_true rfl) ⟨rfl, rfl⟩ (CX3_safeFor h1 e6) ?_
    obtain ⟨p7, e7, hf⟩ := tq_let_elim hf
    refine ty_callSI p7 ([.long p6]) ([.int p5]) rX6_weigh_35 l_X6_52 moJ13_bitCount_95d88 msJ13_bitCount_95d88 rfl rfl (Nat.le_of_ble_eq_true rfl) ⟨rfl, rfl⟩ (CJ13_bitCount_95d88  e7) ?_
    refine tq_iadd rX6_weigh_38 ?_
    refine tq_istore ([.ref a0, .ref a1, .long a2, tq_u, .long (p1 ||| a2), tq_u, .int (p5 + p7)]) rX6_weigh_39 (Nat.le_of_ble_eq_true rfl) rfl ?_
    refine tq_iload rX6_weigh_41 rfl ?_
    refine tq_aload_n rX6_weigh_43 rfl ?_
    refine ty_getI rX6_weigh_44 f_X6_15 rfl h0 ?_
    refine tq_icmp_le rX6_weigh_47 (fun c8 => ?_) (fun c8 => ?_)
    · rw [if_pos c8] at hf
      refine ty_vret rX6_weigh_61 rfl rfl ?_
      have hf := Option.some.inj hf
      subst hf
      exact ⟨rfl, rfl, rfl⟩
    · rw [if_neg c8] at hf
      refine tq_aload_n rX6_weigh_50 rfl ?_
      refine tq_iload rX6_weigh_51 rfl ?_
      refine ty_putI rX6_weigh_53 f_X6_15 rfl h0 rfl ?_
      refine tq_aload_n rX6_weigh_56 rfl ?_
      refine tq_lload_n rX6_weigh_57 rfl ?_
      refine ty_putL rX6_weigh_58 f_X6_9 rfl h0 rfl ?_
      refine ty_vret rX6_weigh_61 rfl rfl ?_
      have hf := Option.some.inj hf
      subst hf
      exact ⟨rfl, rfl, rfl⟩
  · rw [if_pos c3] at hf
    refine ty_vret rX6_weigh_17 rfl rfl ?_
    have hf := Option.some.inj hf
    subst hf
    exact ⟨rfl, rfl, rfl⟩

abbrev mX6_shore : tq_M := (yX6_shore, cX6_shore, 9, (Option.none : Option Jvm.ClassFile.FieldType), 0, 0)
theorem moX6_weigh : tq_mok mX6_weigh 2 := ⟨tq_sg1 _ (List.mem_of_getElem? (i := 10) rfl), tq_sg6 _ (List.mem_of_getElem? (i := 28) rfl), ⟨by decide, by decide, by decide +kernel⟩, by decide⟩
theorem mvX6_weigh : 6 < 13 ∧ (tq_cl 6).1 = mX6_weigh.1.cls ∧ Cond.instanceMethod mX6_weigh.1 ∈ lw_tbl ∧ Cond.selects mX6_weigh.1.cls mX6_weigh.1 mX6_weigh.1 ∈ lw_tbl := ⟨by decide, rfl, tq_sg6 _ (List.mem_of_getElem? (i := 27) rfl), List.mem_append_left _ (List.mem_map.mpr ⟨_, List.mem_of_getElem? (i := 40) rfl, rfl⟩)⟩
theorem l_X6_44 : tq_lok RX6 44 mX6_weigh.1 := Or.inl (tq_sg6 _ (List.mem_of_getElem? (i := 25) rfl))
theorem rX6_shore_0 : tq_D cX6_shore 0 (.aload_n 0) 1 1 := ⟨by decide +kernel, rfl⟩
theorem rX6_shore_1 : tq_D cX6_shore 1 (.lconst 0) 1 2 := ⟨by decide +kernel, rfl⟩
theorem rX6_shore_2 : tq_D cX6_shore 2 (.putfield 9) 3 5 := ⟨by decide +kernel, rfl⟩
theorem rX6_shore_5 : tq_D cX6_shore 5 (.aload_n 0) 1 6 := ⟨by decide +kernel, rfl⟩
theorem rX6_shore_6 : tq_D cX6_shore 6 (.iconst (-1)) 1 7 := ⟨by decide +kernel, rfl⟩
theorem rX6_shore_7 : tq_D cX6_shore 7 (.putfield 15) 3 10 := ⟨by decide +kernel, rfl⟩
theorem rX6_shore_10 : tq_D cX6_shore 10 (.iload_n 2) 1 11 := ⟨by decide +kernel, rfl⟩
theorem rX6_shore_11 : tq_J cX6_shore 11 (.ifCond .ne) 21 14 := ⟨10, by decide +kernel, by decide, rfl⟩
theorem rX6_shore_14 : tq_D cX6_shore 14 (.aload_n 0) 1 15 := ⟨by decide +kernel, rfl⟩
theorem rX6_shore_15 : tq_D cX6_shore 15 (.aload_n 1) 1 16 := ⟨by decide +kernel, rfl⟩
theorem rX6_shore_16 : tq_D cX6_shore 16 (.lconst 0) 1 17 := ⟨by decide +kernel, rfl⟩
theorem rX6_shore_17 : tq_D cX6_shore 17 (.invokevirtual 44) 3 20 := ⟨by decide +kernel, rfl⟩
theorem rX6_shore_20 : decode cX6_shore 20 = .ok (.return_, 1) := by decide +kernel
theorem rX6_shore_21 : tq_D cX6_shore 21 (.iconst 0) 1 22 := ⟨by decide +kernel, rfl⟩
theorem rX6_shore_22 : tq_D cX6_shore 22 (.istore_n 3) 1 23 := ⟨by decide +kernel, rfl⟩
theorem rX6_shore_23 : tq_D cX6_shore 23 (.iload_n 3) 1 24 := ⟨by decide +kernel, rfl⟩
theorem rX6_shore_24 : tq_D cX6_shore 24 (.bipush 48) 2 26 := ⟨by decide +kernel, rfl⟩
theorem rX6_shore_26 : tq_J cX6_shore 26 (.if_icmp .ge) 122 29 := ⟨96, by decide +kernel, by decide, rfl⟩
theorem rX6_shore_29 : tq_D cX6_shore 29 (.aload_n 1) 1 30 := ⟨by decide +kernel, rfl⟩
theorem rX6_shore_30 : tq_D cX6_shore 30 (.invokevirtual 37) 3 33 := ⟨by decide +kernel, rfl⟩
theorem rX6_shore_33 : tq_D cX6_shore 33 (.lconst 1) 1 34 := ⟨by decide +kernel, rfl⟩
theorem rX6_shore_34 : tq_D cX6_shore 34 (.iload_n 3) 1 35 := ⟨by decide +kernel, rfl⟩
theorem rX6_shore_35 : tq_D cX6_shore 35 (.lshl) 1 36 := ⟨by decide +kernel, rfl⟩
theorem rX6_shore_36 : tq_D cX6_shore 36 (.land) 1 37 := ⟨by decide +kernel, rfl⟩
theorem rX6_shore_37 : tq_D cX6_shore 37 (.lstore 4) 2 39 := ⟨by decide +kernel, rfl⟩
theorem rX6_shore_39 : tq_D cX6_shore 39 (.lload 4) 2 41 := ⟨by decide +kernel, rfl⟩
theorem rX6_shore_41 : tq_D cX6_shore 41 (.lconst 0) 1 42 := ⟨by decide +kernel, rfl⟩
theorem rX6_shore_42 : tq_D cX6_shore 42 (.lcmp) 1 43 := ⟨by decide +kernel, rfl⟩
theorem rX6_shore_43 : tq_J cX6_shore 43 (.ifCond .eq) 58 46 := ⟨15, by decide +kernel, by decide, rfl⟩
theorem rX6_shore_46 : tq_D cX6_shore 46 (.iload_n 2) 1 47 := ⟨by decide +kernel, rfl⟩
theorem rX6_shore_47 : tq_D cX6_shore 47 (.iconst 1) 1 48 := ⟨by decide +kernel, rfl⟩
theorem rX6_shore_48 : tq_J cX6_shore 48 (.if_icmp .ne) 58 51 := ⟨10, by decide +kernel, by decide, rfl⟩
theorem rX6_shore_51 : tq_D cX6_shore 51 (.aload_n 0) 1 52 := ⟨by decide +kernel, rfl⟩
theorem rX6_shore_52 : tq_D cX6_shore 52 (.aload_n 1) 1 53 := ⟨by decide +kernel, rfl⟩
theorem rX6_shore_53 : tq_D cX6_shore 53 (.lload 4) 2 55 := ⟨by decide +kernel, rfl⟩
theorem rX6_shore_55 : tq_D cX6_shore 55 (.invokevirtual 44) 3 58 := ⟨by decide +kernel, rfl⟩
theorem rX6_shore_58 : tq_D cX6_shore 58 (.iload_n 3) 1 59 := ⟨by decide +kernel, rfl⟩
theorem rX6_shore_59 : tq_D cX6_shore 59 (.iconst 1) 1 60 := ⟨by decide +kernel, rfl⟩
theorem rX6_shore_60 : tq_D cX6_shore 60 (.iadd) 1 61 := ⟨by decide +kernel, rfl⟩
theorem rX6_shore_61 : tq_D cX6_shore 61 (.istore 6) 2 63 := ⟨by decide +kernel, rfl⟩
theorem rX6_shore_63 : tq_D cX6_shore 63 (.iload 6) 2 65 := ⟨by decide +kernel, rfl⟩
theorem rX6_shore_65 : tq_D cX6_shore 65 (.bipush 48) 2 67 := ⟨by decide +kernel, rfl⟩
theorem rX6_shore_67 : tq_J cX6_shore 67 (.if_icmp .ge) 116 70 := ⟨49, by decide +kernel, by decide, rfl⟩
theorem rX6_shore_70 : tq_D cX6_shore 70 (.lload 4) 2 72 := ⟨by decide +kernel, rfl⟩
theorem rX6_shore_72 : tq_D cX6_shore 72 (.lconst 0) 1 73 := ⟨by decide +kernel, rfl⟩
theorem rX6_shore_73 : tq_D cX6_shore 73 (.lcmp) 1 74 := ⟨by decide +kernel, rfl⟩
theorem rX6_shore_74 : tq_J cX6_shore 74 (.ifCond .eq) 116 77 := ⟨42, by decide +kernel, by decide, rfl⟩
theorem rX6_shore_77 : tq_D cX6_shore 77 (.iload_n 2) 1 78 := ⟨by decide +kernel, rfl⟩
theorem rX6_shore_78 : tq_D cX6_shore 78 (.iconst 2) 1 79 := ⟨by decide +kernel, rfl⟩
theorem rX6_shore_79 : tq_J cX6_shore 79 (.if_icmp .ne) 116 82 := ⟨37, by decide +kernel, by decide, rfl⟩
theorem rX6_shore_82 : tq_D cX6_shore 82 (.aload_n 1) 1 83 := ⟨by decide +kernel, rfl⟩
theorem rX6_shore_83 : tq_D cX6_shore 83 (.invokevirtual 37) 3 86 := ⟨by decide +kernel, rfl⟩
theorem rX6_shore_86 : tq_D cX6_shore 86 (.lconst 1) 1 87 := ⟨by decide +kernel, rfl⟩
theorem rX6_shore_87 : tq_D cX6_shore 87 (.iload 6) 2 89 := ⟨by decide +kernel, rfl⟩
theorem rX6_shore_89 : tq_D cX6_shore 89 (.lshl) 1 90 := ⟨by decide +kernel, rfl⟩
theorem rX6_shore_90 : tq_D cX6_shore 90 (.land) 1 91 := ⟨by decide +kernel, rfl⟩
theorem rX6_shore_91 : tq_D cX6_shore 91 (.lstore 7) 2 93 := ⟨by decide +kernel, rfl⟩
theorem rX6_shore_93 : tq_D cX6_shore 93 (.lload 7) 2 95 := ⟨by decide +kernel, rfl⟩
theorem rX6_shore_95 : tq_D cX6_shore 95 (.lconst 0) 1 96 := ⟨by decide +kernel, rfl⟩
theorem rX6_shore_96 : tq_D cX6_shore 96 (.lcmp) 1 97 := ⟨by decide +kernel, rfl⟩
theorem rX6_shore_97 : tq_J cX6_shore 97 (.ifCond .eq) 110 100 := ⟨13, by decide +kernel, by decide, rfl⟩
theorem rX6_shore_100 : tq_D cX6_shore 100 (.aload_n 0) 1 101 := ⟨by decide +kernel, rfl⟩
theorem rX6_shore_101 : tq_D cX6_shore 101 (.aload_n 1) 1 102 := ⟨by decide +kernel, rfl⟩
theorem rX6_shore_102 : tq_D cX6_shore 102 (.lload 4) 2 104 := ⟨by decide +kernel, rfl⟩
theorem rX6_shore_104 : tq_D cX6_shore 104 (.lload 7) 2 106 := ⟨by decide +kernel, rfl⟩
theorem rX6_shore_106 : tq_D cX6_shore 106 (.lor) 1 107 := ⟨by decide +kernel, rfl⟩
theorem rX6_shore_107 : tq_D cX6_shore 107 (.invokevirtual 44) 3 110 := ⟨by decide +kernel, rfl⟩
theorem rX6_shore_110 : tq_D cX6_shore 110 (.iinc 6 1) 3 113 := ⟨by decide +kernel, rfl⟩
theorem rX6_shore_113 : tq_J cX6_shore 113 .goto 63 116 := ⟨(-50), by decide +kernel, by decide, rfl⟩
theorem rX6_shore_116 : tq_D cX6_shore 116 (.iinc 3 1) 3 119 := ⟨by decide +kernel, rfl⟩
theorem rX6_shore_119 : tq_J cX6_shore 119 .goto 23 122 := ⟨(-96), by decide +kernel, by decide, rfl⟩
theorem rX6_shore_122 : decode cX6_shore 122 = .ok (.return_, 1) := by decide +kernel
noncomputable def FX6_shore_j110L63 (I : tq_PI) (L : tq_PL) (a0 : Nat) (a1 : Nat) (a2 : Int32) (a3 : Int32) (a4 : Int64) (a6 : Int32) : Option ((Int32 × tq_PI × tq_PL) ⊕ (tq_PI × tq_PL)) :=
  some (.inl ((a6 + 1), I, L))
noncomputable def FX6_shore_s63 (I : tq_PI) (L : tq_PL) (a0 : Nat) (a1 : Nat) (a2 : Int32) (a3 : Int32) (a4 : Int64) (a6 : Int32) : Option ((Int32 × tq_PI × tq_PL) ⊕ (tq_PI × tq_PL)) :=
  (if (48 : Int32) ≤ a6 then some (.inr (I, L)) else (if (lg_cmp a4 (0 : Int64)) = 0 then some (.inr (I, L)) else (if a2 = (2 : Int32) then (tq_let (FX3_air I L a1) fun p8 => (if (lg_cmp (p8 &&& ((1 : Int64) <<< (Int32.toInt64 a6 &&& 63))) (0 : Int64)) = 0 then (FX6_shore_j110L63 I L a0 a1 a2 a3 a4 a6) else ((FX6_weigh I L a0 a1 ((a4 ||| (p8 &&& ((1 : Int64) <<< (Int32.toInt64 a6 &&& 63)))))).bind fun p10 => (FX6_shore_j110L63 p10.1 p10.2 a0 a1 a2 a3 a4 a6)))) else some (.inr (I, L)))))
noncomputable def FX6_shore_j58L23 (I : tq_PI) (L : tq_PL) (a0 : Nat) (a1 : Nat) (a2 : Int32) (a3 : Int32) (a4 : Int64) : Option ((Int32 × tq_PI × tq_PL) ⊕ (tq_PI × tq_PL)) :=
  ((tq_it (fun p : Int32 × tq_PI × tq_PL => FX6_shore_s63 p.2.1 p.2.2 a0 a1 a2 a3 a4 p.1) tq_N ((a3 + (1 : Int32)), I, L)).bind fun p11 => some (.inl ((a3 + 1), p11.1, p11.2)))
noncomputable def FX6_shore_s23 (I : tq_PI) (L : tq_PL) (a0 : Nat) (a1 : Nat) (a2 : Int32) (a3 : Int32) : Option ((Int32 × tq_PI × tq_PL) ⊕ (tq_PI × tq_PL)) :=
  (if (48 : Int32) ≤ a3 then some (.inr (I, L)) else (tq_let (FX3_air I L a1) fun p3 => (if (lg_cmp (p3 &&& ((1 : Int64) <<< (Int32.toInt64 a3 &&& 63))) (0 : Int64)) = 0 then (FX6_shore_j58L23 I L a0 a1 a2 a3 ((p3 &&& ((1 : Int64) <<< (Int32.toInt64 a3 &&& 63))))) else (if a2 = (1 : Int32) then ((FX6_weigh I L a0 a1 ((p3 &&& ((1 : Int64) <<< (Int32.toInt64 a3 &&& 63))))).bind fun p13 => (FX6_shore_j58L23 p13.1 p13.2 a0 a1 a2 a3 ((p3 &&& ((1 : Int64) <<< (Int32.toInt64 a3 &&& 63)))))) else (FX6_shore_j58L23 I L a0 a1 a2 a3 ((p3 &&& ((1 : Int64) <<< (Int32.toInt64 a3 &&& 63)))))))))
noncomputable def FX6_shore (I : tq_PI) (L : tq_PL) (a0 : Nat) (a1 : Nat) (a2 : Int32) : Option (tq_PI × tq_PL) :=
  (if a2 = 0 then ((FX6_weigh ((tq_up2 I a0 1 (-1 : Int32))) ((tq_up2 L a0 0 (0 : Int64))) a0 a1 ((0 : Int64))).bind fun p15 => some (p15.1, p15.2)) else ((tq_it (fun p : Int32 × tq_PI × tq_PL => FX6_shore_s23 p.2.1 p.2.2 a0 a1 a2 p.1) tq_N ((0 : Int32), (tq_up2 I a0 1 (-1 : Int32)), (tq_up2 L a0 0 (0 : Int64)))).bind fun p14 => some (p14.1, p14.2)))
set_option maxRecDepth 100000 in
set_option maxHeartbeats 4000000 in
theorem FX6_shore_j110L63_x {S : Nat × (Nat → Int32)} {d : Nat} {I : tq_PI} {L : tq_PL} {a0 : Nat} {a1 : Nat} {a2 : Int32} {a3 : Int32} {a4 : Int64} {a6 : Int32} (h0 : tq_sh0 a0 = 6) (h1 : tq_sh0 a1 = 3) {q0 : Option Value → tq_PI → tq_PL → Prop} {out : (Int32 × tq_PI × tq_PL) ⊕ (tq_PI × tq_PL)} (hf : FX6_shore_j110L63 I L a0 a1 a2 a3 a4 a6 = some out) (hk : Sum.elim (fun p : Int32 × tq_PI × tq_PL => tq_X S mX6_shore (d + 5) tq_k0 63 ([.ref a0, .ref a1, .int a2, .int a3, .long a4, tq_u, .int p.1, tq_u, tq_u]) [] (tq_st p.2.1 p.2.2) (tq_Q q0)) (fun p : tq_PI × tq_PL => tq_X S mX6_shore (d + 5) tq_k0 116 ([.ref a0, .ref a1, .int a2, .int a3, tq_u, tq_u, tq_u, tq_u, tq_u]) [] (tq_st p.1 p.2) (tq_Q q0)) out) : tq_X S mX6_shore (d + 5) tq_k0 110 ([.ref a0, .ref a1, .int a2, .int a3, .long a4, tq_u, .int a6, tq_u, tq_u]) ([]) (tq_st I L) (tq_Q q0) := by
  unfold FX6_shore_j110L63 at hf
  refine tq_iinc (a6 + 1) ([.ref a0, .ref a1, .int a2, .int a3, .long a4, tq_u, .int (a6 + 1), tq_u, tq_u]) rX6_shore_110 rfl (tq_inc (by decide)) (Nat.le_of_ble_eq_true rfl) rfl ?_
  refine tq_goto rX6_shore_113 ?_
  have hf := Option.some.inj hf
  subst hf
  exact tq_forget _ (tq_le_s (tq_le_s (tq_le_s (tq_le_s (tq_le_s (tq_le_u (tq_le_s (tq_le_u (tq_le_u tq_le_n))))))))) hk

set_option maxRecDepth 100000 in
set_option maxHeartbeats 4000000 in
theorem FX6_shore_s63_x {S : Nat × (Nat → Int32)} {d : Nat} {I : tq_PI} {L : tq_PL} {a0 : Nat} {a1 : Nat} {a2 : Int32} {a3 : Int32} {a4 : Int64} {a6 : Int32} (h0 : tq_sh0 a0 = 6) (h1 : tq_sh0 a1 = 3) {q0 : Option Value → tq_PI → tq_PL → Prop} {out : (Int32 × tq_PI × tq_PL) ⊕ (tq_PI × tq_PL)} (hf : FX6_shore_s63 I L a0 a1 a2 a3 a4 a6 = some out) (hk : Sum.elim (fun p : Int32 × tq_PI × tq_PL => tq_X S mX6_shore (d + 5) tq_k0 63 ([.ref a0, .ref a1, .int a2, .int a3, .long a4, tq_u, .int p.1, tq_u, tq_u]) [] (tq_st p.2.1 p.2.2) (tq_Q q0)) (fun p : tq_PI × tq_PL => tq_X S mX6_shore (d + 5) tq_k0 116 ([.ref a0, .ref a1, .int a2, .int a3, tq_u, tq_u, tq_u, tq_u, tq_u]) [] (tq_st p.1 p.2) (tq_Q q0)) out) : tq_X S mX6_shore (d + 5) tq_k0 63 ([.ref a0, .ref a1, .int a2, .int a3, .long a4, tq_u, .int a6, tq_u, tq_u]) [] (tq_st I L) (tq_Q q0) := by
  unfold FX6_shore_s63 at hf
  refine tq_iload rX6_shore_63 rfl ?_
  refine tq_bipush (48 : Int32) rX6_shore_65 (by decide) ?_
  refine tq_icmp_ge rX6_shore_67 (fun c5 => ?_) (fun c5 => ?_)
  · rw [if_pos c5] at hf
    have hf := Option.some.inj hf
    subst hf
    exact tq_forget _ (tq_le_s (tq_le_s (tq_le_s (tq_le_s (tq_le_u (tq_le_u (tq_le_u (tq_le_u (tq_le_u tq_le_n))))))))) hk
  · rw [if_neg c5] at hf
    refine tq_lload rX6_shore_70 rfl ?_
    refine tq_lconst (0 : Int64) rX6_shore_72 (by decide) ?_
    refine tq_lcmp rX6_shore_73 ?_
    refine tq_if_eq rX6_shore_74 (fun c6 => ?_) (fun c6 => ?_)
    · rw [if_pos c6] at hf
      have hf := Option.some.inj hf
      subst hf
      exact tq_forget _ (tq_le_s (tq_le_s (tq_le_s (tq_le_s (tq_le_u (tq_le_u (tq_le_u (tq_le_u (tq_le_u tq_le_n))))))))) hk
    · rw [if_neg c6] at hf
      refine tq_iload_n rX6_shore_77 rfl ?_
      refine tq_iconst (2 : Int32) rX6_shore_78 (by decide) ?_
      refine tq_icmp_ne rX6_shore_79 (fun c7 => ?_) (fun c7 => ?_)
      · rw [if_neg c7] at hf
        have hf := Option.some.inj hf
        subst hf
        exact tq_forget _ (tq_le_s (tq_le_s (tq_le_s (tq_le_s (tq_le_u (tq_le_u (tq_le_u (tq_le_u (tq_le_u tq_le_n))))))))) hk
      · rw [if_pos c7] at hf
        refine tq_aload_n rX6_shore_82 rfl ?_
        obtain ⟨p8, e8, hf⟩ := tq_let_elim hf
        refine ty_callVJ p8 ([]) ([]) rX6_shore_83 l_X6_37 moX3_air mvX3_air h1 rfl rfl (Nat.le_of_ble_eq_true rfl) ⟨rfl, rfl⟩ (CX3_air h1 e8) ?_
        refine tq_lconst (1 : Int64) rX6_shore_86 (by decide) ?_
        refine tq_iload rX6_shore_87 rfl ?_
        refine tq_lshl rX6_shore_89 ?_
        refine tq_land rX6_shore_90 ?_
        refine tq_lstore ([.ref a0, .ref a1, .int a2, .int a3, .long a4, tq_u, .int a6, .long (p8 &&& ((1 : Int64) <<< (Int32.toInt64 a6 &&& 63))), tq_u]) rX6_shore_91 (Nat.le_of_ble_eq_true rfl) rfl ?_
        refine tq_lload rX6_shore_93 rfl ?_
        refine tq_lconst (0 : Int64) rX6_shore_95 (by decide) ?_
        refine tq_lcmp rX6_shore_96 ?_
        refine tq_if_eq rX6_shore_97 (fun c9 => ?_) (fun c9 => ?_)
        · rw [if_pos c9] at hf
          exact tq_forget _ (tq_le_s (tq_le_s (tq_le_s (tq_le_s (tq_le_s (tq_le_u (tq_le_s (tq_le_u (tq_le_u tq_le_n))))))))) (FX6_shore_j110L63_x  h0 h1 hf hk)
        · rw [if_neg c9] at hf
          refine tq_aload_n rX6_shore_100 rfl ?_
          refine tq_aload_n rX6_shore_101 rfl ?_
          refine tq_lload rX6_shore_102 rfl ?_
          refine tq_lload rX6_shore_104 rfl ?_
          refine tq_lor rX6_shore_106 ?_
          obtain ⟨p10, e10, hf⟩ := Option.bind_eq_some_iff.mp hf
          refine ty_callVV ([.ref a1, .long (a4 ||| (p8 &&& ((1 : Int64) <<< (Int32.toInt64 a6 &&& 63))))]) ([]) rX6_shore_107 l_X6_44 moX6_weigh mvX6_weigh h0 rfl rfl (Nat.le_of_ble_eq_true rfl) ⟨rfl, rfl⟩ (CX6_weigh h0 h1 e10) ?_
          exact tq_forget _ (tq_le_s (tq_le_s (tq_le_s (tq_le_s (tq_le_s (tq_le_u (tq_le_s (tq_le_u (tq_le_u tq_le_n))))))))) (FX6_shore_j110L63_x  h0 h1 hf hk)

set_option maxRecDepth 100000 in
set_option maxHeartbeats 4000000 in
theorem FX6_shore_j58L23_x {S : Nat × (Nat → Int32)} {d : Nat} {I : tq_PI} {L : tq_PL} {a0 : Nat} {a1 : Nat} {a2 : Int32} {a3 : Int32} {a4 : Int64} (h0 : tq_sh0 a0 = 6) (h1 : tq_sh0 a1 = 3) {q0 : Option Value → tq_PI → tq_PL → Prop} {out : (Int32 × tq_PI × tq_PL) ⊕ (tq_PI × tq_PL)} (hf : FX6_shore_j58L23 I L a0 a1 a2 a3 a4 = some out) (hk : Sum.elim (fun p : Int32 × tq_PI × tq_PL => tq_X S mX6_shore (d + 5) tq_k0 23 ([.ref a0, .ref a1, .int a2, .int p.1, tq_u, tq_u, tq_u, tq_u, tq_u]) [] (tq_st p.2.1 p.2.2) (tq_Q q0)) (fun p : tq_PI × tq_PL => tq_X S mX6_shore (d + 5) tq_k0 122 ([tq_u, tq_u, tq_u, tq_u, tq_u, tq_u, tq_u, tq_u, tq_u]) [] (tq_st p.1 p.2) (tq_Q q0)) out) : tq_X S mX6_shore (d + 5) tq_k0 58 ([.ref a0, .ref a1, .int a2, .int a3, .long a4, tq_u, tq_u, tq_u, tq_u]) ([]) (tq_st I L) (tq_Q q0) := by
  unfold FX6_shore_j58L23 at hf
  refine tq_iload_n rX6_shore_58 rfl ?_
  refine tq_iconst (1 : Int32) rX6_shore_59 (by decide) ?_
  refine tq_iadd rX6_shore_60 ?_
  refine tq_istore ([.ref a0, .ref a1, .int a2, .int a3, .long a4, tq_u, .int (a3 + (1 : Int32)), tq_u, tq_u]) rX6_shore_61 (Nat.le_of_ble_eq_true rfl) rfl ?_
  obtain ⟨p11, e11, hf⟩ := Option.bind_eq_some_iff.mp hf
  refine tq_forget _ (tq_le_s (tq_le_s (tq_le_s (tq_le_s (tq_le_s (tq_le_u (tq_le_s (tq_le_u (tq_le_u tq_le_n))))))))) ?_
  refine tq_it_elim (P := fun p : Int32 × tq_PI × tq_PL => tq_X S mX6_shore (d + 5) tq_k0 63 ([.ref a0, .ref a1, .int a2, .int a3, .long a4, tq_u, .int p.1, tq_u, tq_u]) [] (tq_st p.2.1 p.2.2) (tq_Q q0)) (R := fun p : tq_PI × tq_PL => tq_X S mX6_shore (d + 5) tq_k0 116 ([.ref a0, .ref a1, .int a2, .int a3, tq_u, tq_u, tq_u, tq_u, tq_u]) [] (tq_st p.1 p.2) (tq_Q q0)) (fun p o hp hk => FX6_shore_s63_x  h0 h1 hp hk) _ (((a3 + (1 : Int32)), I, L)) _ e11 ?_
  show tq_X _ _ _ _ _ _ _ _ _
  refine tq_iinc (a3 + 1) ([.ref a0, .ref a1, .int a2, .int (a3 + 1), tq_u, tq_u, tq_u, tq_u, tq_u]) rX6_shore_116 rfl (tq_inc (by decide)) (Nat.le_of_ble_eq_true rfl) rfl ?_
  refine tq_goto rX6_shore_119 ?_
  have hf := Option.some.inj hf
  subst hf
  exact tq_forget _ (tq_le_s (tq_le_s (tq_le_s (tq_le_s (tq_le_u (tq_le_u (tq_le_u (tq_le_u (tq_le_u tq_le_n))))))))) hk

set_option maxRecDepth 100000 in
set_option maxHeartbeats 4000000 in
theorem FX6_shore_s23_x {S : Nat × (Nat → Int32)} {d : Nat} {I : tq_PI} {L : tq_PL} {a0 : Nat} {a1 : Nat} {a2 : Int32} {a3 : Int32} (h0 : tq_sh0 a0 = 6) (h1 : tq_sh0 a1 = 3) {q0 : Option Value → tq_PI → tq_PL → Prop} {out : (Int32 × tq_PI × tq_PL) ⊕ (tq_PI × tq_PL)} (hf : FX6_shore_s23 I L a0 a1 a2 a3 = some out) (hk : Sum.elim (fun p : Int32 × tq_PI × tq_PL => tq_X S mX6_shore (d + 5) tq_k0 23 ([.ref a0, .ref a1, .int a2, .int p.1, tq_u, tq_u, tq_u, tq_u, tq_u]) [] (tq_st p.2.1 p.2.2) (tq_Q q0)) (fun p : tq_PI × tq_PL => tq_X S mX6_shore (d + 5) tq_k0 122 ([tq_u, tq_u, tq_u, tq_u, tq_u, tq_u, tq_u, tq_u, tq_u]) [] (tq_st p.1 p.2) (tq_Q q0)) out) : tq_X S mX6_shore (d + 5) tq_k0 23 ([.ref a0, .ref a1, .int a2, .int a3, tq_u, tq_u, tq_u, tq_u, tq_u]) [] (tq_st I L) (tq_Q q0) := by
  unfold FX6_shore_s23 at hf
  refine tq_iload_n rX6_shore_23 rfl ?_
  refine tq_bipush (48 : Int32) rX6_shore_24 (by decide) ?_
  refine tq_icmp_ge rX6_shore_26 (fun c2 => ?_) (fun c2 => ?_)
  · rw [if_pos c2] at hf
    have hf := Option.some.inj hf
    subst hf
    exact tq_forget _ (tq_le_u (tq_le_u (tq_le_u (tq_le_u (tq_le_u (tq_le_u (tq_le_u (tq_le_u (tq_le_u tq_le_n))))))))) hk
  · rw [if_neg c2] at hf
    refine tq_aload_n rX6_shore_29 rfl ?_
    obtain ⟨p3, e3, hf⟩ := tq_let_elim hf
    refine ty_callVJ p3 ([]) ([]) rX6_shore_30 l_X6_37 moX3_air mvX3_air h1 rfl rfl (Nat.le_of_ble_eq_true rfl) ⟨rfl, rfl⟩ (CX3_air h1 e3) ?_
    refine tq_lconst (1 : Int64) rX6_shore_33 (by decide) ?_
    refine tq_iload_n rX6_shore_34 rfl ?_
    refine tq_lshl rX6_shore_35 ?_
    refine tq_land rX6_shore_36 ?_
    refine tq_lstore ([.ref a0, .ref a1, .int a2, .int a3, .long (p3 &&& ((1 : Int64) <<< (Int32.toInt64 a3 &&& 63))), tq_u, tq_u, tq_u, tq_u]) rX6_shore_37 (Nat.le_of_ble_eq_true rfl) rfl ?_
    refine tq_lload rX6_shore_39 rfl ?_
    refine tq_lconst (0 : Int64) rX6_shore_41 (by decide) ?_
    refine tq_lcmp rX6_shore_42 ?_
    refine tq_if_eq rX6_shore_43 (fun c4 => ?_) (fun c4 => ?_)
    · rw [if_pos c4] at hf
      exact tq_forget _ (tq_le_s (tq_le_s (tq_le_s (tq_le_s (tq_le_s (tq_le_u (tq_le_u (tq_le_u (tq_le_u tq_le_n))))))))) (FX6_shore_j58L23_x  h0 h1 hf hk)
    · rw [if_neg c4] at hf
      refine tq_iload_n rX6_shore_46 rfl ?_
      refine tq_iconst (1 : Int32) rX6_shore_47 (by decide) ?_
      refine tq_icmp_ne rX6_shore_48 (fun c12 => ?_) (fun c12 => ?_)
      · rw [if_neg c12] at hf
        exact tq_forget _ (tq_le_s (tq_le_s (tq_le_s (tq_le_s (tq_le_s (tq_le_u (tq_le_u (tq_le_u (tq_le_u tq_le_n))))))))) (FX6_shore_j58L23_x  h0 h1 hf hk)
      · rw [if_pos c12] at hf
        refine tq_aload_n rX6_shore_51 rfl ?_
        refine tq_aload_n rX6_shore_52 rfl ?_
        refine tq_lload rX6_shore_53 rfl ?_
        obtain ⟨p13, e13, hf⟩ := Option.bind_eq_some_iff.mp hf
        refine ty_callVV ([.ref a1, .long (p3 &&& ((1 : Int64) <<< (Int32.toInt64 a3 &&& 63)))]) ([]) rX6_shore_55 l_X6_44 moX6_weigh mvX6_weigh h0 rfl rfl (Nat.le_of_ble_eq_true rfl) ⟨rfl, rfl⟩ (CX6_weigh h0 h1 e13) ?_
        exact tq_forget _ (tq_le_s (tq_le_s (tq_le_s (tq_le_s (tq_le_s (tq_le_u (tq_le_u (tq_le_u (tq_le_u tq_le_n))))))))) (FX6_shore_j58L23_x  h0 h1 hf hk)

set_option maxRecDepth 100000 in
set_option maxHeartbeats 4000000 in
theorem CX6_shore {S : Nat × (Nat → Int32)} {d : Nat} {I : tq_PI} {L : tq_PL} {a0 : Nat} {a1 : Nat} {a2 : Int32} (h0 : tq_sh0 a0 = 6) (h1 : tq_sh0 a1 = 3) {out : tq_PI × tq_PL} (hf : FX6_shore I L a0 a1 a2 = some out) : tq_K S mX6_shore (d + 5) [.ref a0, .ref a1, .int a2] I L (tq_one2 (none) out.1 out.2) := by
  unfold FX6_shore at hf
  refine tq_K_of (by decide) (Nat.le_of_ble_eq_true rfl) (ls := [.ref a0, .ref a1, .int a2, tq_u, tq_u, tq_u, tq_u, tq_u, tq_u]) rfl ?_
  refine tq_aload_n rX6_shore_0 rfl ?_
  refine tq_lconst (0 : Int64) rX6_shore_1 (by decide) ?_
  refine ty_putL rX6_shore_2 f_X6_9 rfl h0 rfl ?_
  refine tq_aload_n rX6_shore_5 rfl ?_
  refine tq_iconst (-1 : Int32) rX6_shore_6 (by decide) ?_
  refine ty_putI rX6_shore_7 f_X6_15 rfl h0 rfl ?_
  refine tq_iload_n rX6_shore_10 rfl ?_
  refine tq_if_ne rX6_shore_11 (fun c1 => ?_) (fun c1 => ?_)
  · rw [if_neg c1] at hf
    refine tq_iconst (0 : Int32) rX6_shore_21 (by decide) ?_
    refine tq_istore_n ([.ref a0, .ref a1, .int a2, .int (0 : Int32), tq_u, tq_u, tq_u, tq_u, tq_u]) rX6_shore_22 (Nat.le_of_ble_eq_true rfl) rfl ?_
    obtain ⟨p14, e14, hf⟩ := Option.bind_eq_some_iff.mp hf
    refine tq_forget _ (tq_le_s (tq_le_s (tq_le_s (tq_le_s (tq_le_u (tq_le_u (tq_le_u (tq_le_u (tq_le_u tq_le_n))))))))) ?_
    refine tq_it_elim (P := fun p : Int32 × tq_PI × tq_PL => tq_X S mX6_shore (d + 5) tq_k0 23 ([.ref a0, .ref a1, .int a2, .int p.1, tq_u, tq_u, tq_u, tq_u, tq_u]) [] (tq_st p.2.1 p.2.2) (tq_Q (tq_one2 (none) out.1 out.2))) (R := fun p : tq_PI × tq_PL => tq_X S mX6_shore (d + 5) tq_k0 122 ([tq_u, tq_u, tq_u, tq_u, tq_u, tq_u, tq_u, tq_u, tq_u]) [] (tq_st p.1 p.2) (tq_Q (tq_one2 (none) out.1 out.2))) (fun p o hp hk => FX6_shore_s23_x  h0 h1 hp hk) _ (((0 : Int32), (tq_up2 I a0 1 (-1 : Int32)), (tq_up2 L a0 0 (0 : Int64)))) _ e14 ?_
    show tq_X _ _ _ _ _ _ _ _ _
    refine ty_vret rX6_shore_122 rfl rfl ?_
    have hf := Option.some.inj hf
    subst hf
    exact ⟨rfl, rfl, rfl⟩
  · rw [if_pos c1] at hf
    refine tq_aload_n rX6_shore_14 rfl ?_
    refine tq_aload_n rX6_shore_15 rfl ?_
    refine tq_lconst (0 : Int64) rX6_shore_16 (by decide) ?_
    obtain ⟨p15, e15, hf⟩ := Option.bind_eq_some_iff.mp hf
    refine ty_callVV ([.ref a1, .long (0 : Int64)]) ([]) rX6_shore_17 l_X6_44 moX6_weigh mvX6_weigh h0 rfl rfl (Nat.le_of_ble_eq_true rfl) ⟨rfl, rfl⟩ (CX6_weigh h0 h1 e15) ?_
    refine ty_vret rX6_shore_20 rfl rfl ?_
    have hf := Option.some.inj hf
    subst hf
    exact ⟨rfl, rfl, rfl⟩

abbrev mX7_begin : tq_M := (yX7_begin, cX7_begin, 1, (Option.none : Option Jvm.ClassFile.FieldType), 0, 0)
theorem moX3_clear : tq_mok mX3_clear 0 := ⟨tq_sg1 _ (List.mem_of_getElem? (i := 3) rfl), tq_sg2 _ (List.mem_of_getElem? (i := 192) rfl), ⟨by decide, by decide, by decide +kernel⟩, by decide⟩
theorem mvX3_clear : 3 < 13 ∧ (tq_cl 3).1 = mX3_clear.1.cls ∧ Cond.instanceMethod mX3_clear.1 ∈ lw_tbl ∧ Cond.selects mX3_clear.1.cls mX3_clear.1 mX3_clear.1 ∈ lw_tbl := ⟨by decide, rfl, tq_sg2 _ (List.mem_of_getElem? (i := 190) rfl), tq_sg2 _ (List.mem_of_getElem? (i := 191) rfl)⟩
theorem moX3_size : tq_mok mX3_size 2 := ⟨tq_sg1 _ (List.mem_of_getElem? (i := 3) rfl), tq_sg2 _ (List.mem_of_getElem? (i := 196) rfl), ⟨by decide, by decide, by decide +kernel⟩, by decide⟩
theorem mvX3_size : 3 < 13 ∧ (tq_cl 3).1 = mX3_size.1.cls ∧ Cond.instanceMethod mX3_size.1 ∈ lw_tbl ∧ Cond.selects mX3_size.1.cls mX3_size.1 mX3_size.1 ∈ lw_tbl := ⟨by decide, rfl, tq_sg2 _ (List.mem_of_getElem? (i := 194) rfl), tq_sg2 _ (List.mem_of_getElem? (i := 195) rfl)⟩
theorem f_X7_110 : tq_fok RX7 110 10 0 := ⟨by decide, by decide, Or.inr ⟨_, tq_sg1 _ (List.mem_of_getElem? (i := 91) rfl)⟩⟩
theorem f_X7_113 : tq_fok RX7 113 4 0 := ⟨by decide, by decide, Or.inr ⟨_, tq_sg1 _ (List.mem_of_getElem? (i := 113) rfl)⟩⟩
theorem f_X7_114 : tq_fok RX7 114 9 0 := ⟨by decide, by decide, Or.inr ⟨_, tq_sg1 _ (List.mem_of_getElem? (i := 131) rfl)⟩⟩
theorem f_X7_18 : tq_fok RX7 18 7 1 := ⟨by decide, by decide, Or.inl (tq_sg1 _ (List.mem_of_getElem? (i := 187) rfl))⟩
theorem f_X7_25 : tq_fok RX7 25 7 2 := ⟨by decide, by decide, Or.inl (tq_sg1 _ (List.mem_of_getElem? (i := 189) rfl))⟩
theorem f_X7_32 : tq_fok RX7 32 7 3 := ⟨by decide, by decide, Or.inl (tq_sg1 _ (List.mem_of_getElem? (i := 191) rfl))⟩
theorem f_X7_39 : tq_fok RX7 39 7 4 := ⟨by decide, by decide, Or.inl (tq_sg1 _ (List.mem_of_getElem? (i := 193) rfl))⟩
theorem f_X7_47 : tq_fok RX7 47 7 6 := ⟨by decide, by decide, Or.inl (tq_sg1 _ (List.mem_of_getElem? (i := 196) rfl))⟩
theorem f_X7_55 : tq_fok RX7 55 7 8 := ⟨by decide, by decide, Or.inl (tq_sg1 _ (List.mem_of_getElem? (i := 198) rfl))⟩
theorem f_X7_64 : tq_fok RX7 64 7 11 := ⟨by decide, by decide, Or.inl (tq_sg1 _ (List.mem_of_getElem? (i := 201) rfl))⟩
theorem f_X7_67 : tq_fok RX7 67 7 12 := ⟨by decide, by decide, Or.inl (tq_sg1 _ (List.mem_of_getElem? (i := 203) rfl))⟩
theorem l_X7_103 : tq_lok RX7 103 mX3_clear.1 := Or.inl (tq_sg2 _ (List.mem_of_getElem? (i := 189) rfl))
theorem l_X7_106 : tq_lok RX7 106 mX3_size.1 := Or.inl (tq_sg2 _ (List.mem_of_getElem? (i := 193) rfl))
theorem rX7_begin_0 : tq_D cX7_begin 0 (.aload_n 0) 1 1 := ⟨by decide +kernel, rfl⟩
theorem rX7_begin_1 : tq_D cX7_begin 1 (.iconst 0) 1 2 := ⟨by decide +kernel, rfl⟩
theorem rX7_begin_2 : tq_D cX7_begin 2 (.putfield 55) 3 5 := ⟨by decide +kernel, rfl⟩
theorem rX7_begin_5 : tq_D cX7_begin 5 (.aload_n 0) 1 6 := ⟨by decide +kernel, rfl⟩
theorem rX7_begin_6 : tq_D cX7_begin 6 (.iconst 0) 1 7 := ⟨by decide +kernel, rfl⟩
theorem rX7_begin_7 : tq_D cX7_begin 7 (.putfield 64) 3 10 := ⟨by decide +kernel, rfl⟩
theorem rX7_begin_10 : tq_D cX7_begin 10 (.aload_n 0) 1 11 := ⟨by decide +kernel, rfl⟩
theorem rX7_begin_11 : tq_D cX7_begin 11 (.iconst (-1)) 1 12 := ⟨by decide +kernel, rfl⟩
theorem rX7_begin_12 : tq_D cX7_begin 12 (.putfield 67) 3 15 := ⟨by decide +kernel, rfl⟩
theorem rX7_begin_15 : tq_D cX7_begin 15 (.aload_n 0) 1 16 := ⟨by decide +kernel, rfl⟩
theorem rX7_begin_16 : tq_D cX7_begin 16 (.lconst 0) 1 17 := ⟨by decide +kernel, rfl⟩
theorem rX7_begin_17 : tq_D cX7_begin 17 (.putfield 47) 3 20 := ⟨by decide +kernel, rfl⟩
theorem rX7_begin_20 : tq_D cX7_begin 20 (.aload_n 0) 1 21 := ⟨by decide +kernel, rfl⟩
theorem rX7_begin_21 : tq_D cX7_begin 21 (.getfield 18) 3 24 := ⟨by decide +kernel, rfl⟩
theorem rX7_begin_24 : tq_D cX7_begin 24 (.invokevirtual 103) 3 27 := ⟨by decide +kernel, rfl⟩
theorem rX7_begin_27 : tq_D cX7_begin 27 (.aload_n 0) 1 28 := ⟨by decide +kernel, rfl⟩
theorem rX7_begin_28 : tq_D cX7_begin 28 (.getfield 18) 3 31 := ⟨by decide +kernel, rfl⟩
theorem rX7_begin_31 : tq_D cX7_begin 31 (.bipush 6) 2 33 := ⟨by decide +kernel, rfl⟩
theorem rX7_begin_33 : tq_D cX7_begin 33 (.iconst 4) 1 34 := ⟨by decide +kernel, rfl⟩
theorem rX7_begin_34 : tq_D cX7_begin 34 (.invokevirtual 106) 3 37 := ⟨by decide +kernel, rfl⟩
theorem rX7_begin_37 : tq_D cX7_begin 37 (.aload_n 0) 1 38 := ⟨by decide +kernel, rfl⟩
theorem rX7_begin_38 : tq_D cX7_begin 38 (.getfield 25) 3 41 := ⟨by decide +kernel, rfl⟩
theorem rX7_begin_41 : tq_D cX7_begin 41 (.iconst 0) 1 42 := ⟨by decide +kernel, rfl⟩
theorem rX7_begin_42 : tq_D cX7_begin 42 (.putfield 110) 3 45 := ⟨by decide +kernel, rfl⟩
theorem rX7_begin_45 : tq_D cX7_begin 45 (.aload_n 0) 1 46 := ⟨by decide +kernel, rfl⟩
theorem rX7_begin_46 : tq_D cX7_begin 46 (.getfield 32) 3 49 := ⟨by decide +kernel, rfl⟩
theorem rX7_begin_49 : tq_D cX7_begin 49 (.iconst 0) 1 50 := ⟨by decide +kernel, rfl⟩
theorem rX7_begin_50 : tq_D cX7_begin 50 (.putfield 113) 3 53 := ⟨by decide +kernel, rfl⟩
theorem rX7_begin_53 : tq_D cX7_begin 53 (.aload_n 0) 1 54 := ⟨by decide +kernel, rfl⟩
theorem rX7_begin_54 : tq_D cX7_begin 54 (.getfield 39) 3 57 := ⟨by decide +kernel, rfl⟩
theorem rX7_begin_57 : tq_D cX7_begin 57 (.iconst 0) 1 58 := ⟨by decide +kernel, rfl⟩
theorem rX7_begin_58 : tq_D cX7_begin 58 (.putfield 114) 3 61 := ⟨by decide +kernel, rfl⟩
theorem rX7_begin_61 : decode cX7_begin 61 = .ok (.return_, 1) := by decide +kernel
noncomputable def FX7_begin (I : tq_PI) (L : tq_PL) (a0 : Nat) : Option (tq_PI × tq_PL) :=
  (tq_let (FX3_clear ((tq_up2 (tq_up2 (tq_up2 I a0 8 (0 : Int32)) a0 11 (0 : Int32)) a0 12 (-1 : Int32))) ((tq_up2 L a0 6 (0 : Int64))) ((tq_rg a0 1))) fun p1 => ((FX3_size ((tq_up2 (tq_up2 (tq_up2 I a0 8 (0 : Int32)) a0 11 (0 : Int32)) a0 12 (-1 : Int32))) p1 ((tq_rg a0 1)) ((6 : Int32)) ((4 : Int32))).bind fun p2 => some ((tq_up2 (tq_up2 (tq_up2 p2.1 (tq_rg a0 2) 0 (0 : Int32)) (tq_rg a0 3) 0 (0 : Int32)) (tq_rg a0 4) 0 (0 : Int32)), p2.2)))
set_option maxRecDepth 100000 in
set_option maxHeartbeats 4000000 in
theorem CX7_begin {S : Nat × (Nat → Int32)} {d : Nat} {I : tq_PI} {L : tq_PL} {a0 : Nat} (h0 : tq_sh0 a0 = 7) {out : tq_PI × tq_PL} (hf : FX7_begin I L a0 = some out) : tq_K S mX7_begin (d + 2) [.ref a0] I L (tq_one2 (none) out.1 out.2) := by
  unfold FX7_begin at hf
  refine tq_K_of (by decide) (Nat.le_of_ble_eq_true rfl) (ls := [.ref a0]) rfl ?_
  refine tq_aload_n rX7_begin_0 rfl ?_
  refine tq_iconst (0 : Int32) rX7_begin_1 (by decide) ?_
  refine ty_putI rX7_begin_2 f_X7_55 rfl h0 rfl ?_
  refine tq_aload_n rX7_begin_5 rfl ?_
  refine tq_iconst (0 : Int32) rX7_begin_6 (by decide) ?_
  refine ty_putI rX7_begin_7 f_X7_64 rfl h0 rfl ?_
  refine tq_aload_n rX7_begin_10 rfl ?_
  refine tq_iconst (-1 : Int32) rX7_begin_11 (by decide) ?_
  refine ty_putI rX7_begin_12 f_X7_67 rfl h0 rfl ?_
  refine tq_aload_n rX7_begin_15 rfl ?_
  refine tq_lconst (0 : Int64) rX7_begin_16 (by decide) ?_
  refine ty_putL rX7_begin_17 f_X7_47 rfl h0 rfl ?_
  refine tq_aload_n rX7_begin_20 rfl ?_
  refine ty_getR rX7_begin_21 f_X7_18 rfl h0 (hp_7_1 h0).1 ?_
  obtain ⟨p1, e1, hf⟩ := tq_let_elim hf
  refine ty_callVV ([]) ([]) rX7_begin_24 l_X7_103 moX3_clear mvX3_clear (hp_7_1 h0).2.1 rfl rfl (Nat.le_of_ble_eq_true rfl) ⟨rfl, rfl⟩ (CX3_clear (hp_7_1 h0).2.1 e1) ?_
  refine tq_aload_n rX7_begin_27 rfl ?_
  refine ty_getR rX7_begin_28 f_X7_18 rfl h0 (hp_7_1 h0).1 ?_
  refine tq_bipush (6 : Int32) rX7_begin_31 (by decide) ?_
  refine tq_iconst (4 : Int32) rX7_begin_33 (by decide) ?_
  obtain ⟨p2, e2, hf⟩ := Option.bind_eq_some_iff.mp hf
  refine ty_callVV ([.int (6 : Int32), .int (4 : Int32)]) ([]) rX7_begin_34 l_X7_106 moX3_size mvX3_size (hp_7_1 h0).2.1 rfl rfl (Nat.le_of_ble_eq_true rfl) ⟨rfl, rfl⟩ (CX3_size (hp_7_1 h0).2.1 e2) ?_
  refine tq_aload_n rX7_begin_37 rfl ?_
  refine ty_getR rX7_begin_38 f_X7_25 rfl h0 (hp_7_2 h0).1 ?_
  refine tq_iconst (0 : Int32) rX7_begin_41 (by decide) ?_
  refine ty_putI rX7_begin_42 f_X7_110 rfl (hp_7_2 h0).2.1 rfl ?_
  refine tq_aload_n rX7_begin_45 rfl ?_
  refine ty_getR rX7_begin_46 f_X7_32 rfl h0 (hp_7_3 h0).1 ?_
  refine tq_iconst (0 : Int32) rX7_begin_49 (by decide) ?_
  refine ty_putI rX7_begin_50 f_X7_113 rfl (hp_7_3 h0).2.1 rfl ?_
  refine tq_aload_n rX7_begin_53 rfl ?_
  refine ty_getR rX7_begin_54 f_X7_39 rfl h0 (hp_7_4 h0).1 ?_
  refine tq_iconst (0 : Int32) rX7_begin_57 (by decide) ?_
  refine ty_putI rX7_begin_58 f_X7_114 rfl (hp_7_4 h0).2.1 rfl ?_
  refine ty_vret rX7_begin_61 rfl rfl ?_
  have hf := Option.some.inj hf
  subst hf
  exact ⟨rfl, rfl, rfl⟩

abbrev mX7_byteAt : tq_M := (yX7_byteAt, cX7_byteAt, 2, (Option.some Jvm.ClassFile.FieldType.int), 0, 0)
theorem f_X7_51 : tq_fok RX7 51 7 7 := ⟨by decide, by decide, Or.inl (tq_sg1 _ (List.mem_of_getElem? (i := 197) rfl))⟩
theorem f_X7_9 : tq_fok RX7 9 7 0 := ⟨by decide, by decide, Or.inl (tq_sg1 _ (List.mem_of_getElem? (i := 186) rfl))⟩
theorem rX7_byteAt_0 : tq_D cX7_byteAt 0 (.iload_n 1) 1 1 := ⟨by decide +kernel, rfl⟩
theorem rX7_byteAt_1 : tq_J cX7_byteAt 1 (.ifCond .lt) 21 4 := ⟨20, by decide +kernel, by decide, rfl⟩
theorem rX7_byteAt_4 : tq_D cX7_byteAt 4 (.iload_n 1) 1 5 := ⟨by decide +kernel, rfl⟩
theorem rX7_byteAt_5 : tq_D cX7_byteAt 5 (.aload_n 0) 1 6 := ⟨by decide +kernel, rfl⟩
theorem rX7_byteAt_6 : tq_D cX7_byteAt 6 (.getfield 51) 3 9 := ⟨by decide +kernel, rfl⟩
theorem rX7_byteAt_9 : tq_J cX7_byteAt 9 (.if_icmp .ge) 21 12 := ⟨12, by decide +kernel, by decide, rfl⟩
theorem rX7_byteAt_12 : tq_D cX7_byteAt 12 (.iload_n 1) 1 13 := ⟨by decide +kernel, rfl⟩
theorem rX7_byteAt_13 : tq_D cX7_byteAt 13 (.aload_n 0) 1 14 := ⟨by decide +kernel, rfl⟩
theorem rX7_byteAt_14 : tq_D cX7_byteAt 14 (.getfield 9) 3 17 := ⟨by decide +kernel, rfl⟩
theorem rX7_byteAt_17 : tq_D cX7_byteAt 17 (.arraylength) 1 18 := ⟨by decide +kernel, rfl⟩
theorem rX7_byteAt_18 : tq_J cX7_byteAt 18 (.if_icmp .lt) 25 21 := ⟨7, by decide +kernel, by decide, rfl⟩
theorem rX7_byteAt_21 : tq_D cX7_byteAt 21 (.iconst (-1)) 1 22 := ⟨by decide +kernel, rfl⟩
theorem rX7_byteAt_22 : tq_J cX7_byteAt 22 .goto 35 25 := ⟨13, by decide +kernel, by decide, rfl⟩
theorem rX7_byteAt_25 : tq_D cX7_byteAt 25 (.aload_n 0) 1 26 := ⟨by decide +kernel, rfl⟩
theorem rX7_byteAt_26 : tq_D cX7_byteAt 26 (.getfield 9) 3 29 := ⟨by decide +kernel, rfl⟩
theorem rX7_byteAt_29 : tq_D cX7_byteAt 29 (.iload_n 1) 1 30 := ⟨by decide +kernel, rfl⟩
theorem rX7_byteAt_30 : tq_D cX7_byteAt 30 (.baload) 1 31 := ⟨by decide +kernel, rfl⟩
theorem rX7_byteAt_31 : tq_D cX7_byteAt 31 (.sipush 255) 3 34 := ⟨by decide +kernel, rfl⟩
theorem rX7_byteAt_34 : tq_D cX7_byteAt 34 (.iand) 1 35 := ⟨by decide +kernel, rfl⟩
theorem rX7_byteAt_35 : decode cX7_byteAt 35 = .ok (.ireturn, 1) := by decide +kernel
noncomputable def FX7_byteAt_j21 (I : tq_PI) (L : tq_PL)  : Option (Int32) :=
  some (-1 : Int32)
noncomputable def FX7_byteAt (I : tq_PI) (L : tq_PL) (a0 : Nat) (a1 : Int32) : Option (Int32) :=
  (if a1 < 0 then (FX7_byteAt_j21 I L ) else (if (I a0 7) ≤ a1 then (FX7_byteAt_j21 I L ) else (if a1 < (600 : Int32) then (if 0 ≤ a1 ∧ a1 < 600 then some ((I (tq_rg a0 0) a1.toNatClampNeg) &&& (255 : Int32)) else none) else (FX7_byteAt_j21 I L ))))
set_option maxRecDepth 100000 in
set_option maxHeartbeats 4000000 in
theorem FX7_byteAt_j21_x {S : Nat × (Nat → Int32)} {d : Nat} {I : tq_PI} {L : tq_PL}   {q0 : Option Value → tq_PI → tq_PL → Prop} {out : Int32} (hf : FX7_byteAt_j21 I L = some out) (hk : q0 (some (.int out)) I L) : tq_X S mX7_byteAt d tq_k0 21 ([tq_u, tq_u]) ([]) (tq_st I L) (tq_Q q0) := by
  unfold FX7_byteAt_j21 at hf
  refine tq_iconst (-1 : Int32) rX7_byteAt_21 (by decide) ?_
  refine tq_goto rX7_byteAt_22 ?_
  refine ty_iret rX7_byteAt_35 rfl rfl ?_
  have hf := Option.some.inj hf
  subst hf
  exact hk

set_option maxRecDepth 100000 in
set_option maxHeartbeats 4000000 in
theorem CX7_byteAt {S : Nat × (Nat → Int32)} {d : Nat} {I : tq_PI} {L : tq_PL} {a0 : Nat} {a1 : Int32} (h0 : tq_sh0 a0 = 7) {out : Int32} (hf : FX7_byteAt I L a0 a1 = some out) : tq_K S mX7_byteAt d [.ref a0, .int a1] I L (tq_one2 (some (.int out)) I L) := by
  unfold FX7_byteAt at hf
  refine tq_K_of (by decide) (Nat.le_of_ble_eq_true rfl) (ls := [.ref a0, .int a1]) rfl ?_
  refine tq_iload_n rX7_byteAt_0 rfl ?_
  refine tq_if_lt rX7_byteAt_1 (fun c1 => ?_) (fun c1 => ?_)
  · rw [if_pos c1] at hf
    exact tq_forget _ (tq_le_u (tq_le_u tq_le_n)) (FX7_byteAt_j21_x   hf ⟨rfl, rfl, rfl⟩)
  · rw [if_neg c1] at hf
    refine tq_iload_n rX7_byteAt_4 rfl ?_
    refine tq_aload_n rX7_byteAt_5 rfl ?_
    refine ty_getI rX7_byteAt_6 f_X7_51 rfl h0 ?_
    refine tq_icmp_ge rX7_byteAt_9 (fun c2 => ?_) (fun c2 => ?_)
    · rw [if_pos c2] at hf
      exact tq_forget _ (tq_le_u (tq_le_u tq_le_n)) (FX7_byteAt_j21_x   hf ⟨rfl, rfl, rfl⟩)
    · rw [if_neg c2] at hf
      refine tq_iload_n rX7_byteAt_12 rfl ?_
      refine tq_aload_n rX7_byteAt_13 rfl ?_
      refine ty_getR rX7_byteAt_14 f_X7_9 rfl h0 (hp_7_0 h0).1 ?_
      refine ty_alen (v := 600) rX7_byteAt_17 (hp_7_0 h0).2.1 (by decide) (hp_7_0 h0).2.2 rfl ?_
      refine tq_icmp_lt rX7_byteAt_18 (fun c3 => ?_) (fun c3 => ?_)
      · rw [if_pos c3] at hf
        refine tq_aload_n rX7_byteAt_25 rfl ?_
        refine ty_getR rX7_byteAt_26 f_X7_9 rfl h0 (hp_7_0 h0).1 ?_
        refine tq_iload_n rX7_byteAt_29 rfl ?_
        obtain ⟨g4, hf⟩ := tq_chk hf
        refine ty_bald (v := 600) rX7_byteAt_30 (hp_7_0 h0).2.1 (hp_7_0 h0).2.2 rfl (by decide) g4 ?_
        refine tq_sipush (255 : Int32) rX7_byteAt_31 (by decide) ?_
        refine tq_iand rX7_byteAt_34 ?_
        refine ty_iret rX7_byteAt_35 rfl rfl ?_
        have hf := Option.some.inj hf
        subst hf
        exact ⟨rfl, rfl, rfl⟩
      · rw [if_neg c3] at hf
        exact tq_forget _ (tq_le_u (tq_le_u tq_le_n)) (FX7_byteAt_j21_x   hf ⟨rfl, rfl, rfl⟩)

abbrev mX7_isBlank : tq_M := (yX7_isBlank, cX7_isBlank, 1, (Option.some Jvm.ClassFile.FieldType.boolean), 0, 0)
theorem rX7_isBlank_0 : tq_D cX7_isBlank 0 (.iload_n 0) 1 1 := ⟨by decide +kernel, rfl⟩
theorem rX7_isBlank_1 : tq_D cX7_isBlank 1 (.bipush 10) 2 3 := ⟨by decide +kernel, rfl⟩
theorem rX7_isBlank_3 : tq_J cX7_isBlank 3 (.if_icmp .eq) 12 6 := ⟨9, by decide +kernel, by decide, rfl⟩
theorem rX7_isBlank_6 : tq_D cX7_isBlank 6 (.iload_n 0) 1 7 := ⟨by decide +kernel, rfl⟩
theorem rX7_isBlank_7 : tq_D cX7_isBlank 7 (.bipush 32) 2 9 := ⟨by decide +kernel, rfl⟩
theorem rX7_isBlank_9 : tq_J cX7_isBlank 9 (.if_icmp .ne) 16 12 := ⟨7, by decide +kernel, by decide, rfl⟩
theorem rX7_isBlank_12 : tq_D cX7_isBlank 12 (.iconst 1) 1 13 := ⟨by decide +kernel, rfl⟩
theorem rX7_isBlank_13 : tq_J cX7_isBlank 13 .goto 17 16 := ⟨4, by decide +kernel, by decide, rfl⟩
theorem rX7_isBlank_16 : tq_D cX7_isBlank 16 (.iconst 0) 1 17 := ⟨by decide +kernel, rfl⟩
theorem rX7_isBlank_17 : decode cX7_isBlank 17 = .ok (.ireturn, 1) := by decide +kernel
noncomputable def FX7_isBlank_j12 (I : tq_PI) (L : tq_PL)  : Bool :=
  true
noncomputable def FX7_isBlank (I : tq_PI) (L : tq_PL) (a0 : Int32) : Bool :=
  (if a0 = (10 : Int32) then (FX7_isBlank_j12 I L ) else (if a0 = (32 : Int32) then (FX7_isBlank_j12 I L ) else false))
set_option maxRecDepth 100000 in
set_option maxHeartbeats 4000000 in
theorem FX7_isBlank_j12_x {S : Nat × (Nat → Int32)} {d : Nat} {I : tq_PI} {L : tq_PL}   {q0 : Option Value → tq_PI → tq_PL → Prop} {out : Bool} (hf : FX7_isBlank_j12 I L = out) (hk : q0 (some (.int (tq_b out))) I L) : tq_X S mX7_isBlank d tq_k0 12 ([tq_u]) ([]) (tq_st I L) (tq_Q q0) := by
  unfold FX7_isBlank_j12 at hf
  refine tq_iconst (1 : Int32) rX7_isBlank_12 (by decide) ?_
  refine tq_goto rX7_isBlank_13 ?_
  refine ty_zret (ty := .boolean) rX7_isBlank_17 rfl rfl rfl ?_
  subst hf
  exact hk

set_option maxRecDepth 100000 in
set_option maxHeartbeats 4000000 in
theorem CX7_isBlank {S : Nat × (Nat → Int32)} {d : Nat} {I : tq_PI} {L : tq_PL} {a0 : Int32}  {out : Bool} (hf : FX7_isBlank I L a0 = out) : tq_K S mX7_isBlank d [.int a0] I L (tq_one2 (some (.int (tq_b out))) I L) := by
  unfold FX7_isBlank at hf
  refine tq_K_of (by decide) (Nat.le_of_ble_eq_true rfl) (ls := [.int a0]) rfl ?_
  refine tq_iload_n rX7_isBlank_0 rfl ?_
  refine tq_bipush (10 : Int32) rX7_isBlank_1 (by decide) ?_
  refine tq_icmp_eq rX7_isBlank_3 (fun c1 => ?_) (fun c1 => ?_)
  · rw [if_pos c1] at hf
    exact tq_forget _ (tq_le_u tq_le_n) (FX7_isBlank_j12_x   hf ⟨rfl, rfl, rfl⟩)
  · rw [if_neg c1] at hf
    refine tq_iload_n rX7_isBlank_6 rfl ?_
    refine tq_bipush (32 : Int32) rX7_isBlank_7 (by decide) ?_
    refine tq_icmp_ne rX7_isBlank_9 (fun c2 => ?_) (fun c2 => ?_)
    · rw [if_neg c2] at hf
      refine tq_iconst (0 : Int32) rX7_isBlank_16 (by decide) ?_
      refine ty_zret (ty := .boolean) rX7_isBlank_17 rfl rfl rfl ?_
      subst hf
      exact ⟨rfl, rfl, rfl⟩
    · rw [if_pos c2] at hf
      exact tq_forget _ (tq_le_u tq_le_n) (FX7_isBlank_j12_x   hf ⟨rfl, rfl, rfl⟩)

abbrev mX7_isLetter : tq_M := (yX7_isLetter, cX7_isLetter, 1, (Option.some Jvm.ClassFile.FieldType.boolean), 0, 0)
theorem rX7_isLetter_0 : tq_D cX7_isLetter 0 (.iload_n 0) 1 1 := ⟨by decide +kernel, rfl⟩
theorem rX7_isLetter_1 : tq_D cX7_isLetter 1 (.bipush 97) 2 3 := ⟨by decide +kernel, rfl⟩
theorem rX7_isLetter_3 : tq_J cX7_isLetter 3 (.if_icmp .lt) 16 6 := ⟨13, by decide +kernel, by decide, rfl⟩
theorem rX7_isLetter_6 : tq_D cX7_isLetter 6 (.iload_n 0) 1 7 := ⟨by decide +kernel, rfl⟩
theorem rX7_isLetter_7 : tq_D cX7_isLetter 7 (.bipush 122) 2 9 := ⟨by decide +kernel, rfl⟩
theorem rX7_isLetter_9 : tq_J cX7_isLetter 9 (.if_icmp .gt) 16 12 := ⟨7, by decide +kernel, by decide, rfl⟩
theorem rX7_isLetter_12 : tq_D cX7_isLetter 12 (.iconst 1) 1 13 := ⟨by decide +kernel, rfl⟩
theorem rX7_isLetter_13 : tq_J cX7_isLetter 13 .goto 17 16 := ⟨4, by decide +kernel, by decide, rfl⟩
theorem rX7_isLetter_16 : tq_D cX7_isLetter 16 (.iconst 0) 1 17 := ⟨by decide +kernel, rfl⟩
theorem rX7_isLetter_17 : decode cX7_isLetter 17 = .ok (.ireturn, 1) := by decide +kernel
noncomputable def FX7_isLetter_j16 (I : tq_PI) (L : tq_PL)  : Bool :=
  false
noncomputable def FX7_isLetter (I : tq_PI) (L : tq_PL) (a0 : Int32) : Bool :=
  (if a0 < (97 : Int32) then (FX7_isLetter_j16 I L ) else (if (122 : Int32) < a0 then (FX7_isLetter_j16 I L ) else true))
set_option maxRecDepth 100000 in
set_option maxHeartbeats 4000000 in
theorem FX7_isLetter_j16_x {S : Nat × (Nat → Int32)} {d : Nat} {I : tq_PI} {L : tq_PL}   {q0 : Option Value → tq_PI → tq_PL → Prop} {out : Bool} (hf : FX7_isLetter_j16 I L = out) (hk : q0 (some (.int (tq_b out))) I L) : tq_X S mX7_isLetter d tq_k0 16 ([tq_u]) ([]) (tq_st I L) (tq_Q q0) := by
  unfold FX7_isLetter_j16 at hf
  refine tq_iconst (0 : Int32) rX7_isLetter_16 (by decide) ?_
  refine ty_zret (ty := .boolean) rX7_isLetter_17 rfl rfl rfl ?_
  subst hf
  exact hk

set_option maxRecDepth 100000 in
set_option maxHeartbeats 4000000 in
theorem CX7_isLetter {S : Nat × (Nat → Int32)} {d : Nat} {I : tq_PI} {L : tq_PL} {a0 : Int32}  {out : Bool} (hf : FX7_isLetter I L a0 = out) : tq_K S mX7_isLetter d [.int a0] I L (tq_one2 (some (.int (tq_b out))) I L) := by
  unfold FX7_isLetter at hf
  refine tq_K_of (by decide) (Nat.le_of_ble_eq_true rfl) (ls := [.int a0]) rfl ?_
  refine tq_iload_n rX7_isLetter_0 rfl ?_
  refine tq_bipush (97 : Int32) rX7_isLetter_1 (by decide) ?_
  refine tq_icmp_lt rX7_isLetter_3 (fun c1 => ?_) (fun c1 => ?_)
  · rw [if_pos c1] at hf
    exact tq_forget _ (tq_le_u tq_le_n) (FX7_isLetter_j16_x   hf ⟨rfl, rfl, rfl⟩)
  · rw [if_neg c1] at hf
    refine tq_iload_n rX7_isLetter_6 rfl ?_
    refine tq_bipush (122 : Int32) rX7_isLetter_7 (by decide) ?_
    refine tq_icmp_gt rX7_isLetter_9 (fun c2 => ?_) (fun c2 => ?_)
    · rw [if_pos c2] at hf
      exact tq_forget _ (tq_le_u tq_le_n) (FX7_isLetter_j16_x   hf ⟨rfl, rfl, rfl⟩)
    · rw [if_neg c2] at hf
      refine tq_iconst (1 : Int32) rX7_isLetter_12 (by decide) ?_
      refine tq_goto rX7_isLetter_13 ?_
      refine ty_zret (ty := .boolean) rX7_isLetter_17 rfl rfl rfl ?_
      subst hf
      exact ⟨rfl, rfl, rfl⟩

abbrev mX7_isDigit : tq_M := (yX7_isDigit, cX7_isDigit, 1, (Option.some Jvm.ClassFile.FieldType.boolean), 0, 0)
theorem rX7_isDigit_0 : tq_D cX7_isDigit 0 (.iload_n 0) 1 1 := ⟨by decide +kernel, rfl⟩
theorem rX7_isDigit_1 : tq_D cX7_isDigit 1 (.bipush 48) 2 3 := ⟨by decide +kernel, rfl⟩
theorem rX7_isDigit_3 : tq_J cX7_isDigit 3 (.if_icmp .lt) 16 6 := ⟨13, by decide +kernel, by decide, rfl⟩
theorem rX7_isDigit_6 : tq_D cX7_isDigit 6 (.iload_n 0) 1 7 := ⟨by decide +kernel, rfl⟩
theorem rX7_isDigit_7 : tq_D cX7_isDigit 7 (.bipush 57) 2 9 := ⟨by decide +kernel, rfl⟩
theorem rX7_isDigit_9 : tq_J cX7_isDigit 9 (.if_icmp .gt) 16 12 := ⟨7, by decide +kernel, by decide, rfl⟩
theorem rX7_isDigit_12 : tq_D cX7_isDigit 12 (.iconst 1) 1 13 := ⟨by decide +kernel, rfl⟩
theorem rX7_isDigit_13 : tq_J cX7_isDigit 13 .goto 17 16 := ⟨4, by decide +kernel, by decide, rfl⟩
theorem rX7_isDigit_16 : tq_D cX7_isDigit 16 (.iconst 0) 1 17 := ⟨by decide +kernel, rfl⟩
theorem rX7_isDigit_17 : decode cX7_isDigit 17 = .ok (.ireturn, 1) := by decide +kernel
noncomputable def FX7_isDigit_j16 (I : tq_PI) (L : tq_PL)  : Bool :=
  false
noncomputable def FX7_isDigit (I : tq_PI) (L : tq_PL) (a0 : Int32) : Bool :=
  (if a0 < (48 : Int32) then (FX7_isDigit_j16 I L ) else (if (57 : Int32) < a0 then (FX7_isDigit_j16 I L ) else true))
set_option maxRecDepth 100000 in
set_option maxHeartbeats 4000000 in
theorem FX7_isDigit_j16_x {S : Nat × (Nat → Int32)} {d : Nat} {I : tq_PI} {L : tq_PL}   {q0 : Option Value → tq_PI → tq_PL → Prop} {out : Bool} (hf : FX7_isDigit_j16 I L = out) (hk : q0 (some (.int (tq_b out))) I L) : tq_X S mX7_isDigit d tq_k0 16 ([tq_u]) ([]) (tq_st I L) (tq_Q q0) := by
  unfold FX7_isDigit_j16 at hf
  refine tq_iconst (0 : Int32) rX7_isDigit_16 (by decide) ?_
  refine ty_zret (ty := .boolean) rX7_isDigit_17 rfl rfl rfl ?_
  subst hf
  exact hk

set_option maxRecDepth 100000 in
set_option maxHeartbeats 4000000 in
theorem CX7_isDigit {S : Nat × (Nat → Int32)} {d : Nat} {I : tq_PI} {L : tq_PL} {a0 : Int32}  {out : Bool} (hf : FX7_isDigit I L a0 = out) : tq_K S mX7_isDigit d [.int a0] I L (tq_one2 (some (.int (tq_b out))) I L) := by
  unfold FX7_isDigit at hf
  refine tq_K_of (by decide) (Nat.le_of_ble_eq_true rfl) (ls := [.int a0]) rfl ?_
  refine tq_iload_n rX7_isDigit_0 rfl ?_
  refine tq_bipush (48 : Int32) rX7_isDigit_1 (by decide) ?_
  refine tq_icmp_lt rX7_isDigit_3 (fun c1 => ?_) (fun c1 => ?_)
  · rw [if_pos c1] at hf
    exact tq_forget _ (tq_le_u tq_le_n) (FX7_isDigit_j16_x   hf ⟨rfl, rfl, rfl⟩)
  · rw [if_neg c1] at hf
    refine tq_iload_n rX7_isDigit_6 rfl ?_
    refine tq_bipush (57 : Int32) rX7_isDigit_7 (by decide) ?_
    refine tq_icmp_gt rX7_isDigit_9 (fun c2 => ?_) (fun c2 => ?_)
    · rw [if_pos c2] at hf
      exact tq_forget _ (tq_le_u tq_le_n) (FX7_isDigit_j16_x   hf ⟨rfl, rfl, rfl⟩)
    · rw [if_neg c2] at hf
      refine tq_iconst (1 : Int32) rX7_isDigit_12 (by decide) ?_
      refine tq_goto rX7_isDigit_13 ?_
      refine ty_zret (ty := .boolean) rX7_isDigit_17 rfl rfl rfl ?_
      subst hf
      exact ⟨rfl, rfl, rfl⟩

abbrev mX7_nextNumber : tq_M := (yX7_nextNumber, cX7_nextNumber, 1, (Option.some Jvm.ClassFile.FieldType.int), 0, 0)
theorem moX7_byteAt : tq_mok mX7_byteAt 1 := ⟨tq_sg1 _ (List.mem_of_getElem? (i := 7) rfl), tq_sg2 _ (List.mem_of_getElem? (i := 209) rfl), ⟨by decide, by decide, by decide +kernel⟩, by decide⟩
theorem mvX7_byteAt : 7 < 13 ∧ (tq_cl 7).1 = mX7_byteAt.1.cls ∧ Cond.instanceMethod mX7_byteAt.1 ∈ lw_tbl ∧ Cond.selects mX7_byteAt.1.cls mX7_byteAt.1 mX7_byteAt.1 ∈ lw_tbl := ⟨by decide, rfl, tq_sg2 _ (List.mem_of_getElem? (i := 208) rfl), List.mem_append_left _ (List.mem_map.mpr ⟨_, List.mem_of_getElem? (i := 2) rfl, rfl⟩)⟩
theorem moX7_isDigit : tq_mok mX7_isDigit 1 := ⟨tq_sg1 _ (List.mem_of_getElem? (i := 7) rfl), tq_sg2 _ (List.mem_of_getElem? (i := 218) rfl), ⟨by decide, by decide, by decide +kernel⟩, by decide⟩
theorem msX7_isDigit : Cond.static mX7_isDigit.1 ∈ lw_tbl := tq_sg2 _ (List.mem_of_getElem? (i := 217) rfl)
theorem f_X7_58 : tq_fok RX7 58 7 9 := ⟨by decide, by decide, Or.inl (tq_sg1 _ (List.mem_of_getElem? (i := 199) rfl))⟩
theorem f_X7_61 : tq_fok RX7 61 7 10 := ⟨by decide, by decide, Or.inl (tq_sg1 _ (List.mem_of_getElem? (i := 200) rfl))⟩
theorem l_X7_135 : tq_lok RX7 135 mX7_byteAt.1 := Or.inl (tq_sg2 _ (List.mem_of_getElem? (i := 206) rfl))
theorem l_X7_145 : tq_lok RX7 145 mX7_isDigit.1 := Or.inl (tq_sg2 _ (List.mem_of_getElem? (i := 216) rfl))
theorem rX7_nextNumber_0 : tq_D cX7_nextNumber 0 (.aload_n 0) 1 1 := ⟨by decide +kernel, rfl⟩
theorem rX7_nextNumber_1 : tq_D cX7_nextNumber 1 (.iconst 0) 1 2 := ⟨by decide +kernel, rfl⟩
theorem rX7_nextNumber_2 : tq_D cX7_nextNumber 2 (.putfield 61) 3 5 := ⟨by decide +kernel, rfl⟩
theorem rX7_nextNumber_5 : tq_D cX7_nextNumber 5 (.aload_n 0) 1 6 := ⟨by decide +kernel, rfl⟩
theorem rX7_nextNumber_6 : tq_D cX7_nextNumber 6 (.getfield 55) 3 9 := ⟨by decide +kernel, rfl⟩
theorem rX7_nextNumber_9 : tq_D cX7_nextNumber 9 (.aload_n 0) 1 10 := ⟨by decide +kernel, rfl⟩
theorem rX7_nextNumber_10 : tq_D cX7_nextNumber 10 (.getfield 51) 3 13 := ⟨by decide +kernel, rfl⟩
theorem rX7_nextNumber_13 : tq_J cX7_nextNumber 13 (.if_icmp .ge) 83 16 := ⟨70, by decide +kernel, by decide, rfl⟩
theorem rX7_nextNumber_16 : tq_D cX7_nextNumber 16 (.aload_n 0) 1 17 := ⟨by decide +kernel, rfl⟩
theorem rX7_nextNumber_17 : tq_D cX7_nextNumber 17 (.aload_n 0) 1 18 := ⟨by decide +kernel, rfl⟩
theorem rX7_nextNumber_18 : tq_D cX7_nextNumber 18 (.getfield 55) 3 21 := ⟨by decide +kernel, rfl⟩
theorem rX7_nextNumber_21 : tq_D cX7_nextNumber 21 (.invokevirtual 135) 3 24 := ⟨by decide +kernel, rfl⟩
theorem rX7_nextNumber_24 : tq_D cX7_nextNumber 24 (.invokestatic 145) 3 27 := ⟨by decide +kernel, rfl⟩
theorem rX7_nextNumber_27 : tq_J cX7_nextNumber 27 (.ifCond .eq) 83 30 := ⟨56, by decide +kernel, by decide, rfl⟩
theorem rX7_nextNumber_30 : tq_D cX7_nextNumber 30 (.aload_n 0) 1 31 := ⟨by decide +kernel, rfl⟩
theorem rX7_nextNumber_31 : tq_D cX7_nextNumber 31 (.aload_n 0) 1 32 := ⟨by decide +kernel, rfl⟩
theorem rX7_nextNumber_32 : tq_D cX7_nextNumber 32 (.getfield 55) 3 35 := ⟨by decide +kernel, rfl⟩
theorem rX7_nextNumber_35 : tq_D cX7_nextNumber 35 (.aload_n 0) 1 36 := ⟨by decide +kernel, rfl⟩
theorem rX7_nextNumber_36 : tq_D cX7_nextNumber 36 (.getfield 58) 3 39 := ⟨by decide +kernel, rfl⟩
theorem rX7_nextNumber_39 : tq_D cX7_nextNumber 39 (.isub) 1 40 := ⟨by decide +kernel, rfl⟩
theorem rX7_nextNumber_40 : tq_D cX7_nextNumber 40 (.iconst 2) 1 41 := ⟨by decide +kernel, rfl⟩
theorem rX7_nextNumber_41 : tq_J cX7_nextNumber 41 (.if_icmp .ge) 66 44 := ⟨25, by decide +kernel, by decide, rfl⟩
theorem rX7_nextNumber_44 : tq_D cX7_nextNumber 44 (.bipush 10) 2 46 := ⟨by decide +kernel, rfl⟩
theorem rX7_nextNumber_46 : tq_D cX7_nextNumber 46 (.aload_n 0) 1 47 := ⟨by decide +kernel, rfl⟩
theorem rX7_nextNumber_47 : tq_D cX7_nextNumber 47 (.getfield 61) 3 50 := ⟨by decide +kernel, rfl⟩
theorem rX7_nextNumber_50 : tq_D cX7_nextNumber 50 (.imul) 1 51 := ⟨by decide +kernel, rfl⟩
theorem rX7_nextNumber_51 : tq_D cX7_nextNumber 51 (.aload_n 0) 1 52 := ⟨by decide +kernel, rfl⟩
theorem rX7_nextNumber_52 : tq_D cX7_nextNumber 52 (.aload_n 0) 1 53 := ⟨by decide +kernel, rfl⟩
theorem rX7_nextNumber_53 : tq_D cX7_nextNumber 53 (.getfield 55) 3 56 := ⟨by decide +kernel, rfl⟩
theorem rX7_nextNumber_56 : tq_D cX7_nextNumber 56 (.invokevirtual 135) 3 59 := ⟨by decide +kernel, rfl⟩
theorem rX7_nextNumber_59 : tq_D cX7_nextNumber 59 (.iadd) 1 60 := ⟨by decide +kernel, rfl⟩
theorem rX7_nextNumber_60 : tq_D cX7_nextNumber 60 (.bipush 48) 2 62 := ⟨by decide +kernel, rfl⟩
theorem rX7_nextNumber_62 : tq_D cX7_nextNumber 62 (.isub) 1 63 := ⟨by decide +kernel, rfl⟩
theorem rX7_nextNumber_63 : tq_J cX7_nextNumber 63 .goto 67 66 := ⟨4, by decide +kernel, by decide, rfl⟩
theorem rX7_nextNumber_66 : tq_D cX7_nextNumber 66 (.iconst 0) 1 67 := ⟨by decide +kernel, rfl⟩
theorem rX7_nextNumber_67 : tq_D cX7_nextNumber 67 (.putfield 61) 3 70 := ⟨by decide +kernel, rfl⟩
theorem rX7_nextNumber_70 : tq_D cX7_nextNumber 70 (.aload_n 0) 1 71 := ⟨by decide +kernel, rfl⟩
theorem rX7_nextNumber_71 : tq_D cX7_nextNumber 71 (.dup) 1 72 := ⟨by decide +kernel, rfl⟩
theorem rX7_nextNumber_72 : tq_D cX7_nextNumber 72 (.getfield 55) 3 75 := ⟨by decide +kernel, rfl⟩
theorem rX7_nextNumber_75 : tq_D cX7_nextNumber 75 (.iconst 1) 1 76 := ⟨by decide +kernel, rfl⟩
theorem rX7_nextNumber_76 : tq_D cX7_nextNumber 76 (.iadd) 1 77 := ⟨by decide +kernel, rfl⟩
theorem rX7_nextNumber_77 : tq_D cX7_nextNumber 77 (.putfield 55) 3 80 := ⟨by decide +kernel, rfl⟩
theorem rX7_nextNumber_80 : tq_J cX7_nextNumber 80 .goto 5 83 := ⟨(-75), by decide +kernel, by decide, rfl⟩
theorem rX7_nextNumber_83 : tq_D cX7_nextNumber 83 (.aload_n 0) 1 84 := ⟨by decide +kernel, rfl⟩
theorem rX7_nextNumber_84 : tq_D cX7_nextNumber 84 (.getfield 55) 3 87 := ⟨by decide +kernel, rfl⟩
theorem rX7_nextNumber_87 : tq_D cX7_nextNumber 87 (.aload_n 0) 1 88 := ⟨by decide +kernel, rfl⟩
theorem rX7_nextNumber_88 : tq_D cX7_nextNumber 88 (.getfield 58) 3 91 := ⟨by decide +kernel, rfl⟩
theorem rX7_nextNumber_91 : tq_D cX7_nextNumber 91 (.isub) 1 92 := ⟨by decide +kernel, rfl⟩
theorem rX7_nextNumber_92 : tq_D cX7_nextNumber 92 (.iconst 2) 1 93 := ⟨by decide +kernel, rfl⟩
theorem rX7_nextNumber_93 : tq_J cX7_nextNumber 93 (.if_icmp .le) 100 96 := ⟨7, by decide +kernel, by decide, rfl⟩
theorem rX7_nextNumber_96 : tq_D cX7_nextNumber 96 (.iconst 4) 1 97 := ⟨by decide +kernel, rfl⟩
theorem rX7_nextNumber_97 : tq_J cX7_nextNumber 97 .goto 101 100 := ⟨4, by decide +kernel, by decide, rfl⟩
theorem rX7_nextNumber_100 : tq_D cX7_nextNumber 100 (.iconst 2) 1 101 := ⟨by decide +kernel, rfl⟩
theorem rX7_nextNumber_101 : decode cX7_nextNumber 101 = .ok (.ireturn, 1) := by decide +kernel
noncomputable def FX7_nextNumber_j67L5 (I : tq_PI) (L : tq_PL) (a0 : Nat) (b0 : Int32) (b1 : Nat) : Option ((tq_PI) ⊕ (tq_PI)) :=
  some (.inl (tq_up2 (tq_up2 I b1 10 b0) a0 8 ((((tq_up2 I b1 10 b0)) a0 8) + (1 : Int32))))
noncomputable def FX7_nextNumber_s5 (I : tq_PI) (L : tq_PL) (a0 : Nat) : Option ((tq_PI) ⊕ (tq_PI)) :=
  (if (I a0 7) ≤ (I a0 8) then some (.inr I) else ((FX7_byteAt I L a0 ((I a0 8))).bind fun p2 => (tq_let (FX7_isDigit I L p2) fun p3 => (if (tq_b p3) = 0 then some (.inr I) else (if (2 : Int32) ≤ ((I a0 8) - (I a0 9)) then (FX7_nextNumber_j67L5 I L a0 ((0 : Int32)) a0) else ((FX7_byteAt I L a0 ((I a0 8))).bind fun p6 => (FX7_nextNumber_j67L5 I L a0 (((((10 : Int32) * (I a0 10)) + p6) - (48 : Int32))) a0)))))))
noncomputable def FX7_nextNumber (I : tq_PI) (L : tq_PL) (a0 : Nat) : Option (Int32 × tq_PI) :=
  ((tq_it (fun p : tq_PI => FX7_nextNumber_s5 p L a0 ) tq_N (tq_up2 I a0 10 (0 : Int32))).bind fun p7 => (if ((p7 a0 8) - (p7 a0 9)) ≤ (2 : Int32) then some ((2 : Int32), p7) else some ((4 : Int32), p7)))
set_option maxRecDepth 100000 in
set_option maxHeartbeats 4000000 in
theorem FX7_nextNumber_j67L5_x {S : Nat × (Nat → Int32)} {d : Nat} {I : tq_PI} {L : tq_PL} {a0 : Nat} {b0 : Int32} {b1 : Nat} (h0 : tq_sh0 a0 = 7) (k1 : tq_sh0 b1 = 7) {q0 : Option Value → tq_PI → tq_PL → Prop} {out : (tq_PI) ⊕ (tq_PI)} (hf : FX7_nextNumber_j67L5 I L a0 b0 b1 = some out) (hk : Sum.elim (fun p : tq_PI => tq_X S mX7_nextNumber (d + 1) tq_k0 5 ([.ref a0]) [] (tq_st p L) (tq_Q q0)) (fun p : tq_PI => tq_X S mX7_nextNumber (d + 1) tq_k0 83 ([.ref a0]) [] (tq_st p L) (tq_Q q0)) out) : tq_X S mX7_nextNumber (d + 1) tq_k0 67 ([.ref a0]) ([.int b0, .ref b1]) (tq_st I L) (tq_Q q0) := by
  unfold FX7_nextNumber_j67L5 at hf
  refine ty_putI rX7_nextNumber_67 f_X7_61 rfl k1 rfl ?_
  refine tq_aload_n rX7_nextNumber_70 rfl ?_
  refine tq_dup rX7_nextNumber_71 rfl ?_
  refine ty_getI rX7_nextNumber_72 f_X7_55 rfl h0 ?_
  refine tq_iconst (1 : Int32) rX7_nextNumber_75 (by decide) ?_
  refine tq_iadd rX7_nextNumber_76 ?_
  refine ty_putI rX7_nextNumber_77 f_X7_55 rfl h0 rfl ?_
  refine tq_goto rX7_nextNumber_80 ?_
  have hf := Option.some.inj hf
  subst hf
  exact tq_forget _ (tq_le_s tq_le_n) hk

set_option maxRecDepth 100000 in
set_option maxHeartbeats 4000000 in
theorem FX7_nextNumber_s5_x {S : Nat × (Nat → Int32)} {d : Nat} {I : tq_PI} {L : tq_PL} {a0 : Nat} (h0 : tq_sh0 a0 = 7) {q0 : Option Value → tq_PI → tq_PL → Prop} {out : (tq_PI) ⊕ (tq_PI)} (hf : FX7_nextNumber_s5 I L a0 = some out) (hk : Sum.elim (fun p : tq_PI => tq_X S mX7_nextNumber (d + 1) tq_k0 5 ([.ref a0]) [] (tq_st p L) (tq_Q q0)) (fun p : tq_PI => tq_X S mX7_nextNumber (d + 1) tq_k0 83 ([.ref a0]) [] (tq_st p L) (tq_Q q0)) out) : tq_X S mX7_nextNumber (d + 1) tq_k0 5 ([.ref a0]) [] (tq_st I L) (tq_Q q0) := by
  unfold FX7_nextNumber_s5 at hf
  refine tq_aload_n rX7_nextNumber_5 rfl ?_
  refine ty_getI rX7_nextNumber_6 f_X7_55 rfl h0 ?_
  refine tq_aload_n rX7_nextNumber_9 rfl ?_
  refine ty_getI rX7_nextNumber_10 f_X7_51 rfl h0 ?_
  refine tq_icmp_ge rX7_nextNumber_13 (fun c1 => ?_) (fun c1 => ?_)
  · rw [if_pos c1] at hf
    have hf := Option.some.inj hf
    subst hf
    exact tq_forget _ (tq_le_s tq_le_n) hk
  · rw [if_neg c1] at hf
    refine tq_aload_n rX7_nextNumber_16 rfl ?_
    refine tq_aload_n rX7_nextNumber_17 rfl ?_
    refine ty_getI rX7_nextNumber_18 f_X7_55 rfl h0 ?_
    obtain ⟨p2, e2, hf⟩ := Option.bind_eq_some_iff.mp hf
    refine ty_callVI p2 ([.int (I a0 8)]) ([]) rX7_nextNumber_21 l_X7_135 moX7_byteAt mvX7_byteAt h0 rfl rfl (Nat.le_of_ble_eq_true rfl) ⟨rfl, rfl⟩ (CX7_byteAt h0 e2) ?_
    obtain ⟨p3, e3, hf⟩ := tq_let_elim hf
    refine ty_callSI (tq_b p3) ([.int p2]) ([]) rX7_nextNumber_24 l_X7_145 moX7_isDigit msX7_isDigit rfl rfl (Nat.le_of_ble_eq_true rfl) ⟨rfl, rfl⟩ (CX7_isDigit  e3) ?_
    refine tq_if_eq rX7_nextNumber_27 (fun c4 => ?_) (fun c4 => ?_)
    · rw [if_pos c4] at hf
      have hf := Option.some.inj hf
      subst hf
      exact tq_forget _ (tq_le_s tq_le_n) hk
    · rw [if_neg c4] at hf
      refine tq_aload_n rX7_nextNumber_30 rfl ?_
      refine tq_aload_n rX7_nextNumber_31 rfl ?_
      refine ty_getI rX7_nextNumber_32 f_X7_55 rfl h0 ?_
      refine tq_aload_n rX7_nextNumber_35 rfl ?_
      refine ty_getI rX7_nextNumber_36 f_X7_58 rfl h0 ?_
      refine tq_isub rX7_nextNumber_39 ?_
      refine tq_iconst (2 : Int32) rX7_nextNumber_40 (by decide) ?_
      refine tq_icmp_ge rX7_nextNumber_41 (fun c5 => ?_) (fun c5 => ?_)
      · rw [if_pos c5] at hf
        refine tq_iconst (0 : Int32) rX7_nextNumber_66 (by decide) ?_
        exact tq_forget _ (tq_le_s tq_le_n) (FX7_nextNumber_j67L5_x  h0 h0 hf hk)
      · rw [if_neg c5] at hf
        refine tq_bipush (10 : Int32) rX7_nextNumber_44 (by decide) ?_
        refine tq_aload_n rX7_nextNumber_46 rfl ?_
        refine ty_getI rX7_nextNumber_47 f_X7_61 rfl h0 ?_
        refine tq_imul rX7_nextNumber_50 ?_
        refine tq_aload_n rX7_nextNumber_51 rfl ?_
        refine tq_aload_n rX7_nextNumber_52 rfl ?_
        refine ty_getI rX7_nextNumber_53 f_X7_55 rfl h0 ?_
        obtain ⟨p6, e6, hf⟩ := Option.bind_eq_some_iff.mp hf
        refine ty_callVI p6 ([.int (I a0 8)]) ([.int ((10 : Int32) * (I a0 10)), .ref a0]) rX7_nextNumber_56 l_X7_135 moX7_byteAt mvX7_byteAt h0 rfl rfl (Nat.le_of_ble_eq_true rfl) ⟨rfl, rfl⟩ (CX7_byteAt h0 e6) ?_
        refine tq_iadd rX7_nextNumber_59 ?_
        refine tq_bipush (48 : Int32) rX7_nextNumber_60 (by decide) ?_
        refine tq_isub rX7_nextNumber_62 ?_
        refine tq_goto rX7_nextNumber_63 ?_
        exact tq_forget _ (tq_le_s tq_le_n) (FX7_nextNumber_j67L5_x  h0 h0 hf hk)

set_option maxRecDepth 100000 in
set_option maxHeartbeats 4000000 in
theorem CX7_nextNumber {S : Nat × (Nat → Int32)} {d : Nat} {I : tq_PI} {L : tq_PL} {a0 : Nat} (h0 : tq_sh0 a0 = 7) {out : Int32 × tq_PI} (hf : FX7_nextNumber I L a0 = some out) : tq_K S mX7_nextNumber (d + 1) [.ref a0] I L (tq_one2 (some (.int out.1)) out.2 L) := by
  unfold FX7_nextNumber at hf
  refine tq_K_of (by decide) (Nat.le_of_ble_eq_true rfl) (ls := [.ref a0]) rfl ?_
  refine tq_aload_n rX7_nextNumber_0 rfl ?_
  refine tq_iconst (0 : Int32) rX7_nextNumber_1 (by decide) ?_
  refine ty_putI rX7_nextNumber_2 f_X7_61 rfl h0 rfl ?_
  obtain ⟨p7, e7, hf⟩ := Option.bind_eq_some_iff.mp hf
  refine tq_forget _ (tq_le_s tq_le_n) ?_
  refine tq_it_elim (P := fun p : tq_PI => tq_X S mX7_nextNumber (d + 1) tq_k0 5 ([.ref a0]) [] (tq_st p L) (tq_Q (tq_one2 (some (.int out.1)) out.2 L))) (R := fun p : tq_PI => tq_X S mX7_nextNumber (d + 1) tq_k0 83 ([.ref a0]) [] (tq_st p L) (tq_Q (tq_one2 (some (.int out.1)) out.2 L))) (fun p o hp hk => FX7_nextNumber_s5_x  h0 hp hk) _ ((tq_up2 I a0 10 (0 : Int32))) _ e7 ?_
  show tq_X _ _ _ _ _ _ _ _ _
  refine tq_aload_n rX7_nextNumber_83 rfl ?_
  refine ty_getI rX7_nextNumber_84 f_X7_55 rfl h0 ?_
  refine tq_aload_n rX7_nextNumber_87 rfl ?_
  refine ty_getI rX7_nextNumber_88 f_X7_58 rfl h0 ?_
  refine tq_isub rX7_nextNumber_91 ?_
  refine tq_iconst (2 : Int32) rX7_nextNumber_92 (by decide) ?_
  refine tq_icmp_le rX7_nextNumber_93 (fun c8 => ?_) (fun c8 => ?_)
  · rw [if_pos c8] at hf
    refine tq_iconst (2 : Int32) rX7_nextNumber_100 (by decide) ?_
    refine ty_iret rX7_nextNumber_101 rfl rfl ?_
    have hf := Option.some.inj hf
    subst hf
    exact ⟨rfl, rfl, rfl⟩
  · rw [if_neg c8] at hf
    refine tq_iconst (4 : Int32) rX7_nextNumber_96 (by decide) ?_
    refine tq_goto rX7_nextNumber_97 ?_
    refine ty_iret rX7_nextNumber_101 rfl rfl ?_
    have hf := Option.some.inj hf
    subst hf
    exact ⟨rfl, rfl, rfl⟩

abbrev mX7_next : tq_M := (yX7_next, cX7_next, 2, (Option.some Jvm.ClassFile.FieldType.int), 0, 0)
theorem moX7_isBlank : tq_mok mX7_isBlank 1 := ⟨tq_sg1 _ (List.mem_of_getElem? (i := 7) rfl), tq_sg2 _ (List.mem_of_getElem? (i := 212) rfl), ⟨by decide, by decide, by decide +kernel⟩, by decide⟩
theorem msX7_isBlank : Cond.static mX7_isBlank.1 ∈ lw_tbl := tq_sg2 _ (List.mem_of_getElem? (i := 211) rfl)
theorem moX7_isLetter : tq_mok mX7_isLetter 1 := ⟨tq_sg1 _ (List.mem_of_getElem? (i := 7) rfl), tq_sg2 _ (List.mem_of_getElem? (i := 215) rfl), ⟨by decide, by decide, by decide +kernel⟩, by decide⟩
theorem msX7_isLetter : Cond.static mX7_isLetter.1 ∈ lw_tbl := tq_sg2 _ (List.mem_of_getElem? (i := 214) rfl)
theorem moX7_nextNumber : tq_mok mX7_nextNumber 0 := ⟨tq_sg1 _ (List.mem_of_getElem? (i := 7) rfl), tq_sg2 _ (List.mem_of_getElem? (i := 222) rfl), ⟨by decide, by decide, by decide +kernel⟩, by decide⟩
theorem mvX7_nextNumber : 7 < 13 ∧ (tq_cl 7).1 = mX7_nextNumber.1.cls ∧ Cond.instanceMethod mX7_nextNumber.1 ∈ lw_tbl ∧ Cond.selects mX7_nextNumber.1.cls mX7_nextNumber.1 mX7_nextNumber.1 ∈ lw_tbl := ⟨by decide, rfl, tq_sg2 _ (List.mem_of_getElem? (i := 221) rfl), List.mem_append_left _ (List.mem_map.mpr ⟨_, List.mem_of_getElem? (i := 3) rfl, rfl⟩)⟩
theorem l_X7_138 : tq_lok RX7 138 mX7_isBlank.1 := Or.inl (tq_sg2 _ (List.mem_of_getElem? (i := 210) rfl))
theorem l_X7_142 : tq_lok RX7 142 mX7_isLetter.1 := Or.inl (tq_sg2 _ (List.mem_of_getElem? (i := 213) rfl))
theorem l_X7_148 : tq_lok RX7 148 mX7_nextNumber.1 := Or.inl (tq_sg2 _ (List.mem_of_getElem? (i := 219) rfl))
theorem rX7_next_0 : tq_D cX7_next 0 (.aload_n 0) 1 1 := ⟨by decide +kernel, rfl⟩
theorem rX7_next_1 : tq_D cX7_next 1 (.getfield 55) 3 4 := ⟨by decide +kernel, rfl⟩
theorem rX7_next_4 : tq_D cX7_next 4 (.aload_n 0) 1 5 := ⟨by decide +kernel, rfl⟩
theorem rX7_next_5 : tq_D cX7_next 5 (.getfield 51) 3 8 := ⟨by decide +kernel, rfl⟩
theorem rX7_next_8 : tq_J cX7_next 8 (.if_icmp .ge) 38 11 := ⟨30, by decide +kernel, by decide, rfl⟩
theorem rX7_next_11 : tq_D cX7_next 11 (.aload_n 0) 1 12 := ⟨by decide +kernel, rfl⟩
theorem rX7_next_12 : tq_D cX7_next 12 (.aload_n 0) 1 13 := ⟨by decide +kernel, rfl⟩
theorem rX7_next_13 : tq_D cX7_next 13 (.getfield 55) 3 16 := ⟨by decide +kernel, rfl⟩
theorem rX7_next_16 : tq_D cX7_next 16 (.invokevirtual 135) 3 19 := ⟨by decide +kernel, rfl⟩
theorem rX7_next_19 : tq_D cX7_next 19 (.invokestatic 138) 3 22 := ⟨by decide +kernel, rfl⟩
theorem rX7_next_22 : tq_J cX7_next 22 (.ifCond .eq) 38 25 := ⟨16, by decide +kernel, by decide, rfl⟩
theorem rX7_next_25 : tq_D cX7_next 25 (.aload_n 0) 1 26 := ⟨by decide +kernel, rfl⟩
theorem rX7_next_26 : tq_D cX7_next 26 (.dup) 1 27 := ⟨by decide +kernel, rfl⟩
theorem rX7_next_27 : tq_D cX7_next 27 (.getfield 55) 3 30 := ⟨by decide +kernel, rfl⟩
theorem rX7_next_30 : tq_D cX7_next 30 (.iconst 1) 1 31 := ⟨by decide +kernel, rfl⟩
theorem rX7_next_31 : tq_D cX7_next 31 (.iadd) 1 32 := ⟨by decide +kernel, rfl⟩
theorem rX7_next_32 : tq_D cX7_next 32 (.putfield 55) 3 35 := ⟨by decide +kernel, rfl⟩
theorem rX7_next_35 : tq_J cX7_next 35 .goto 0 38 := ⟨(-35), by decide +kernel, by decide, rfl⟩
theorem rX7_next_38 : tq_D cX7_next 38 (.aload_n 0) 1 39 := ⟨by decide +kernel, rfl⟩
theorem rX7_next_39 : tq_D cX7_next 39 (.aload_n 0) 1 40 := ⟨by decide +kernel, rfl⟩
theorem rX7_next_40 : tq_D cX7_next 40 (.getfield 55) 3 43 := ⟨by decide +kernel, rfl⟩
theorem rX7_next_43 : tq_D cX7_next 43 (.putfield 58) 3 46 := ⟨by decide +kernel, rfl⟩
theorem rX7_next_46 : tq_D cX7_next 46 (.aload_n 0) 1 47 := ⟨by decide +kernel, rfl⟩
theorem rX7_next_47 : tq_D cX7_next 47 (.getfield 55) 3 50 := ⟨by decide +kernel, rfl⟩
theorem rX7_next_50 : tq_D cX7_next 50 (.aload_n 0) 1 51 := ⟨by decide +kernel, rfl⟩
theorem rX7_next_51 : tq_D cX7_next 51 (.getfield 51) 3 54 := ⟨by decide +kernel, rfl⟩
theorem rX7_next_54 : tq_J cX7_next 54 (.if_icmp .lt) 59 57 := ⟨5, by decide +kernel, by decide, rfl⟩
theorem rX7_next_57 : tq_D cX7_next 57 (.iconst 0) 1 58 := ⟨by decide +kernel, rfl⟩
theorem rX7_next_58 : decode cX7_next 58 = .ok (.ireturn, 1) := by decide +kernel
theorem rX7_next_59 : tq_D cX7_next 59 (.aload_n 0) 1 60 := ⟨by decide +kernel, rfl⟩
theorem rX7_next_60 : tq_D cX7_next 60 (.aload_n 0) 1 61 := ⟨by decide +kernel, rfl⟩
theorem rX7_next_61 : tq_D cX7_next 61 (.getfield 55) 3 64 := ⟨by decide +kernel, rfl⟩
theorem rX7_next_64 : tq_D cX7_next 64 (.invokevirtual 135) 3 67 := ⟨by decide +kernel, rfl⟩
theorem rX7_next_67 : tq_D cX7_next 67 (.istore_n 1) 1 68 := ⟨by decide +kernel, rfl⟩
theorem rX7_next_68 : tq_D cX7_next 68 (.iload_n 1) 1 69 := ⟨by decide +kernel, rfl⟩
theorem rX7_next_69 : tq_D cX7_next 69 (.invokestatic 142) 3 72 := ⟨by decide +kernel, rfl⟩
theorem rX7_next_72 : tq_J cX7_next 72 (.ifCond .eq) 115 75 := ⟨43, by decide +kernel, by decide, rfl⟩
theorem rX7_next_75 : tq_D cX7_next 75 (.aload_n 0) 1 76 := ⟨by decide +kernel, rfl⟩
theorem rX7_next_76 : tq_D cX7_next 76 (.getfield 55) 3 79 := ⟨by decide +kernel, rfl⟩
theorem rX7_next_79 : tq_D cX7_next 79 (.aload_n 0) 1 80 := ⟨by decide +kernel, rfl⟩
theorem rX7_next_80 : tq_D cX7_next 80 (.getfield 51) 3 83 := ⟨by decide +kernel, rfl⟩
theorem rX7_next_83 : tq_J cX7_next 83 (.if_icmp .ge) 113 86 := ⟨30, by decide +kernel, by decide, rfl⟩
theorem rX7_next_86 : tq_D cX7_next 86 (.aload_n 0) 1 87 := ⟨by decide +kernel, rfl⟩
theorem rX7_next_87 : tq_D cX7_next 87 (.aload_n 0) 1 88 := ⟨by decide +kernel, rfl⟩
theorem rX7_next_88 : tq_D cX7_next 88 (.getfield 55) 3 91 := ⟨by decide +kernel, rfl⟩
theorem rX7_next_91 : tq_D cX7_next 91 (.invokevirtual 135) 3 94 := ⟨by decide +kernel, rfl⟩
theorem rX7_next_94 : tq_D cX7_next 94 (.invokestatic 142) 3 97 := ⟨by decide +kernel, rfl⟩
theorem rX7_next_97 : tq_J cX7_next 97 (.ifCond .eq) 113 100 := ⟨16, by decide +kernel, by decide, rfl⟩
theorem rX7_next_100 : tq_D cX7_next 100 (.aload_n 0) 1 101 := ⟨by decide +kernel, rfl⟩
theorem rX7_next_101 : tq_D cX7_next 101 (.dup) 1 102 := ⟨by decide +kernel, rfl⟩
theorem rX7_next_102 : tq_D cX7_next 102 (.getfield 55) 3 105 := ⟨by decide +kernel, rfl⟩
theorem rX7_next_105 : tq_D cX7_next 105 (.iconst 1) 1 106 := ⟨by decide +kernel, rfl⟩
theorem rX7_next_106 : tq_D cX7_next 106 (.iadd) 1 107 := ⟨by decide +kernel, rfl⟩
theorem rX7_next_107 : tq_D cX7_next 107 (.putfield 55) 3 110 := ⟨by decide +kernel, rfl⟩
theorem rX7_next_110 : tq_J cX7_next 110 .goto 75 113 := ⟨(-35), by decide +kernel, by decide, rfl⟩
theorem rX7_next_113 : tq_D cX7_next 113 (.iconst 1) 1 114 := ⟨by decide +kernel, rfl⟩
theorem rX7_next_114 : decode cX7_next 114 = .ok (.ireturn, 1) := by decide +kernel
theorem rX7_next_115 : tq_D cX7_next 115 (.iload_n 1) 1 116 := ⟨by decide +kernel, rfl⟩
theorem rX7_next_116 : tq_D cX7_next 116 (.invokestatic 145) 3 119 := ⟨by decide +kernel, rfl⟩
theorem rX7_next_119 : tq_J cX7_next 119 (.ifCond .eq) 127 122 := ⟨8, by decide +kernel, by decide, rfl⟩
theorem rX7_next_122 : tq_D cX7_next 122 (.aload_n 0) 1 123 := ⟨by decide +kernel, rfl⟩
theorem rX7_next_123 : tq_D cX7_next 123 (.invokevirtual 148) 3 126 := ⟨by decide +kernel, rfl⟩
theorem rX7_next_126 : decode cX7_next 126 = .ok (.ireturn, 1) := by decide +kernel
theorem rX7_next_127 : tq_D cX7_next 127 (.aload_n 0) 1 128 := ⟨by decide +kernel, rfl⟩
theorem rX7_next_128 : tq_D cX7_next 128 (.dup) 1 129 := ⟨by decide +kernel, rfl⟩
theorem rX7_next_129 : tq_D cX7_next 129 (.getfield 55) 3 132 := ⟨by decide +kernel, rfl⟩
theorem rX7_next_132 : tq_D cX7_next 132 (.iconst 1) 1 133 := ⟨by decide +kernel, rfl⟩
theorem rX7_next_133 : tq_D cX7_next 133 (.iadd) 1 134 := ⟨by decide +kernel, rfl⟩
theorem rX7_next_134 : tq_D cX7_next 134 (.putfield 55) 3 137 := ⟨by decide +kernel, rfl⟩
theorem rX7_next_137 : tq_D cX7_next 137 (.iload_n 1) 1 138 := ⟨by decide +kernel, rfl⟩
theorem rX7_next_138 : tq_D cX7_next 138 (.bipush 59) 2 140 := ⟨by decide +kernel, rfl⟩
theorem rX7_next_140 : tq_J cX7_next 140 (.if_icmp .ne) 147 143 := ⟨7, by decide +kernel, by decide, rfl⟩
theorem rX7_next_143 : tq_D cX7_next 143 (.iconst 3) 1 144 := ⟨by decide +kernel, rfl⟩
theorem rX7_next_144 : tq_J cX7_next 144 .goto 148 147 := ⟨4, by decide +kernel, by decide, rfl⟩
theorem rX7_next_147 : tq_D cX7_next 147 (.iconst 4) 1 148 := ⟨by decide +kernel, rfl⟩
theorem rX7_next_148 : decode cX7_next 148 = .ok (.ireturn, 1) := by decide +kernel
noncomputable def FX7_next_s0 (I : tq_PI) (L : tq_PL) (a0 : Nat) : Option ((tq_PI) ⊕ (tq_PI)) :=
  (if (I a0 7) ≤ (I a0 8) then some (.inr I) else ((FX7_byteAt I L a0 ((I a0 8))).bind fun p2 => (tq_let (FX7_isBlank I L p2) fun p3 => (if (tq_b p3) = 0 then some (.inr I) else some (.inl (tq_up2 I a0 8 ((I a0 8) + (1 : Int32))))))))
noncomputable def FX7_next_s75 (I : tq_PI) (L : tq_PL) (a0 : Nat) : Option ((tq_PI) ⊕ (tq_PI)) :=
  (if (I a0 7) ≤ (I a0 8) then some (.inr I) else ((FX7_byteAt I L a0 ((I a0 8))).bind fun p15 => (tq_let (FX7_isLetter I L p15) fun p16 => (if (tq_b p16) = 0 then some (.inr I) else some (.inl (tq_up2 I a0 8 ((I a0 8) + (1 : Int32))))))))
noncomputable def FX7_next (I : tq_PI) (L : tq_PL) (a0 : Nat) : Option (Int32 × tq_PI) :=
  ((tq_it (fun p : tq_PI => FX7_next_s0 p L a0 ) tq_N I).bind fun p5 => (if (((tq_up2 p5 a0 9 (p5 a0 8))) a0 8) < (((tq_up2 p5 a0 9 (p5 a0 8))) a0 7) then ((FX7_byteAt ((tq_up2 p5 a0 9 (p5 a0 8))) L a0 ((((tq_up2 p5 a0 9 (p5 a0 8))) a0 8))).bind fun p7 => (tq_let (FX7_isLetter ((tq_up2 p5 a0 9 (p5 a0 8))) L p7) fun p8 => (if (tq_b p8) = 0 then (tq_let (FX7_isDigit ((tq_up2 p5 a0 9 (p5 a0 8))) L p7) fun p10 => (if (tq_b p10) = 0 then (if p7 = (59 : Int32) then some ((3 : Int32), (tq_up2 (tq_up2 p5 a0 9 (p5 a0 8)) a0 8 ((((tq_up2 p5 a0 9 (p5 a0 8))) a0 8) + (1 : Int32)))) else some ((4 : Int32), (tq_up2 (tq_up2 p5 a0 9 (p5 a0 8)) a0 8 ((((tq_up2 p5 a0 9 (p5 a0 8))) a0 8) + (1 : Int32))))) else ((FX7_nextNumber ((tq_up2 p5 a0 9 (p5 a0 8))) L a0).bind fun p13 => some (p13.1, p13.2)))) else ((tq_it (fun p : tq_PI => FX7_next_s75 p L a0 ) tq_N (tq_up2 p5 a0 9 (p5 a0 8))).bind fun p18 => some ((1 : Int32), p18))))) else some ((0 : Int32), (tq_up2 p5 a0 9 (p5 a0 8)))))
set_option maxRecDepth 100000 in
set_option maxHeartbeats 4000000 in
theorem FX7_next_s0_x {S : Nat × (Nat → Int32)} {d : Nat} {I : tq_PI} {L : tq_PL} {a0 : Nat} (h0 : tq_sh0 a0 = 7) {q0 : Option Value → tq_PI → tq_PL → Prop} {out : (tq_PI) ⊕ (tq_PI)} (hf : FX7_next_s0 I L a0 = some out) (hk : Sum.elim (fun p : tq_PI => tq_X S mX7_next (d + 2) tq_k0 0 ([.ref a0, tq_u]) [] (tq_st p L) (tq_Q q0)) (fun p : tq_PI => tq_X S mX7_next (d + 2) tq_k0 38 ([.ref a0, tq_u]) [] (tq_st p L) (tq_Q q0)) out) : tq_X S mX7_next (d + 2) tq_k0 0 ([.ref a0, tq_u]) [] (tq_st I L) (tq_Q q0) := by
  unfold FX7_next_s0 at hf
  refine tq_aload_n rX7_next_0 rfl ?_
  refine ty_getI rX7_next_1 f_X7_55 rfl h0 ?_
  refine tq_aload_n rX7_next_4 rfl ?_
  refine ty_getI rX7_next_5 f_X7_51 rfl h0 ?_
  refine tq_icmp_ge rX7_next_8 (fun c1 => ?_) (fun c1 => ?_)
  · rw [if_pos c1] at hf
    have hf := Option.some.inj hf
    subst hf
    exact tq_forget _ (tq_le_s (tq_le_u tq_le_n)) hk
  · rw [if_neg c1] at hf
    refine tq_aload_n rX7_next_11 rfl ?_
    refine tq_aload_n rX7_next_12 rfl ?_
    refine ty_getI rX7_next_13 f_X7_55 rfl h0 ?_
    obtain ⟨p2, e2, hf⟩ := Option.bind_eq_some_iff.mp hf
    refine ty_callVI p2 ([.int (I a0 8)]) ([]) rX7_next_16 l_X7_135 moX7_byteAt mvX7_byteAt h0 rfl rfl (Nat.le_of_ble_eq_true rfl) ⟨rfl, rfl⟩ (CX7_byteAt h0 e2) ?_
    obtain ⟨p3, e3, hf⟩ := tq_let_elim hf
    refine ty_callSI (tq_b p3) ([.int p2]) ([]) rX7_next_19 l_X7_138 moX7_isBlank msX7_isBlank rfl rfl (Nat.le_of_ble_eq_true rfl) ⟨rfl, rfl⟩ (CX7_isBlank  e3) ?_
    refine tq_if_eq rX7_next_22 (fun c4 => ?_) (fun c4 => ?_)
    · rw [if_pos c4] at hf
      have hf := Option.some.inj hf
      subst hf
      exact tq_forget _ (tq_le_s (tq_le_u tq_le_n)) hk
    · rw [if_neg c4] at hf
      refine tq_aload_n rX7_next_25 rfl ?_
      refine tq_dup rX7_next_26 rfl ?_
      refine ty_getI rX7_next_27 f_X7_55 rfl h0 ?_
      refine tq_iconst (1 : Int32) rX7_next_30 (by decide) ?_
      refine tq_iadd rX7_next_31 ?_
      refine ty_putI rX7_next_32 f_X7_55 rfl h0 rfl ?_
      refine tq_goto rX7_next_35 ?_
      have hf := Option.some.inj hf
      subst hf
      exact tq_forget _ (tq_le_s (tq_le_u tq_le_n)) hk

set_option maxRecDepth 100000 in
set_option maxHeartbeats 4000000 in
theorem FX7_next_s75_x {S : Nat × (Nat → Int32)} {d : Nat} {I : tq_PI} {L : tq_PL} {a0 : Nat} (h0 : tq_sh0 a0 = 7) {q0 : Option Value → tq_PI → tq_PL → Prop} {out : (tq_PI) ⊕ (tq_PI)} (hf : FX7_next_s75 I L a0 = some out) (hk : Sum.elim (fun p : tq_PI => tq_X S mX7_next (d + 2) tq_k0 75 ([.ref a0, tq_u]) [] (tq_st p L) (tq_Q q0)) (fun p : tq_PI => tq_X S mX7_next (d + 2) tq_k0 113 ([tq_u, tq_u]) [] (tq_st p L) (tq_Q q0)) out) : tq_X S mX7_next (d + 2) tq_k0 75 ([.ref a0, tq_u]) [] (tq_st I L) (tq_Q q0) := by
  unfold FX7_next_s75 at hf
  refine tq_aload_n rX7_next_75 rfl ?_
  refine ty_getI rX7_next_76 f_X7_55 rfl h0 ?_
  refine tq_aload_n rX7_next_79 rfl ?_
  refine ty_getI rX7_next_80 f_X7_51 rfl h0 ?_
  refine tq_icmp_ge rX7_next_83 (fun c14 => ?_) (fun c14 => ?_)
  · rw [if_pos c14] at hf
    have hf := Option.some.inj hf
    subst hf
    exact tq_forget _ (tq_le_u (tq_le_u tq_le_n)) hk
  · rw [if_neg c14] at hf
    refine tq_aload_n rX7_next_86 rfl ?_
    refine tq_aload_n rX7_next_87 rfl ?_
    refine ty_getI rX7_next_88 f_X7_55 rfl h0 ?_
    obtain ⟨p15, e15, hf⟩ := Option.bind_eq_some_iff.mp hf
    refine ty_callVI p15 ([.int (I a0 8)]) ([]) rX7_next_91 l_X7_135 moX7_byteAt mvX7_byteAt h0 rfl rfl (Nat.le_of_ble_eq_true rfl) ⟨rfl, rfl⟩ (CX7_byteAt h0 e15) ?_
    obtain ⟨p16, e16, hf⟩ := tq_let_elim hf
    refine ty_callSI (tq_b p16) ([.int p15]) ([]) rX7_next_94 l_X7_142 moX7_isLetter msX7_isLetter rfl rfl (Nat.le_of_ble_eq_true rfl) ⟨rfl, rfl⟩ (CX7_isLetter  e16) ?_
    refine tq_if_eq rX7_next_97 (fun c17 => ?_) (fun c17 => ?_)
    · rw [if_pos c17] at hf
      have hf := Option.some.inj hf
      subst hf
      exact tq_forget _ (tq_le_u (tq_le_u tq_le_n)) hk
    · rw [if_neg c17] at hf
      refine tq_aload_n rX7_next_100 rfl ?_
      refine tq_dup rX7_next_101 rfl ?_
      refine ty_getI rX7_next_102 f_X7_55 rfl h0 ?_
      refine tq_iconst (1 : Int32) rX7_next_105 (by decide) ?_
      refine tq_iadd rX7_next_106 ?_
      refine ty_putI rX7_next_107 f_X7_55 rfl h0 rfl ?_
      refine tq_goto rX7_next_110 ?_
      have hf := Option.some.inj hf
      subst hf
      exact tq_forget _ (tq_le_s (tq_le_u tq_le_n)) hk

set_option maxRecDepth 100000 in
set_option maxHeartbeats 4000000 in
theorem CX7_next {S : Nat × (Nat → Int32)} {d : Nat} {I : tq_PI} {L : tq_PL} {a0 : Nat} (h0 : tq_sh0 a0 = 7) {out : Int32 × tq_PI} (hf : FX7_next I L a0 = some out) : tq_K S mX7_next (d + 2) [.ref a0] I L (tq_one2 (some (.int out.1)) out.2 L) := by
  unfold FX7_next at hf
  refine tq_K_of (by decide) (Nat.le_of_ble_eq_true rfl) (ls := [.ref a0, tq_u]) rfl ?_
  obtain ⟨p5, e5, hf⟩ := Option.bind_eq_some_iff.mp hf
  refine tq_forget _ (tq_le_s (tq_le_u tq_le_n)) ?_
  refine tq_it_elim (P := fun p : tq_PI => tq_X S mX7_next (d + 2) tq_k0 0 ([.ref a0, tq_u]) [] (tq_st p L) (tq_Q (tq_one2 (some (.int out.1)) out.2 L))) (R := fun p : tq_PI => tq_X S mX7_next (d + 2) tq_k0 38 ([.ref a0, tq_u]) [] (tq_st p L) (tq_Q (tq_one2 (some (.int out.1)) out.2 L))) (fun p o hp hk => FX7_next_s0_x  h0 hp hk) _ (I) _ e5 ?_
  show tq_X _ _ _ _ _ _ _ _ _
  refine tq_aload_n rX7_next_38 rfl ?_
  refine tq_aload_n rX7_next_39 rfl ?_
  refine ty_getI rX7_next_40 f_X7_55 rfl h0 ?_
  refine ty_putI rX7_next_43 f_X7_58 rfl h0 rfl ?_
  refine tq_aload_n rX7_next_46 rfl ?_
  refine ty_getI rX7_next_47 f_X7_55 rfl h0 ?_
  refine tq_aload_n rX7_next_50 rfl ?_
  refine ty_getI rX7_next_51 f_X7_51 rfl h0 ?_
  refine tq_icmp_lt rX7_next_54 (fun c6 => ?_) (fun c6 => ?_)
  · rw [if_pos c6] at hf
    refine tq_aload_n rX7_next_59 rfl ?_
    refine tq_aload_n rX7_next_60 rfl ?_
    refine ty_getI rX7_next_61 f_X7_55 rfl h0 ?_
    obtain ⟨p7, e7, hf⟩ := Option.bind_eq_some_iff.mp hf
    refine ty_callVI p7 ([.int (((tq_up2 p5 a0 9 (p5 a0 8))) a0 8)]) ([]) rX7_next_64 l_X7_135 moX7_byteAt mvX7_byteAt h0 rfl rfl (Nat.le_of_ble_eq_true rfl) ⟨rfl, rfl⟩ (CX7_byteAt h0 e7) ?_
    refine tq_istore_n ([.ref a0, .int p7]) rX7_next_67 (Nat.le_of_ble_eq_true rfl) rfl ?_
    refine tq_iload_n rX7_next_68 rfl ?_
    obtain ⟨p8, e8, hf⟩ := tq_let_elim hf
    refine ty_callSI (tq_b p8) ([.int p7]) ([]) rX7_next_69 l_X7_142 moX7_isLetter msX7_isLetter rfl rfl (Nat.le_of_ble_eq_true rfl) ⟨rfl, rfl⟩ (CX7_isLetter  e8) ?_
    refine tq_if_eq rX7_next_72 (fun c9 => ?_) (fun c9 => ?_)
    · rw [if_pos c9] at hf
      refine tq_iload_n rX7_next_115 rfl ?_
      obtain ⟨p10, e10, hf⟩ := tq_let_elim hf
      refine ty_callSI (tq_b p10) ([.int p7]) ([]) rX7_next_116 l_X7_145 moX7_isDigit msX7_isDigit rfl rfl (Nat.le_of_ble_eq_true rfl) ⟨rfl, rfl⟩ (CX7_isDigit  e10) ?_
      refine tq_if_eq rX7_next_119 (fun c11 => ?_) (fun c11 => ?_)
      · rw [if_pos c11] at hf
        refine tq_aload_n rX7_next_127 rfl ?_
        refine tq_dup rX7_next_128 rfl ?_
        refine ty_getI rX7_next_129 f_X7_55 rfl h0 ?_
        refine tq_iconst (1 : Int32) rX7_next_132 (by decide) ?_
        refine tq_iadd rX7_next_133 ?_
        refine ty_putI rX7_next_134 f_X7_55 rfl h0 rfl ?_
        refine tq_iload_n rX7_next_137 rfl ?_
        refine tq_bipush (59 : Int32) rX7_next_138 (by decide) ?_
        refine tq_icmp_ne rX7_next_140 (fun c12 => ?_) (fun c12 => ?_)
        · rw [if_neg c12] at hf
          refine tq_iconst (4 : Int32) rX7_next_147 (by decide) ?_
          refine ty_iret rX7_next_148 rfl rfl ?_
          have hf := Option.some.inj hf
          subst hf
          exact ⟨rfl, rfl, rfl⟩
        · rw [if_pos c12] at hf
          refine tq_iconst (3 : Int32) rX7_next_143 (by decide) ?_
          refine tq_goto rX7_next_144 ?_
          refine ty_iret rX7_next_148 rfl rfl ?_
          have hf := Option.some.inj hf
          subst hf
          exact ⟨rfl, rfl, rfl⟩
      · rw [if_neg c11] at hf
        refine tq_aload_n rX7_next_122 rfl ?_
        obtain ⟨p13, e13, hf⟩ := Option.bind_eq_some_iff.mp hf
        refine ty_callVI p13.1 ([]) ([]) rX7_next_123 l_X7_148 moX7_nextNumber mvX7_nextNumber h0 rfl rfl (Nat.le_of_ble_eq_true rfl) ⟨rfl, rfl⟩ (CX7_nextNumber h0 e13) ?_
        refine ty_iret rX7_next_126 rfl rfl ?_
        have hf := Option.some.inj hf
        subst hf
        exact ⟨rfl, rfl, rfl⟩
    · rw [if_neg c9] at hf
      obtain ⟨p18, e18, hf⟩ := Option.bind_eq_some_iff.mp hf
      refine tq_forget _ (tq_le_s (tq_le_u tq_le_n)) ?_
      refine tq_it_elim (P := fun p : tq_PI => tq_X S mX7_next (d + 2) tq_k0 75 ([.ref a0, tq_u]) [] (tq_st p L) (tq_Q (tq_one2 (some (.int out.1)) out.2 L))) (R := fun p : tq_PI => tq_X S mX7_next (d + 2) tq_k0 113 ([tq_u, tq_u]) [] (tq_st p L) (tq_Q (tq_one2 (some (.int out.1)) out.2 L))) (fun p o hp hk => FX7_next_s75_x  h0 hp hk) _ ((tq_up2 p5 a0 9 (p5 a0 8))) _ e18 ?_
      show tq_X _ _ _ _ _ _ _ _ _
      refine tq_iconst (1 : Int32) rX7_next_113 (by decide) ?_
      refine ty_iret rX7_next_114 rfl rfl ?_
      have hf := Option.some.inj hf
      subst hf
      exact ⟨rfl, rfl, rfl⟩
  · rw [if_neg c6] at hf
    refine tq_iconst (0 : Int32) rX7_next_57 (by decide) ?_
    refine ty_iret rX7_next_58 rfl rfl ?_
    have hf := Option.some.inj hf
    subst hf
    exact ⟨rfl, rfl, rfl⟩

abbrev mJ0_coder_7d493 : tq_M := (yJ0_coder_7d493, cJ0_coder_7d493, 1, (Option.some Jvm.ClassFile.FieldType.byte), 0, 0)
theorem fs_J0_15 : Cond.fieldLink RJ0 15 "java/lang/String" "coder" "B" ∈ lw_tbl := tq_sg8 _ (List.mem_of_getElem? (i := 205) rfl)
theorem fs_J0_38 : Cond.fieldLink RJ0 38 "java/lang/String" "COMPACT_STRINGS" "Z" ∈ lw_tbl := tq_sg3 _ (List.mem_of_getElem? (i := 4) rfl)
theorem rJ0_coder_7d493_0 : tq_D cJ0_coder_7d493 0 (.getstatic 38) 3 3 := ⟨by decide +kernel, rfl⟩
theorem rJ0_coder_7d493_3 : tq_J cJ0_coder_7d493 3 (.ifCond .eq) 13 6 := ⟨10, by decide +kernel, by decide, rfl⟩
theorem rJ0_coder_7d493_6 : tq_D cJ0_coder_7d493 6 (.aload_n 0) 1 7 := ⟨by decide +kernel, rfl⟩
theorem rJ0_coder_7d493_7 : tq_D cJ0_coder_7d493 7 (.getfield 15) 3 10 := ⟨by decide +kernel, rfl⟩
theorem rJ0_coder_7d493_10 : tq_J cJ0_coder_7d493 10 .goto 14 13 := ⟨4, by decide +kernel, by decide, rfl⟩
theorem rJ0_coder_7d493_13 : tq_D cJ0_coder_7d493 13 (.iconst 1) 1 14 := ⟨by decide +kernel, rfl⟩
theorem rJ0_coder_7d493_14 : decode cJ0_coder_7d493 14 = .ok (.ireturn, 1) := by decide +kernel
noncomputable def FJ0_coder_7d493 (I : tq_PI) (L : tq_PL) (a0 : Nat) : Int32 :=
  (if (1 : Int32) = 0 then (1 : Int32) else (0 : Int32))
set_option maxRecDepth 100000 in
set_option maxHeartbeats 4000000 in
theorem CJ0_coder_7d493 {S : Nat × (Nat → Int32)} {d : Nat} {I : tq_PI} {L : tq_PL} {a0 : Nat} (h0 : a0 < 11) {out : Int32} (hf : FJ0_coder_7d493 I L a0 = out) : tq_K S mJ0_coder_7d493 d [.retAddr (a0 + 1)] I L (tq_one2 (some (.int out)) I L) := by
  unfold FJ0_coder_7d493 at hf
  refine tq_K_of (by decide) (Nat.le_of_ble_eq_true rfl) (ls := [.retAddr (a0 + 1)]) rfl ?_
  refine tq_getCS rJ0_coder_7d493_0 (fs_J0_38) ?_
  refine tq_if_eq rJ0_coder_7d493_3 (fun c1 => ?_) (fun c1 => ?_)
  · rw [if_pos c1] at hf
    refine tq_iconst (1 : Int32) rJ0_coder_7d493_13 (by decide) ?_
    refine ty_zret (ty := .byte) rJ0_coder_7d493_14 rfl (by decide) rfl ?_
    subst hf
    exact ⟨rfl, rfl, rfl⟩
  · rw [if_neg c1] at hf
    refine tq_aloadF_n rJ0_coder_7d493_6 rfl ?_
    refine tq_getStrC (i := a0) rJ0_coder_7d493_7 h0 (fs_J0_15) ?_
    refine tq_goto rJ0_coder_7d493_10 ?_
    refine ty_zret (ty := .byte) rJ0_coder_7d493_14 rfl (by decide) rfl ?_
    subst hf
    exact ⟨rfl, rfl, rfl⟩

abbrev mJ0_length_8abf5 : tq_M := (yJ0_length_8abf5, cJ0_length_8abf5, 1, (Option.some Jvm.ClassFile.FieldType.int), 0, 0)
theorem moJ0_coder_7d493 : tq_mok mJ0_coder_7d493 0 := ⟨tq_sg1 _ (List.mem_of_getElem? (i := 16) rfl), tq_sg3 _ (List.mem_of_getElem? (i := 3) rfl), ⟨by decide, by decide, by decide +kernel⟩, by decide⟩
theorem mvJ0_coder_7d493 : "java/lang/String" = mJ0_coder_7d493.1.cls ∧ Cond.instanceMethod mJ0_coder_7d493.1 ∈ lw_tbl ∧ Cond.selects mJ0_coder_7d493.1.cls mJ0_coder_7d493.1 mJ0_coder_7d493.1 ∈ lw_tbl := ⟨rfl, tq_sg3 _ (List.mem_of_getElem? (i := 1) rfl), tq_sg3 _ (List.mem_of_getElem? (i := 2) rfl)⟩
theorem fs_J0_9 : Cond.fieldLink RJ0 9 "java/lang/String" "value" "[B" ∈ lw_tbl := tq_sg8 _ (List.mem_of_getElem? (i := 204) rfl)
theorem l_J0_335 : Cond.methodLink RJ0 335 mJ0_coder_7d493.1 ∈ lw_tbl := tq_sg3 _ (List.mem_of_getElem? (i := 0) rfl)
theorem rJ0_length_8abf5_0 : tq_D cJ0_length_8abf5 0 (.aload_n 0) 1 1 := ⟨by decide +kernel, rfl⟩
theorem rJ0_length_8abf5_1 : tq_D cJ0_length_8abf5 1 (.getfield 9) 3 4 := ⟨by decide +kernel, rfl⟩
theorem rJ0_length_8abf5_4 : tq_D cJ0_length_8abf5 4 (.arraylength) 1 5 := ⟨by decide +kernel, rfl⟩
theorem rJ0_length_8abf5_5 : tq_D cJ0_length_8abf5 5 (.aload_n 0) 1 6 := ⟨by decide +kernel, rfl⟩
theorem rJ0_length_8abf5_6 : tq_D cJ0_length_8abf5 6 (.invokevirtual 335) 3 9 := ⟨by decide +kernel, rfl⟩
theorem rJ0_length_8abf5_9 : tq_D cJ0_length_8abf5 9 (.ishr) 1 10 := ⟨by decide +kernel, rfl⟩
theorem rJ0_length_8abf5_10 : decode cJ0_length_8abf5 10 = .ok (.ireturn, 1) := by decide +kernel
noncomputable def FJ0_length_8abf5 (I : tq_PI) (L : tq_PL) (a0 : Nat) : Int32 :=
  (tq_let (FJ0_coder_7d493 I L a0) fun p1 => ((nI (tq_lJ.getD a0 0)) >>> (p1 &&& 31)))
set_option maxRecDepth 100000 in
set_option maxHeartbeats 4000000 in
theorem CJ0_length_8abf5 {S : Nat × (Nat → Int32)} {d : Nat} {I : tq_PI} {L : tq_PL} {a0 : Nat} (h0 : a0 < 11) {out : Int32} (hf : FJ0_length_8abf5 I L a0 = out) : tq_K S mJ0_length_8abf5 (d + 1) [.retAddr (a0 + 1)] I L (tq_one2 (some (.int out)) I L) := by
  unfold FJ0_length_8abf5 at hf
  refine tq_K_of (by decide) (Nat.le_of_ble_eq_true rfl) (ls := [.retAddr (a0 + 1)]) rfl ?_
  refine tq_aloadF_n rJ0_length_8abf5_0 rfl ?_
  refine tq_getStrV (i := a0) rJ0_length_8abf5_1 h0 (fs_J0_9) ?_
  refine tq_lenStr (i := a0) rJ0_length_8abf5_4 h0 ?_
  refine tq_aloadF_n rJ0_length_8abf5_5 rfl ?_
  obtain ⟨p1, e1, hf⟩ := tq_let_elim hf
  refine ty_callTI (j := a0) p1 ([]) ([.int (nI (tq_lJ.getD a0 0))]) rJ0_length_8abf5_6 l_J0_335 moJ0_coder_7d493 mvJ0_coder_7d493 h0 rfl rfl (Nat.le_of_ble_eq_true rfl) ⟨rfl, rfl⟩ (CJ0_coder_7d493 h0 e1) ?_
  refine tq_ishr rJ0_length_8abf5_9 ?_
  refine ty_iret rJ0_length_8abf5_10 rfl rfl ?_
  subst hf
  exact ⟨rfl, rfl, rfl⟩

abbrev mJ0_isLatin1_aae02 : tq_M := (yJ0_isLatin1_aae02, cJ0_isLatin1_aae02, 1, (Option.some Jvm.ClassFile.FieldType.boolean), 0, 0)
theorem rJ0_isLatin1_aae02_0 : tq_D cJ0_isLatin1_aae02 0 (.getstatic 38) 3 3 := ⟨by decide +kernel, rfl⟩
theorem rJ0_isLatin1_aae02_3 : tq_J cJ0_isLatin1_aae02 3 (.ifCond .eq) 17 6 := ⟨14, by decide +kernel, by decide, rfl⟩
theorem rJ0_isLatin1_aae02_6 : tq_D cJ0_isLatin1_aae02 6 (.aload_n 0) 1 7 := ⟨by decide +kernel, rfl⟩
theorem rJ0_isLatin1_aae02_7 : tq_D cJ0_isLatin1_aae02 7 (.getfield 15) 3 10 := ⟨by decide +kernel, rfl⟩
theorem rJ0_isLatin1_aae02_10 : tq_J cJ0_isLatin1_aae02 10 (.ifCond .ne) 17 13 := ⟨7, by decide +kernel, by decide, rfl⟩
theorem rJ0_isLatin1_aae02_13 : tq_D cJ0_isLatin1_aae02 13 (.iconst 1) 1 14 := ⟨by decide +kernel, rfl⟩
theorem rJ0_isLatin1_aae02_14 : tq_J cJ0_isLatin1_aae02 14 .goto 18 17 := ⟨4, by decide +kernel, by decide, rfl⟩
theorem rJ0_isLatin1_aae02_17 : tq_D cJ0_isLatin1_aae02 17 (.iconst 0) 1 18 := ⟨by decide +kernel, rfl⟩
theorem rJ0_isLatin1_aae02_18 : decode cJ0_isLatin1_aae02 18 = .ok (.ireturn, 1) := by decide +kernel
noncomputable def FJ0_isLatin1_aae02_j17 (I : tq_PI) (L : tq_PL)  : Bool :=
  false
noncomputable def FJ0_isLatin1_aae02 (I : tq_PI) (L : tq_PL) (a0 : Nat) : Bool :=
  (if (1 : Int32) = 0 then (FJ0_isLatin1_aae02_j17 I L ) else (if (0 : Int32) = 0 then true else (FJ0_isLatin1_aae02_j17 I L )))
set_option maxRecDepth 100000 in
set_option maxHeartbeats 4000000 in
theorem FJ0_isLatin1_aae02_j17_x {S : Nat × (Nat → Int32)} {d : Nat} {I : tq_PI} {L : tq_PL}   {q0 : Option Value → tq_PI → tq_PL → Prop} {out : Bool} (hf : FJ0_isLatin1_aae02_j17 I L = out) (hk : q0 (some (.int (tq_b out))) I L) : tq_X S mJ0_isLatin1_aae02 d tq_k0 17 ([tq_u]) ([]) (tq_st I L) (tq_Q q0) := by
  unfold FJ0_isLatin1_aae02_j17 at hf
  refine tq_iconst (0 : Int32) rJ0_isLatin1_aae02_17 (by decide) ?_
  refine ty_zret (ty := .boolean) rJ0_isLatin1_aae02_18 rfl rfl rfl ?_
  subst hf
  exact hk

set_option maxRecDepth 100000 in
set_option maxHeartbeats 4000000 in
theorem CJ0_isLatin1_aae02 {S : Nat × (Nat → Int32)} {d : Nat} {I : tq_PI} {L : tq_PL} {a0 : Nat} (h0 : a0 < 11) {out : Bool} (hf : FJ0_isLatin1_aae02 I L a0 = out) : tq_K S mJ0_isLatin1_aae02 d [.retAddr (a0 + 1)] I L (tq_one2 (some (.int (tq_b out))) I L) := by
  unfold FJ0_isLatin1_aae02 at hf
  refine tq_K_of (by decide) (Nat.le_of_ble_eq_true rfl) (ls := [.retAddr (a0 + 1)]) rfl ?_
  refine tq_getCS rJ0_isLatin1_aae02_0 (fs_J0_38) ?_
  refine tq_if_eq rJ0_isLatin1_aae02_3 (fun c1 => ?_) (fun c1 => ?_)
  · rw [if_pos c1] at hf
    exact tq_forget _ (tq_le_u tq_le_n) (FJ0_isLatin1_aae02_j17_x   hf ⟨rfl, rfl, rfl⟩)
  · rw [if_neg c1] at hf
    refine tq_aloadF_n rJ0_isLatin1_aae02_6 rfl ?_
    refine tq_getStrC (i := a0) rJ0_isLatin1_aae02_7 h0 (fs_J0_15) ?_
    refine tq_if_ne rJ0_isLatin1_aae02_10 (fun c2 => ?_) (fun c2 => ?_)
    · rw [if_neg c2] at hf
      exact tq_forget _ (tq_le_u tq_le_n) (FJ0_isLatin1_aae02_j17_x   hf ⟨rfl, rfl, rfl⟩)
    · rw [if_pos c2] at hf
      refine tq_iconst (1 : Int32) rJ0_isLatin1_aae02_13 (by decide) ?_
      refine tq_goto rJ0_isLatin1_aae02_14 ?_
      refine ty_zret (ty := .boolean) rJ0_isLatin1_aae02_18 rfl rfl rfl ?_
      subst hf
      exact ⟨rfl, rfl, rfl⟩

abbrev mJ3_checkIndex_8e157 : tq_M := (yJ3_checkIndex_8e157, cJ3_checkIndex_8e157, 3, (Option.some Jvm.ClassFile.FieldType.int), 0, 0)
theorem rJ3_checkIndex_8e157_0 : tq_D cJ3_checkIndex_8e157 0 (.iload_n 0) 1 1 := ⟨by decide +kernel, rfl⟩
theorem rJ3_checkIndex_8e157_1 : tq_J cJ3_checkIndex_8e157 1 (.ifCond .lt) 9 4 := ⟨8, by decide +kernel, by decide, rfl⟩
theorem rJ3_checkIndex_8e157_4 : tq_D cJ3_checkIndex_8e157 4 (.iload_n 0) 1 5 := ⟨by decide +kernel, rfl⟩
theorem rJ3_checkIndex_8e157_5 : tq_D cJ3_checkIndex_8e157 5 (.iload_n 1) 1 6 := ⟨by decide +kernel, rfl⟩
theorem rJ3_checkIndex_8e157_6 : tq_J cJ3_checkIndex_8e157 6 (.if_icmp .lt) 16 9 := ⟨10, by decide +kernel, by decide, rfl⟩
theorem rJ3_checkIndex_8e157_9 : tq_D cJ3_checkIndex_8e157 9 (.aload_n 2) 1 10 := ⟨by decide +kernel, rfl⟩
theorem rJ3_checkIndex_8e157_10 : tq_D cJ3_checkIndex_8e157 10 (.iload_n 0) 1 11 := ⟨by decide +kernel, rfl⟩
theorem rJ3_checkIndex_8e157_11 : tq_D cJ3_checkIndex_8e157 11 (.iload_n 1) 1 12 := ⟨by decide +kernel, rfl⟩
theorem rJ3_checkIndex_8e157_16 : tq_D cJ3_checkIndex_8e157 16 (.iload_n 0) 1 17 := ⟨by decide +kernel, rfl⟩
theorem rJ3_checkIndex_8e157_17 : decode cJ3_checkIndex_8e157 17 = .ok (.ireturn, 1) := by decide +kernel
noncomputable def FJ3_checkIndex_8e157_j9 (I : tq_PI) (L : tq_PL) (a0 : Int32) (a1 : Int32) : Option (Int32) :=
  none
noncomputable def FJ3_checkIndex_8e157 (I : tq_PI) (L : tq_PL) (a0 : Int32) (a1 : Int32) : Option (Int32) :=
  (if a0 < 0 then (FJ3_checkIndex_8e157_j9 I L a0 a1) else (if a0 < a1 then some a0 else (FJ3_checkIndex_8e157_j9 I L a0 a1)))
set_option maxRecDepth 100000 in
set_option maxHeartbeats 4000000 in
theorem FJ3_checkIndex_8e157_j9_x_n {S : Nat × (Nat → Int32)} {d : Nat} {I : tq_PI} {L : tq_PL} {a0 : Int32} {a1 : Int32}  {q0 : Option Value → tq_PI → tq_PL → Prop} {out : Int32} (hf : FJ3_checkIndex_8e157_j9 I L a0 a1 = some out) (hk : q0 (some (.int out)) I L) : tq_X S mJ3_checkIndex_8e157 d tq_k0 9 ([.int a0, .int a1, .null]) ([]) (tq_st I L) (tq_Q q0) := by
  unfold FJ3_checkIndex_8e157_j9 at hf
  refine tq_aloadN_n rJ3_checkIndex_8e157_9 rfl ?_
  refine tq_iload_n rJ3_checkIndex_8e157_10 rfl ?_
  refine tq_iload_n rJ3_checkIndex_8e157_11 rfl ?_
  cases hf

set_option maxRecDepth 100000 in
set_option maxHeartbeats 4000000 in
theorem CJ3_checkIndex_8e157_n {S : Nat × (Nat → Int32)} {d : Nat} {I : tq_PI} {L : tq_PL} {a0 : Int32} {a1 : Int32}  {out : Int32} (hf : FJ3_checkIndex_8e157 I L a0 a1 = some out) : tq_K S mJ3_checkIndex_8e157 d [.int a0, .int a1, .null] I L (tq_one2 (some (.int out)) I L) := by
  unfold FJ3_checkIndex_8e157 at hf
  refine tq_K_of (by decide) (Nat.le_of_ble_eq_true rfl) (ls := [.int a0, .int a1, .null]) rfl ?_
  refine tq_iload_n rJ3_checkIndex_8e157_0 rfl ?_
  refine tq_if_lt rJ3_checkIndex_8e157_1 (fun c1 => ?_) (fun c1 => ?_)
  · rw [if_pos c1] at hf
    exact tq_forget _ (tq_le_s (tq_le_s (tq_le_s tq_le_n))) (FJ3_checkIndex_8e157_j9_x_n   hf ⟨rfl, rfl, rfl⟩)
  · rw [if_neg c1] at hf
    refine tq_iload_n rJ3_checkIndex_8e157_4 rfl ?_
    refine tq_iload_n rJ3_checkIndex_8e157_5 rfl ?_
    refine tq_icmp_lt rJ3_checkIndex_8e157_6 (fun c2 => ?_) (fun c2 => ?_)
    · rw [if_pos c2] at hf
      refine tq_iload_n rJ3_checkIndex_8e157_16 rfl ?_
      refine ty_iret rJ3_checkIndex_8e157_17 rfl rfl ?_
      have hf := Option.some.inj hf
      subst hf
      exact ⟨rfl, rfl, rfl⟩
    · rw [if_neg c2] at hf
      exact tq_forget _ (tq_le_s (tq_le_s (tq_le_s tq_le_n))) (FJ3_checkIndex_8e157_j9_x_n   hf ⟨rfl, rfl, rfl⟩)

set_option maxRecDepth 100000 in
set_option maxHeartbeats 4000000 in
theorem FJ3_checkIndex_8e157_j9_x_r {S : Nat × (Nat → Int32)} {d : Nat} {I : tq_PI} {L : tq_PL} {a0 : Int32} {a1 : Int32}  {q0 : Option Value → tq_PI → tq_PL → Prop} {out : Int32} (hf : FJ3_checkIndex_8e157_j9 I L a0 a1 = some out) (hk : q0 (some (.int out)) I L) : tq_X S mJ3_checkIndex_8e157 d tq_k0 9 ([.int a0, .int a1, .retAddr 900]) ([]) (tq_st I L) (tq_Q q0) := by
  unfold FJ3_checkIndex_8e157_j9 at hf
  refine tq_aloadF_n rJ3_checkIndex_8e157_9 rfl ?_
  refine tq_iload_n rJ3_checkIndex_8e157_10 rfl ?_
  refine tq_iload_n rJ3_checkIndex_8e157_11 rfl ?_
  cases hf

set_option maxRecDepth 100000 in
set_option maxHeartbeats 4000000 in
theorem CJ3_checkIndex_8e157_r {S : Nat × (Nat → Int32)} {d : Nat} {I : tq_PI} {L : tq_PL} {a0 : Int32} {a1 : Int32}  {out : Int32} (hf : FJ3_checkIndex_8e157 I L a0 a1 = some out) : tq_K S mJ3_checkIndex_8e157 d [.int a0, .int a1, .retAddr 900] I L (tq_one2 (some (.int out)) I L) := by
  unfold FJ3_checkIndex_8e157 at hf
  refine tq_K_of (by decide) (Nat.le_of_ble_eq_true rfl) (ls := [.int a0, .int a1, .retAddr 900]) rfl ?_
  refine tq_iload_n rJ3_checkIndex_8e157_0 rfl ?_
  refine tq_if_lt rJ3_checkIndex_8e157_1 (fun c1 => ?_) (fun c1 => ?_)
  · rw [if_pos c1] at hf
    exact tq_forget _ (tq_le_s (tq_le_s (tq_le_s tq_le_n))) (FJ3_checkIndex_8e157_j9_x_r   hf ⟨rfl, rfl, rfl⟩)
  · rw [if_neg c1] at hf
    refine tq_iload_n rJ3_checkIndex_8e157_4 rfl ?_
    refine tq_iload_n rJ3_checkIndex_8e157_5 rfl ?_
    refine tq_icmp_lt rJ3_checkIndex_8e157_6 (fun c2 => ?_) (fun c2 => ?_)
    · rw [if_pos c2] at hf
      refine tq_iload_n rJ3_checkIndex_8e157_16 rfl ?_
      refine ty_iret rJ3_checkIndex_8e157_17 rfl rfl ?_
      have hf := Option.some.inj hf
      subst hf
      exact ⟨rfl, rfl, rfl⟩
    · rw [if_neg c2] at hf
      exact tq_forget _ (tq_le_s (tq_le_s (tq_le_s tq_le_n))) (FJ3_checkIndex_8e157_j9_x_r   hf ⟨rfl, rfl, rfl⟩)

abbrev mJ0_checkIndex_df160 : tq_M := (yJ0_checkIndex_df160, cJ0_checkIndex_df160, 2, (Option.none : Option Jvm.ClassFile.FieldType), 0, 0)
theorem moJ3_checkIndex_8e157 : tq_mok mJ3_checkIndex_8e157 3 := ⟨tq_sg1 _ (List.mem_of_getElem? (i := 18) rfl), tq_sg3 _ (List.mem_of_getElem? (i := 24) rfl), ⟨by decide, by decide, by decide +kernel⟩, by decide⟩
theorem msJ3_checkIndex_8e157 : Cond.static mJ3_checkIndex_8e157.1 ∈ lw_tbl := tq_sg3 _ (List.mem_of_getElem? (i := 23) rfl)
theorem fs_J0_1053 : Cond.fieldLink RJ0 1053 "jdk/internal/util/Preconditions" "SIOOBE_FORMATTER" "Ljava/util/function/BiFunction;" ∈ lw_tbl := tq_sg3 _ (List.mem_of_getElem? (i := 20) rfl)
theorem l_J0_1059 : tq_lok RJ0 1059 mJ3_checkIndex_8e157.1 := Or.inl (tq_sg3 _ (List.mem_of_getElem? (i := 22) rfl))
theorem rJ0_checkIndex_df160_0 : tq_D cJ0_checkIndex_df160 0 (.iload_n 0) 1 1 := ⟨by decide +kernel, rfl⟩
theorem rJ0_checkIndex_df160_1 : tq_D cJ0_checkIndex_df160 1 (.iload_n 1) 1 2 := ⟨by decide +kernel, rfl⟩
theorem rJ0_checkIndex_df160_2 : tq_D cJ0_checkIndex_df160 2 (.getstatic 1053) 3 5 := ⟨by decide +kernel, rfl⟩
theorem rJ0_checkIndex_df160_5 : tq_D cJ0_checkIndex_df160 5 (.invokestatic 1059) 3 8 := ⟨by decide +kernel, rfl⟩
theorem rJ0_checkIndex_df160_8 : tq_D cJ0_checkIndex_df160 8 (.pop) 1 9 := ⟨by decide +kernel, rfl⟩
theorem rJ0_checkIndex_df160_9 : decode cJ0_checkIndex_df160 9 = .ok (.return_, 1) := by decide +kernel
noncomputable def FJ0_checkIndex_df160 (I : tq_PI) (L : tq_PL) (a0 : Int32) (a1 : Int32) : Option (Unit) :=
  ((FJ3_checkIndex_8e157 I L a0 a1).bind fun p1 => some ())
set_option maxRecDepth 100000 in
set_option maxHeartbeats 4000000 in
theorem CJ0_checkIndex_df160 {S : Nat × (Nat → Int32)} {d : Nat} {I : tq_PI} {L : tq_PL} {a0 : Int32} {a1 : Int32}  {out : Unit} (hf : FJ0_checkIndex_df160 I L a0 a1 = some out) : tq_K S mJ0_checkIndex_df160 (d + 1) [.int a0, .int a1] I L (tq_one2 (none) I L) := by
  unfold FJ0_checkIndex_df160 at hf
  refine tq_K_of (by decide) (Nat.le_of_ble_eq_true rfl) (ls := [.int a0, .int a1]) rfl ?_
  refine tq_iload_n rJ0_checkIndex_df160_0 rfl ?_
  refine tq_iload_n rJ0_checkIndex_df160_1 rfl ?_
  refine tq_getFm rJ0_checkIndex_df160_2 (fs_J0_1053) ?_ ?_
  · obtain ⟨p1, e1, hf⟩ := Option.bind_eq_some_iff.mp hf
    refine ty_callSI p1 ([.int a0, .int a1, .null]) ([]) rJ0_checkIndex_df160_5 l_J0_1059 moJ3_checkIndex_8e157 msJ3_checkIndex_8e157 rfl rfl (Nat.le_of_ble_eq_true rfl) ⟨rfl, rfl⟩ (CJ3_checkIndex_8e157_n  e1) ?_
    refine tq_pop rJ0_checkIndex_df160_8 rfl ?_
    refine ty_vret rJ0_checkIndex_df160_9 rfl rfl ?_
    have hf := Option.some.inj hf
    subst hf
    exact ⟨rfl, rfl, rfl⟩
  · obtain ⟨p2, e2, hf⟩ := Option.bind_eq_some_iff.mp hf
    refine ty_callSI p2 ([.int a0, .int a1, .retAddr 900]) ([]) rJ0_checkIndex_df160_5 l_J0_1059 moJ3_checkIndex_8e157 msJ3_checkIndex_8e157 rfl rfl (Nat.le_of_ble_eq_true rfl) ⟨rfl, rfl⟩ (CJ3_checkIndex_8e157_r  e2) ?_
    refine tq_pop rJ0_checkIndex_df160_8 rfl ?_
    refine ty_vret rJ0_checkIndex_df160_9 rfl rfl ?_
    have hf := Option.some.inj hf
    subst hf
    exact ⟨rfl, rfl, rfl⟩

abbrev mJ1_charAt_3b067 : tq_M := (yJ1_charAt_3b067, cJ1_charAt_3b067, 2, (Option.some Jvm.ClassFile.FieldType.char), 0, 0)
theorem moJ0_checkIndex_df160 : tq_mok mJ0_checkIndex_df160 2 := ⟨tq_sg1 _ (List.mem_of_getElem? (i := 16) rfl), tq_sg3 _ (List.mem_of_getElem? (i := 19) rfl), ⟨by decide, by decide, by decide +kernel⟩, by decide⟩
theorem msJ0_checkIndex_df160 : Cond.static mJ0_checkIndex_df160.1 ∈ lw_tbl := tq_sg3 _ (List.mem_of_getElem? (i := 18) rfl)
theorem l_J1_9 : tq_lok RJ1 9 mJ0_checkIndex_df160.1 := Or.inl (tq_sg3 _ (List.mem_of_getElem? (i := 17) rfl))
theorem rJ1_charAt_3b067_0 : tq_D cJ1_charAt_3b067 0 (.iload_n 1) 1 1 := ⟨by decide +kernel, rfl⟩
theorem rJ1_charAt_3b067_1 : tq_D cJ1_charAt_3b067 1 (.aload_n 0) 1 2 := ⟨by decide +kernel, rfl⟩
theorem rJ1_charAt_3b067_2 : tq_D cJ1_charAt_3b067 2 (.arraylength) 1 3 := ⟨by decide +kernel, rfl⟩
theorem rJ1_charAt_3b067_3 : tq_D cJ1_charAt_3b067 3 (.invokestatic 9) 3 6 := ⟨by decide +kernel, rfl⟩
theorem rJ1_charAt_3b067_6 : tq_D cJ1_charAt_3b067 6 (.aload_n 0) 1 7 := ⟨by decide +kernel, rfl⟩
theorem rJ1_charAt_3b067_7 : tq_D cJ1_charAt_3b067 7 (.iload_n 1) 1 8 := ⟨by decide +kernel, rfl⟩
theorem rJ1_charAt_3b067_8 : tq_D cJ1_charAt_3b067 8 (.baload) 1 9 := ⟨by decide +kernel, rfl⟩
theorem rJ1_charAt_3b067_9 : tq_D cJ1_charAt_3b067 9 (.sipush 255) 3 12 := ⟨by decide +kernel, rfl⟩
theorem rJ1_charAt_3b067_12 : tq_D cJ1_charAt_3b067 12 (.iand) 1 13 := ⟨by decide +kernel, rfl⟩
theorem rJ1_charAt_3b067_13 : tq_D cJ1_charAt_3b067 13 (.i2c) 1 14 := ⟨by decide +kernel, rfl⟩
theorem rJ1_charAt_3b067_14 : decode cJ1_charAt_3b067 14 = .ok (.ireturn, 1) := by decide +kernel
noncomputable def FJ1_charAt_3b067 (I : tq_PI) (L : tq_PL) (a0 : Nat) (a1 : Int32) : Option (Int32) :=
  ((FJ0_checkIndex_df160 I L a1 ((nI (tq_lJ.getD a0 0)))).bind fun p1 => (if 0 ≤ a1 ∧ a1 < nI (tq_lJ.getD a0 0) then some ((Int32.toUInt32 (((tq_bJ.getD a0 []).getD a1.toNatClampNeg 0) &&& (255 : Int32)) % 65536).toInt32) else none))
set_option maxRecDepth 100000 in
set_option maxHeartbeats 4000000 in
theorem CJ1_charAt_3b067 {S : Nat × (Nat → Int32)} {d : Nat} {I : tq_PI} {L : tq_PL} {a0 : Nat} {a1 : Int32} (h0 : a0 < 11) {out : Int32} (hf : FJ1_charAt_3b067 I L a0 a1 = some out) : tq_K S mJ1_charAt_3b067 (d + 2) [.retAddr (a0 + 101), .int a1] I L (tq_one2 (some (.int out)) I L) := by
  unfold FJ1_charAt_3b067 at hf
  refine tq_K_of (by decide) (Nat.le_of_ble_eq_true rfl) (ls := [.retAddr (a0 + 101), .int a1]) rfl ?_
  refine tq_iload_n rJ1_charAt_3b067_0 rfl ?_
  refine tq_aloadF_n rJ1_charAt_3b067_1 rfl ?_
  refine tq_lenStr (i := a0) rJ1_charAt_3b067_2 h0 ?_
  obtain ⟨p1, e1, hf⟩ := Option.bind_eq_some_iff.mp hf
  refine ty_callSV ([.int a1, .int (nI (tq_lJ.getD a0 0))]) ([]) rJ1_charAt_3b067_3 l_J1_9 moJ0_checkIndex_df160 msJ0_checkIndex_df160 rfl rfl (Nat.le_of_ble_eq_true rfl) ⟨rfl, rfl⟩ (CJ0_checkIndex_df160  e1) ?_
  refine tq_aloadF_n rJ1_charAt_3b067_6 rfl ?_
  refine tq_iload_n rJ1_charAt_3b067_7 rfl ?_
  obtain ⟨g2, hf⟩ := tq_chk hf
  refine tq_baldStr (i := a0) rJ1_charAt_3b067_8 h0 (tq_bi rfl (tq_lJlt a0) g2) ?_
  refine tq_sipush (255 : Int32) rJ1_charAt_3b067_9 (by decide) ?_
  refine tq_iand rJ1_charAt_3b067_12 ?_
  refine tq_i2c rJ1_charAt_3b067_13 rfl ?_
  refine ty_zret (ty := .char) rJ1_charAt_3b067_14 rfl (pk_nc _) rfl ?_
  have hf := Option.some.inj hf
  subst hf
  exact ⟨rfl, rfl, rfl⟩

abbrev mJ0_charAt_5068e : tq_M := (yJ0_charAt_5068e, cJ0_charAt_5068e, 2, (Option.some Jvm.ClassFile.FieldType.char), 0, 0)
theorem moJ0_isLatin1_aae02 : tq_mok mJ0_isLatin1_aae02 0 := ⟨tq_sg1 _ (List.mem_of_getElem? (i := 16) rfl), tq_sg3 _ (List.mem_of_getElem? (i := 13) rfl), ⟨by decide, by decide, by decide +kernel⟩, by decide⟩
theorem mvJ0_isLatin1_aae02 : "java/lang/String" = mJ0_isLatin1_aae02.1.cls ∧ Cond.instanceMethod mJ0_isLatin1_aae02.1 ∈ lw_tbl ∧ Cond.selects mJ0_isLatin1_aae02.1.cls mJ0_isLatin1_aae02.1 mJ0_isLatin1_aae02.1 ∈ lw_tbl := ⟨rfl, tq_sg3 _ (List.mem_of_getElem? (i := 11) rfl), tq_sg3 _ (List.mem_of_getElem? (i := 12) rfl)⟩
theorem moJ1_charAt_3b067 : tq_mok mJ1_charAt_3b067 2 := ⟨tq_sg1 _ (List.mem_of_getElem? (i := 17) rfl), tq_sg3 _ (List.mem_of_getElem? (i := 16) rfl), ⟨by decide, by decide, by decide +kernel⟩, by decide⟩
theorem msJ1_charAt_3b067 : Cond.static mJ1_charAt_3b067.1 ∈ lw_tbl := tq_sg3 _ (List.mem_of_getElem? (i := 15) rfl)
theorem l_J0_492 : Cond.methodLink RJ0 492 mJ0_isLatin1_aae02.1 ∈ lw_tbl := tq_sg3 _ (List.mem_of_getElem? (i := 10) rfl)
theorem l_J0_495 : tq_lok RJ0 495 mJ1_charAt_3b067.1 := Or.inl (tq_sg3 _ (List.mem_of_getElem? (i := 14) rfl))
theorem rJ0_charAt_5068e_0 : tq_D cJ0_charAt_5068e 0 (.aload_n 0) 1 1 := ⟨by decide +kernel, rfl⟩
theorem rJ0_charAt_5068e_1 : tq_D cJ0_charAt_5068e 1 (.invokevirtual 492) 3 4 := ⟨by decide +kernel, rfl⟩
theorem rJ0_charAt_5068e_4 : tq_J cJ0_charAt_5068e 4 (.ifCond .eq) 16 7 := ⟨12, by decide +kernel, by decide, rfl⟩
theorem rJ0_charAt_5068e_7 : tq_D cJ0_charAt_5068e 7 (.aload_n 0) 1 8 := ⟨by decide +kernel, rfl⟩
theorem rJ0_charAt_5068e_8 : tq_D cJ0_charAt_5068e 8 (.getfield 9) 3 11 := ⟨by decide +kernel, rfl⟩
theorem rJ0_charAt_5068e_11 : tq_D cJ0_charAt_5068e 11 (.iload_n 1) 1 12 := ⟨by decide +kernel, rfl⟩
theorem rJ0_charAt_5068e_12 : tq_D cJ0_charAt_5068e 12 (.invokestatic 495) 3 15 := ⟨by decide +kernel, rfl⟩
theorem rJ0_charAt_5068e_15 : decode cJ0_charAt_5068e 15 = .ok (.ireturn, 1) := by decide +kernel
theorem rJ0_charAt_5068e_16 : tq_D cJ0_charAt_5068e 16 (.aload_n 0) 1 17 := ⟨by decide +kernel, rfl⟩
theorem rJ0_charAt_5068e_17 : tq_D cJ0_charAt_5068e 17 (.getfield 9) 3 20 := ⟨by decide +kernel, rfl⟩
theorem rJ0_charAt_5068e_20 : tq_D cJ0_charAt_5068e 20 (.iload_n 1) 1 21 := ⟨by decide +kernel, rfl⟩
noncomputable def FJ0_charAt_5068e (I : tq_PI) (L : tq_PL) (a0 : Nat) (a1 : Int32) : Option (Int32) :=
  (tq_let (FJ0_isLatin1_aae02 I L a0) fun p1 => (if (tq_b p1) = 0 then none else ((FJ1_charAt_3b067 I L a0 a1).bind fun p3 => (if narrow .char (.int p3) = .int p3 then some p3 else none))))
set_option maxRecDepth 100000 in
set_option maxHeartbeats 4000000 in
theorem CJ0_charAt_5068e {S : Nat × (Nat → Int32)} {d : Nat} {I : tq_PI} {L : tq_PL} {a0 : Nat} {a1 : Int32} (h0 : a0 < 11) {out : Int32} (hf : FJ0_charAt_5068e I L a0 a1 = some out) : tq_K S mJ0_charAt_5068e (d + 3) [.retAddr (a0 + 1), .int a1] I L (tq_one2 (some (.int out)) I L) := by
  unfold FJ0_charAt_5068e at hf
  refine tq_K_of (by decide) (Nat.le_of_ble_eq_true rfl) (ls := [.retAddr (a0 + 1), .int a1]) rfl ?_
  refine tq_aloadF_n rJ0_charAt_5068e_0 rfl ?_
  obtain ⟨p1, e1, hf⟩ := tq_let_elim hf
  refine ty_callTI (j := a0) (tq_b p1) ([]) ([]) rJ0_charAt_5068e_1 l_J0_492 moJ0_isLatin1_aae02 mvJ0_isLatin1_aae02 h0 rfl rfl (Nat.le_of_ble_eq_true rfl) ⟨rfl, rfl⟩ (CJ0_isLatin1_aae02 h0 e1) ?_
  refine tq_if_eq rJ0_charAt_5068e_4 (fun c2 => ?_) (fun c2 => ?_)
  · rw [if_pos c2] at hf
    refine tq_aloadF_n rJ0_charAt_5068e_16 rfl ?_
    refine tq_getStrV (i := a0) rJ0_charAt_5068e_17 h0 (fs_J0_9) ?_
    refine tq_iload_n rJ0_charAt_5068e_20 rfl ?_
    cases hf
  · rw [if_neg c2] at hf
    refine tq_aloadF_n rJ0_charAt_5068e_7 rfl ?_
    refine tq_getStrV (i := a0) rJ0_charAt_5068e_8 h0 (fs_J0_9) ?_
    refine tq_iload_n rJ0_charAt_5068e_11 rfl ?_
    obtain ⟨p3, e3, hf⟩ := Option.bind_eq_some_iff.mp hf
    refine ty_callSI p3 ([.retAddr (a0 + 101), .int a1]) ([]) rJ0_charAt_5068e_12 l_J0_495 moJ1_charAt_3b067 msJ1_charAt_3b067 rfl rfl (Nat.le_of_ble_eq_true rfl) ⟨rfl, rfl⟩ (CJ1_charAt_3b067 h0 e3) ?_
    obtain ⟨g4, hf⟩ := tq_chk hf
    refine ty_zret (ty := .char) rJ0_charAt_5068e_15 rfl g4 rfl ?_
    have hf := Option.some.inj hf
    subst hf
    exact ⟨rfl, rfl, rfl⟩

abbrev mX7_isWord : tq_M := (yX7_isWord, cX7_isWord, 3, (Option.some Jvm.ClassFile.FieldType.boolean), 0, 0)
theorem moJ0_charAt_5068e : tq_mok mJ0_charAt_5068e 1 := ⟨tq_sg1 _ (List.mem_of_getElem? (i := 16) rfl), tq_sg3 _ (List.mem_of_getElem? (i := 9) rfl), ⟨by decide, by decide, by decide +kernel⟩, by decide⟩
theorem mvJ0_charAt_5068e : "java/lang/String" = mJ0_charAt_5068e.1.cls ∧ Cond.instanceMethod mJ0_charAt_5068e.1 ∈ lw_tbl ∧ Cond.selects mJ0_charAt_5068e.1.cls mJ0_charAt_5068e.1 mJ0_charAt_5068e.1 ∈ lw_tbl := ⟨rfl, tq_sg3 _ (List.mem_of_getElem? (i := 7) rfl), tq_sg3 _ (List.mem_of_getElem? (i := 8) rfl)⟩
theorem moJ0_length_8abf5 : tq_mok mJ0_length_8abf5 0 := ⟨tq_sg1 _ (List.mem_of_getElem? (i := 16) rfl), tq_sg2 _ (List.mem_of_getElem? (i := 239) rfl), ⟨by decide, by decide, by decide +kernel⟩, by decide⟩
theorem mvJ0_length_8abf5 : "java/lang/String" = mJ0_length_8abf5.1.cls ∧ Cond.instanceMethod mJ0_length_8abf5.1 ∈ lw_tbl ∧ Cond.selects mJ0_length_8abf5.1.cls mJ0_length_8abf5.1 mJ0_length_8abf5.1 ∈ lw_tbl := ⟨rfl, tq_sg2 _ (List.mem_of_getElem? (i := 237) rfl), tq_sg2 _ (List.mem_of_getElem? (i := 238) rfl)⟩
theorem l_X7_195 : Cond.methodLink RX7 195 mJ0_length_8abf5.1 ∈ lw_tbl := tq_sg2 _ (List.mem_of_getElem? (i := 236) rfl)
theorem l_X7_199 : Cond.methodLink RX7 199 mJ0_charAt_5068e.1 ∈ lw_tbl := tq_sg3 _ (List.mem_of_getElem? (i := 6) rfl)
theorem rX7_isWord_0 : tq_D cX7_isWord 0 (.aload_n 0) 1 1 := ⟨by decide +kernel, rfl⟩
theorem rX7_isWord_1 : tq_D cX7_isWord 1 (.getfield 55) 3 4 := ⟨by decide +kernel, rfl⟩
theorem rX7_isWord_4 : tq_D cX7_isWord 4 (.aload_n 0) 1 5 := ⟨by decide +kernel, rfl⟩
theorem rX7_isWord_5 : tq_D cX7_isWord 5 (.getfield 58) 3 8 := ⟨by decide +kernel, rfl⟩
theorem rX7_isWord_8 : tq_D cX7_isWord 8 (.isub) 1 9 := ⟨by decide +kernel, rfl⟩
theorem rX7_isWord_9 : tq_D cX7_isWord 9 (.aload_n 1) 1 10 := ⟨by decide +kernel, rfl⟩
theorem rX7_isWord_10 : tq_D cX7_isWord 10 (.invokevirtual 195) 3 13 := ⟨by decide +kernel, rfl⟩
theorem rX7_isWord_13 : tq_J cX7_isWord 13 (.if_icmp .eq) 18 16 := ⟨5, by decide +kernel, by decide, rfl⟩
theorem rX7_isWord_16 : tq_D cX7_isWord 16 (.iconst 0) 1 17 := ⟨by decide +kernel, rfl⟩
theorem rX7_isWord_17 : decode cX7_isWord 17 = .ok (.ireturn, 1) := by decide +kernel
theorem rX7_isWord_18 : tq_D cX7_isWord 18 (.iconst 0) 1 19 := ⟨by decide +kernel, rfl⟩
theorem rX7_isWord_19 : tq_D cX7_isWord 19 (.istore_n 2) 1 20 := ⟨by decide +kernel, rfl⟩
theorem rX7_isWord_20 : tq_D cX7_isWord 20 (.iload_n 2) 1 21 := ⟨by decide +kernel, rfl⟩
theorem rX7_isWord_21 : tq_D cX7_isWord 21 (.aload_n 1) 1 22 := ⟨by decide +kernel, rfl⟩
theorem rX7_isWord_22 : tq_D cX7_isWord 22 (.invokevirtual 195) 3 25 := ⟨by decide +kernel, rfl⟩
theorem rX7_isWord_25 : tq_J cX7_isWord 25 (.if_icmp .ge) 54 28 := ⟨29, by decide +kernel, by decide, rfl⟩
theorem rX7_isWord_28 : tq_D cX7_isWord 28 (.aload_n 0) 1 29 := ⟨by decide +kernel, rfl⟩
theorem rX7_isWord_29 : tq_D cX7_isWord 29 (.aload_n 0) 1 30 := ⟨by decide +kernel, rfl⟩
theorem rX7_isWord_30 : tq_D cX7_isWord 30 (.getfield 58) 3 33 := ⟨by decide +kernel, rfl⟩
theorem rX7_isWord_33 : tq_D cX7_isWord 33 (.iload_n 2) 1 34 := ⟨by decide +kernel, rfl⟩
theorem rX7_isWord_34 : tq_D cX7_isWord 34 (.iadd) 1 35 := ⟨by decide +kernel, rfl⟩
theorem rX7_isWord_35 : tq_D cX7_isWord 35 (.invokevirtual 135) 3 38 := ⟨by decide +kernel, rfl⟩
theorem rX7_isWord_38 : tq_D cX7_isWord 38 (.aload_n 1) 1 39 := ⟨by decide +kernel, rfl⟩
theorem rX7_isWord_39 : tq_D cX7_isWord 39 (.iload_n 2) 1 40 := ⟨by decide +kernel, rfl⟩
theorem rX7_isWord_40 : tq_D cX7_isWord 40 (.invokevirtual 199) 3 43 := ⟨by decide +kernel, rfl⟩
theorem rX7_isWord_43 : tq_J cX7_isWord 43 (.if_icmp .eq) 48 46 := ⟨5, by decide +kernel, by decide, rfl⟩
theorem rX7_isWord_46 : tq_D cX7_isWord 46 (.iconst 0) 1 47 := ⟨by decide +kernel, rfl⟩
theorem rX7_isWord_47 : decode cX7_isWord 47 = .ok (.ireturn, 1) := by decide +kernel
theorem rX7_isWord_48 : tq_D cX7_isWord 48 (.iinc 2 1) 3 51 := ⟨by decide +kernel, rfl⟩
theorem rX7_isWord_51 : tq_J cX7_isWord 51 .goto 20 54 := ⟨(-31), by decide +kernel, by decide, rfl⟩
theorem rX7_isWord_54 : tq_D cX7_isWord 54 (.iconst 1) 1 55 := ⟨by decide +kernel, rfl⟩
theorem rX7_isWord_55 : decode cX7_isWord 55 = .ok (.ireturn, 1) := by decide +kernel
noncomputable def FX7_isWord_s20 (I : tq_PI) (L : tq_PL) (a0 : Nat) (a1 : Nat) (a2 : Int32) : Option ((Int32) ⊕ ((Unit) ⊕ (Bool))) :=
  (tq_let (FJ0_length_8abf5 I L a1) fun p3 => (if p3 ≤ a2 then some (.inr (.inl ())) else ((FX7_byteAt I L a0 (((I a0 9) + a2))).bind fun p5 => ((FJ0_charAt_5068e I L a1 a2).bind fun p6 => (if p5 = p6 then some (.inl (a2 + 1)) else some (.inr (.inr false)))))))
noncomputable def FX7_isWord (I : tq_PI) (L : tq_PL) (a0 : Nat) (a1 : Nat) : Option (Bool) :=
  (tq_let (FJ0_length_8abf5 I L a1) fun p1 => (if ((I a0 8) - (I a0 9)) = p1 then ((tq_it (fun p : Int32 => FX7_isWord_s20 I L a0 a1 p) tq_N (0 : Int32)).bind fun p8 => p8.elim (fun t9 => some true) (fun t9 => some t9)) else some false))
set_option maxRecDepth 100000 in
set_option maxHeartbeats 4000000 in
theorem FX7_isWord_s20_x {S : Nat × (Nat → Int32)} {d : Nat} {I : tq_PI} {L : tq_PL} {a0 : Nat} {a1 : Nat} {a2 : Int32} (h0 : tq_sh0 a0 = 7) (h1 : a1 < 11) {q0 : Option Value → tq_PI → tq_PL → Prop} {out : (Int32) ⊕ ((Unit) ⊕ (Bool))} (hf : FX7_isWord_s20 I L a0 a1 a2 = some out) (hk : Sum.elim (fun p : Int32 => tq_X S mX7_isWord (d + 4) tq_k0 20 ([.ref a0, .retAddr (a1 + 1), .int p]) [] (tq_st I L) (tq_Q q0)) (Sum.elim (fun p : Unit => tq_X S mX7_isWord (d + 4) tq_k0 54 ([tq_u, tq_u, tq_u]) [] (tq_st I L) (tq_Q q0)) (fun p : Bool => q0 (some (.int (tq_b p))) I L)) out) : tq_X S mX7_isWord (d + 4) tq_k0 20 ([.ref a0, .retAddr (a1 + 1), .int a2]) [] (tq_st I L) (tq_Q q0) := by
  unfold FX7_isWord_s20 at hf
  refine tq_iload_n rX7_isWord_20 rfl ?_
  refine tq_aloadF_n rX7_isWord_21 rfl ?_
  obtain ⟨p3, e3, hf⟩ := tq_let_elim hf
  refine ty_callTI (j := a1) p3 ([]) ([.int a2]) rX7_isWord_22 l_X7_195 moJ0_length_8abf5 mvJ0_length_8abf5 h1 rfl rfl (Nat.le_of_ble_eq_true rfl) ⟨rfl, rfl⟩ (CJ0_length_8abf5 h1 e3) ?_
  refine tq_icmp_ge rX7_isWord_25 (fun c4 => ?_) (fun c4 => ?_)
  · rw [if_pos c4] at hf
    have hf := Option.some.inj hf
    subst hf
    exact tq_forget _ (tq_le_u (tq_le_u (tq_le_u tq_le_n))) hk
  · rw [if_neg c4] at hf
    refine tq_aload_n rX7_isWord_28 rfl ?_
    refine tq_aload_n rX7_isWord_29 rfl ?_
    refine ty_getI rX7_isWord_30 f_X7_58 rfl h0 ?_
    refine tq_iload_n rX7_isWord_33 rfl ?_
    refine tq_iadd rX7_isWord_34 ?_
    obtain ⟨p5, e5, hf⟩ := Option.bind_eq_some_iff.mp hf
    refine ty_callVI p5 ([.int ((I a0 9) + a2)]) ([]) rX7_isWord_35 l_X7_135 moX7_byteAt mvX7_byteAt h0 rfl rfl (Nat.le_of_ble_eq_true rfl) ⟨rfl, rfl⟩ (CX7_byteAt h0 e5) ?_
    refine tq_aloadF_n rX7_isWord_38 rfl ?_
    refine tq_iload_n rX7_isWord_39 rfl ?_
    obtain ⟨p6, e6, hf⟩ := Option.bind_eq_some_iff.mp hf
    refine ty_callTI (j := a1) p6 ([.int a2]) ([.int p5]) rX7_isWord_40 l_X7_199 moJ0_charAt_5068e mvJ0_charAt_5068e h1 rfl rfl (Nat.le_of_ble_eq_true rfl) ⟨rfl, rfl⟩ (CJ0_charAt_5068e h1 e6) ?_
    refine tq_icmp_eq rX7_isWord_43 (fun c7 => ?_) (fun c7 => ?_)
    · rw [if_pos c7] at hf
      refine tq_iinc (a2 + 1) ([.ref a0, .retAddr (a1 + 1), .int (a2 + 1)]) rX7_isWord_48 rfl (tq_inc (by decide)) (Nat.le_of_ble_eq_true rfl) rfl ?_
      refine tq_goto rX7_isWord_51 ?_
      have hf := Option.some.inj hf
      subst hf
      exact tq_forget _ (tq_le_s (tq_le_s (tq_le_s tq_le_n))) hk
    · rw [if_neg c7] at hf
      refine tq_iconst (0 : Int32) rX7_isWord_46 (by decide) ?_
      refine ty_zret (ty := .boolean) rX7_isWord_47 rfl rfl rfl ?_
      have hf := Option.some.inj hf
      subst hf
      exact hk

set_option maxRecDepth 100000 in
set_option maxHeartbeats 4000000 in
theorem CX7_isWord {S : Nat × (Nat → Int32)} {d : Nat} {I : tq_PI} {L : tq_PL} {a0 : Nat} {a1 : Nat} (h0 : tq_sh0 a0 = 7) (h1 : a1 < 11) {out : Bool} (hf : FX7_isWord I L a0 a1 = some out) : tq_K S mX7_isWord (d + 4) [.ref a0, .retAddr (a1 + 1)] I L (tq_one2 (some (.int (tq_b out))) I L) := by
  unfold FX7_isWord at hf
  refine tq_K_of (by decide) (Nat.le_of_ble_eq_true rfl) (ls := [.ref a0, .retAddr (a1 + 1), tq_u]) rfl ?_
  refine tq_aload_n rX7_isWord_0 rfl ?_
  refine ty_getI rX7_isWord_1 f_X7_55 rfl h0 ?_
  refine tq_aload_n rX7_isWord_4 rfl ?_
  refine ty_getI rX7_isWord_5 f_X7_58 rfl h0 ?_
  refine tq_isub rX7_isWord_8 ?_
  refine tq_aloadF_n rX7_isWord_9 rfl ?_
  obtain ⟨p1, e1, hf⟩ := tq_let_elim hf
  refine ty_callTI (j := a1) p1 ([]) ([.int ((I a0 8) - (I a0 9))]) rX7_isWord_10 l_X7_195 moJ0_length_8abf5 mvJ0_length_8abf5 h1 rfl rfl (Nat.le_of_ble_eq_true rfl) ⟨rfl, rfl⟩ (CJ0_length_8abf5 h1 e1) ?_
  refine tq_icmp_eq rX7_isWord_13 (fun c2 => ?_) (fun c2 => ?_)
  · rw [if_pos c2] at hf
    refine tq_iconst (0 : Int32) rX7_isWord_18 (by decide) ?_
    refine tq_istore_n ([.ref a0, .retAddr (a1 + 1), .int (0 : Int32)]) rX7_isWord_19 (Nat.le_of_ble_eq_true rfl) rfl ?_
    obtain ⟨p8, e8, hf⟩ := Option.bind_eq_some_iff.mp hf
    refine tq_forget _ (tq_le_s (tq_le_s (tq_le_s tq_le_n))) ?_
    refine tq_it_elim (P := fun p : Int32 => tq_X S mX7_isWord (d + 4) tq_k0 20 ([.ref a0, .retAddr (a1 + 1), .int p]) [] (tq_st I L) (tq_Q (tq_one2 (some (.int (tq_b out))) I L))) (R := Sum.elim (fun p : Unit => tq_X S mX7_isWord (d + 4) tq_k0 54 ([tq_u, tq_u, tq_u]) [] (tq_st I L) (tq_Q (tq_one2 (some (.int (tq_b out))) I L))) (fun p : Bool => (tq_one2 (some (.int (tq_b out))) I L) (some (.int (tq_b p))) I L)) (fun p o hp hk => FX7_isWord_s20_x  h0 h1 hp hk) _ ((0 : Int32)) _ e8 ?_
    rcases tq_selim hf with ⟨t9, t9q, hf⟩ | ⟨t9, t9q, hf⟩
    · rw [t9q]
      show tq_X _ _ _ _ _ _ _ _ _
      refine tq_iconst (1 : Int32) rX7_isWord_54 (by decide) ?_
      refine ty_zret (ty := .boolean) rX7_isWord_55 rfl rfl rfl ?_
      have hf := Option.some.inj hf
      subst hf
      exact ⟨rfl, rfl, rfl⟩
    · rw [t9q]
      have hf := Option.some.inj hf
      subst hf
      exact ⟨rfl, rfl, rfl⟩
  · rw [if_neg c2] at hf
    refine tq_iconst (0 : Int32) rX7_isWord_16 (by decide) ?_
    refine ty_zret (ty := .boolean) rX7_isWord_17 rfl rfl rfl ?_
    have hf := Option.some.inj hf
    subst hf
    exact ⟨rfl, rfl, rfl⟩

abbrev mX7_hillWord : tq_M := (yX7_hillWord, cX7_hillWord, 1, (Option.some Jvm.ClassFile.FieldType.int), 0, 0)
theorem moX7_isWord : tq_mok mX7_isWord 1 := ⟨tq_sg1 _ (List.mem_of_getElem? (i := 7) rfl), tq_sg2 _ (List.mem_of_getElem? (i := 235) rfl), ⟨by decide, by decide, by decide +kernel⟩, by decide⟩
theorem mvX7_isWord : 7 < 13 ∧ (tq_cl 7).1 = mX7_isWord.1.cls ∧ Cond.instanceMethod mX7_isWord.1 ∈ lw_tbl ∧ Cond.selects mX7_isWord.1.cls mX7_isWord.1 mX7_isWord.1 ∈ lw_tbl := ⟨by decide, rfl, tq_sg2 _ (List.mem_of_getElem? (i := 234) rfl), List.mem_append_left _ (List.mem_map.mpr ⟨_, List.mem_of_getElem? (i := 6) rfl, rfl⟩)⟩
theorem l_X7_172 : tq_lok RX7 172 mX7_isWord.1 := Or.inl (tq_sg2 _ (List.mem_of_getElem? (i := 232) rfl))
theorem rX7_hillWord_0 : tq_D cX7_hillWord 0 (.aload_n 0) 1 1 := ⟨by decide +kernel, rfl⟩
theorem rX7_hillWord_1 : tq_D cX7_hillWord 1 (.ldc 178) 2 3 := ⟨by decide +kernel, rfl⟩
theorem rX7_hillWord_3 : tq_D cX7_hillWord 3 (.invokevirtual 172) 3 6 := ⟨by decide +kernel, rfl⟩
theorem rX7_hillWord_6 : tq_J cX7_hillWord 6 (.ifCond .eq) 11 9 := ⟨5, by decide +kernel, by decide, rfl⟩
theorem rX7_hillWord_9 : tq_D cX7_hillWord 9 (.iconst 5) 1 10 := ⟨by decide +kernel, rfl⟩
theorem rX7_hillWord_10 : decode cX7_hillWord 10 = .ok (.ireturn, 1) := by decide +kernel
theorem rX7_hillWord_11 : tq_D cX7_hillWord 11 (.aload_n 0) 1 12 := ⟨by decide +kernel, rfl⟩
theorem rX7_hillWord_12 : tq_D cX7_hillWord 12 (.ldc 179) 2 14 := ⟨by decide +kernel, rfl⟩
theorem rX7_hillWord_14 : tq_D cX7_hillWord 14 (.invokevirtual 172) 3 17 := ⟨by decide +kernel, rfl⟩
theorem rX7_hillWord_17 : tq_J cX7_hillWord 17 (.ifCond .eq) 22 20 := ⟨5, by decide +kernel, by decide, rfl⟩
theorem rX7_hillWord_20 : tq_D cX7_hillWord 20 (.iconst 0) 1 21 := ⟨by decide +kernel, rfl⟩
theorem rX7_hillWord_21 : decode cX7_hillWord 21 = .ok (.ireturn, 1) := by decide +kernel
theorem rX7_hillWord_22 : tq_D cX7_hillWord 22 (.aload_n 0) 1 23 := ⟨by decide +kernel, rfl⟩
theorem rX7_hillWord_23 : tq_D cX7_hillWord 23 (.ldc 181) 2 25 := ⟨by decide +kernel, rfl⟩
theorem rX7_hillWord_25 : tq_D cX7_hillWord 25 (.invokevirtual 172) 3 28 := ⟨by decide +kernel, rfl⟩
theorem rX7_hillWord_28 : tq_J cX7_hillWord 28 (.ifCond .eq) 33 31 := ⟨5, by decide +kernel, by decide, rfl⟩
theorem rX7_hillWord_31 : tq_D cX7_hillWord 31 (.iconst 1) 1 32 := ⟨by decide +kernel, rfl⟩
theorem rX7_hillWord_32 : decode cX7_hillWord 32 = .ok (.ireturn, 1) := by decide +kernel
theorem rX7_hillWord_33 : tq_D cX7_hillWord 33 (.aload_n 0) 1 34 := ⟨by decide +kernel, rfl⟩
theorem rX7_hillWord_34 : tq_D cX7_hillWord 34 (.ldc 183) 2 36 := ⟨by decide +kernel, rfl⟩
theorem rX7_hillWord_36 : tq_D cX7_hillWord 36 (.invokevirtual 172) 3 39 := ⟨by decide +kernel, rfl⟩
theorem rX7_hillWord_39 : tq_J cX7_hillWord 39 (.ifCond .eq) 44 42 := ⟨5, by decide +kernel, by decide, rfl⟩
theorem rX7_hillWord_42 : tq_D cX7_hillWord 42 (.iconst 2) 1 43 := ⟨by decide +kernel, rfl⟩
theorem rX7_hillWord_43 : decode cX7_hillWord 43 = .ok (.ireturn, 1) := by decide +kernel
theorem rX7_hillWord_44 : tq_D cX7_hillWord 44 (.aload_n 0) 1 45 := ⟨by decide +kernel, rfl⟩
theorem rX7_hillWord_45 : tq_D cX7_hillWord 45 (.ldc 185) 2 47 := ⟨by decide +kernel, rfl⟩
theorem rX7_hillWord_47 : tq_D cX7_hillWord 47 (.invokevirtual 172) 3 50 := ⟨by decide +kernel, rfl⟩
theorem rX7_hillWord_50 : tq_J cX7_hillWord 50 (.ifCond .eq) 55 53 := ⟨5, by decide +kernel, by decide, rfl⟩
theorem rX7_hillWord_53 : tq_D cX7_hillWord 53 (.iconst 3) 1 54 := ⟨by decide +kernel, rfl⟩
theorem rX7_hillWord_54 : decode cX7_hillWord 54 = .ok (.ireturn, 1) := by decide +kernel
theorem rX7_hillWord_55 : tq_D cX7_hillWord 55 (.aload_n 0) 1 56 := ⟨by decide +kernel, rfl⟩
theorem rX7_hillWord_56 : tq_D cX7_hillWord 56 (.ldc 187) 2 58 := ⟨by decide +kernel, rfl⟩
theorem rX7_hillWord_58 : tq_D cX7_hillWord 58 (.invokevirtual 172) 3 61 := ⟨by decide +kernel, rfl⟩
theorem rX7_hillWord_61 : tq_J cX7_hillWord 61 (.ifCond .eq) 68 64 := ⟨7, by decide +kernel, by decide, rfl⟩
theorem rX7_hillWord_64 : tq_D cX7_hillWord 64 (.iconst 4) 1 65 := ⟨by decide +kernel, rfl⟩
theorem rX7_hillWord_65 : tq_J cX7_hillWord 65 .goto 69 68 := ⟨4, by decide +kernel, by decide, rfl⟩
theorem rX7_hillWord_68 : tq_D cX7_hillWord 68 (.iconst (-1)) 1 69 := ⟨by decide +kernel, rfl⟩
theorem rX7_hillWord_69 : decode cX7_hillWord 69 = .ok (.ireturn, 1) := by decide +kernel
noncomputable def FX7_hillWord (I : tq_PI) (L : tq_PL) (a0 : Nat) : Option (Int32) :=
  ((FX7_isWord I L a0 0).bind fun p1 => (if (tq_b p1) = 0 then ((FX7_isWord I L a0 1).bind fun p3 => (if (tq_b p3) = 0 then ((FX7_isWord I L a0 2).bind fun p5 => (if (tq_b p5) = 0 then ((FX7_isWord I L a0 3).bind fun p7 => (if (tq_b p7) = 0 then ((FX7_isWord I L a0 4).bind fun p9 => (if (tq_b p9) = 0 then ((FX7_isWord I L a0 5).bind fun p11 => (if (tq_b p11) = 0 then some (-1 : Int32) else some (4 : Int32))) else some (3 : Int32))) else some (2 : Int32))) else some (1 : Int32))) else some (0 : Int32))) else some (5 : Int32)))
set_option maxRecDepth 100000 in
set_option maxHeartbeats 4000000 in
theorem CX7_hillWord {S : Nat × (Nat → Int32)} {d : Nat} {I : tq_PI} {L : tq_PL} {a0 : Nat} (h0 : tq_sh0 a0 = 7) {out : Int32} (hf : FX7_hillWord I L a0 = some out) : tq_K S mX7_hillWord (d + 5) [.ref a0] I L (tq_one2 (some (.int out)) I L) := by
  unfold FX7_hillWord at hf
  refine tq_K_of (by decide) (Nat.le_of_ble_eq_true rfl) (ls := [.ref a0]) rfl ?_
  refine tq_aload_n rX7_hillWord_0 rfl ?_
  refine tq_ldcS (i := 0) rX7_hillWord_1 (by decide) rfl rfl ?_
  obtain ⟨p1, e1, hf⟩ := Option.bind_eq_some_iff.mp hf
  refine ty_callVI (tq_b p1) ([.retAddr (0 + 1)]) ([]) rX7_hillWord_3 l_X7_172 moX7_isWord mvX7_isWord h0 rfl rfl (Nat.le_of_ble_eq_true rfl) ⟨rfl, rfl⟩ (CX7_isWord h0 (by decide) e1) ?_
  refine tq_if_eq rX7_hillWord_6 (fun c2 => ?_) (fun c2 => ?_)
  · rw [if_pos c2] at hf
    refine tq_aload_n rX7_hillWord_11 rfl ?_
    refine tq_ldcS (i := 1) rX7_hillWord_12 (by decide) rfl rfl ?_
    obtain ⟨p3, e3, hf⟩ := Option.bind_eq_some_iff.mp hf
    refine ty_callVI (tq_b p3) ([.retAddr (1 + 1)]) ([]) rX7_hillWord_14 l_X7_172 moX7_isWord mvX7_isWord h0 rfl rfl (Nat.le_of_ble_eq_true rfl) ⟨rfl, rfl⟩ (CX7_isWord h0 (by decide) e3) ?_
    refine tq_if_eq rX7_hillWord_17 (fun c4 => ?_) (fun c4 => ?_)
    · rw [if_pos c4] at hf
      refine tq_aload_n rX7_hillWord_22 rfl ?_
      refine tq_ldcS (i := 2) rX7_hillWord_23 (by decide) rfl rfl ?_
      obtain ⟨p5, e5, hf⟩ := Option.bind_eq_some_iff.mp hf
      refine ty_callVI (tq_b p5) ([.retAddr (2 + 1)]) ([]) rX7_hillWord_25 l_X7_172 moX7_isWord mvX7_isWord h0 rfl rfl (Nat.le_of_ble_eq_true rfl) ⟨rfl, rfl⟩ (CX7_isWord h0 (by decide) e5) ?_
      refine tq_if_eq rX7_hillWord_28 (fun c6 => ?_) (fun c6 => ?_)
      · rw [if_pos c6] at hf
        refine tq_aload_n rX7_hillWord_33 rfl ?_
        refine tq_ldcS (i := 3) rX7_hillWord_34 (by decide) rfl rfl ?_
        obtain ⟨p7, e7, hf⟩ := Option.bind_eq_some_iff.mp hf
        refine ty_callVI (tq_b p7) ([.retAddr (3 + 1)]) ([]) rX7_hillWord_36 l_X7_172 moX7_isWord mvX7_isWord h0 rfl rfl (Nat.le_of_ble_eq_true rfl) ⟨rfl, rfl⟩ (CX7_isWord h0 (by decide) e7) ?_
        refine tq_if_eq rX7_hillWord_39 (fun c8 => ?_) (fun c8 => ?_)
        · rw [if_pos c8] at hf
          refine tq_aload_n rX7_hillWord_44 rfl ?_
          refine tq_ldcS (i := 4) rX7_hillWord_45 (by decide) rfl rfl ?_
          obtain ⟨p9, e9, hf⟩ := Option.bind_eq_some_iff.mp hf
          refine ty_callVI (tq_b p9) ([.retAddr (4 + 1)]) ([]) rX7_hillWord_47 l_X7_172 moX7_isWord mvX7_isWord h0 rfl rfl (Nat.le_of_ble_eq_true rfl) ⟨rfl, rfl⟩ (CX7_isWord h0 (by decide) e9) ?_
          refine tq_if_eq rX7_hillWord_50 (fun c10 => ?_) (fun c10 => ?_)
          · rw [if_pos c10] at hf
            refine tq_aload_n rX7_hillWord_55 rfl ?_
            refine tq_ldcS (i := 5) rX7_hillWord_56 (by decide) rfl rfl ?_
            obtain ⟨p11, e11, hf⟩ := Option.bind_eq_some_iff.mp hf
            refine ty_callVI (tq_b p11) ([.retAddr (5 + 1)]) ([]) rX7_hillWord_58 l_X7_172 moX7_isWord mvX7_isWord h0 rfl rfl (Nat.le_of_ble_eq_true rfl) ⟨rfl, rfl⟩ (CX7_isWord h0 (by decide) e11) ?_
            refine tq_if_eq rX7_hillWord_61 (fun c12 => ?_) (fun c12 => ?_)
            · rw [if_pos c12] at hf
              refine tq_iconst (-1 : Int32) rX7_hillWord_68 (by decide) ?_
              refine ty_iret rX7_hillWord_69 rfl rfl ?_
              have hf := Option.some.inj hf
              subst hf
              exact ⟨rfl, rfl, rfl⟩
            · rw [if_neg c12] at hf
              refine tq_iconst (4 : Int32) rX7_hillWord_64 (by decide) ?_
              refine tq_goto rX7_hillWord_65 ?_
              refine ty_iret rX7_hillWord_69 rfl rfl ?_
              have hf := Option.some.inj hf
              subst hf
              exact ⟨rfl, rfl, rfl⟩
          · rw [if_neg c10] at hf
            refine tq_iconst (3 : Int32) rX7_hillWord_53 (by decide) ?_
            refine ty_iret rX7_hillWord_54 rfl rfl ?_
            have hf := Option.some.inj hf
            subst hf
            exact ⟨rfl, rfl, rfl⟩
        · rw [if_neg c8] at hf
          refine tq_iconst (2 : Int32) rX7_hillWord_42 (by decide) ?_
          refine ty_iret rX7_hillWord_43 rfl rfl ?_
          have hf := Option.some.inj hf
          subst hf
          exact ⟨rfl, rfl, rfl⟩
      · rw [if_neg c6] at hf
        refine tq_iconst (1 : Int32) rX7_hillWord_31 (by decide) ?_
        refine ty_iret rX7_hillWord_32 rfl rfl ?_
        have hf := Option.some.inj hf
        subst hf
        exact ⟨rfl, rfl, rfl⟩
    · rw [if_neg c4] at hf
      refine tq_iconst (0 : Int32) rX7_hillWord_20 (by decide) ?_
      refine ty_iret rX7_hillWord_21 rfl rfl ?_
      have hf := Option.some.inj hf
      subst hf
      exact ⟨rfl, rfl, rfl⟩
  · rw [if_neg c2] at hf
    refine tq_iconst (5 : Int32) rX7_hillWord_9 (by decide) ?_
    refine ty_iret rX7_hillWord_10 rfl rfl ?_
    have hf := Option.some.inj hf
    subst hf
    exact ⟨rfl, rfl, rfl⟩

abbrev mX7_yearWord : tq_M := (yX7_yearWord, cX7_yearWord, 1, (Option.some Jvm.ClassFile.FieldType.int), 0, 0)
theorem rX7_yearWord_0 : tq_D cX7_yearWord 0 (.aload_n 0) 1 1 := ⟨by decide +kernel, rfl⟩
theorem rX7_yearWord_1 : tq_D cX7_yearWord 1 (.ldc 189) 2 3 := ⟨by decide +kernel, rfl⟩
theorem rX7_yearWord_3 : tq_D cX7_yearWord 3 (.invokevirtual 172) 3 6 := ⟨by decide +kernel, rfl⟩
theorem rX7_yearWord_6 : tq_J cX7_yearWord 6 (.ifCond .eq) 11 9 := ⟨5, by decide +kernel, by decide, rfl⟩
theorem rX7_yearWord_9 : tq_D cX7_yearWord 9 (.iconst 0) 1 10 := ⟨by decide +kernel, rfl⟩
theorem rX7_yearWord_10 : decode cX7_yearWord 10 = .ok (.ireturn, 1) := by decide +kernel
theorem rX7_yearWord_11 : tq_D cX7_yearWord 11 (.aload_n 0) 1 12 := ⟨by decide +kernel, rfl⟩
theorem rX7_yearWord_12 : tq_D cX7_yearWord 12 (.ldc 191) 2 14 := ⟨by decide +kernel, rfl⟩
theorem rX7_yearWord_14 : tq_D cX7_yearWord 14 (.invokevirtual 172) 3 17 := ⟨by decide +kernel, rfl⟩
theorem rX7_yearWord_17 : tq_J cX7_yearWord 17 (.ifCond .eq) 22 20 := ⟨5, by decide +kernel, by decide, rfl⟩
theorem rX7_yearWord_20 : tq_D cX7_yearWord 20 (.iconst 1) 1 21 := ⟨by decide +kernel, rfl⟩
theorem rX7_yearWord_21 : decode cX7_yearWord 21 = .ok (.ireturn, 1) := by decide +kernel
theorem rX7_yearWord_22 : tq_D cX7_yearWord 22 (.aload_n 0) 1 23 := ⟨by decide +kernel, rfl⟩
theorem rX7_yearWord_23 : tq_D cX7_yearWord 23 (.ldc 187) 2 25 := ⟨by decide +kernel, rfl⟩
theorem rX7_yearWord_25 : tq_D cX7_yearWord 25 (.invokevirtual 172) 3 28 := ⟨by decide +kernel, rfl⟩
theorem rX7_yearWord_28 : tq_J cX7_yearWord 28 (.ifCond .eq) 33 31 := ⟨5, by decide +kernel, by decide, rfl⟩
theorem rX7_yearWord_31 : tq_D cX7_yearWord 31 (.iconst 2) 1 32 := ⟨by decide +kernel, rfl⟩
theorem rX7_yearWord_32 : decode cX7_yearWord 32 = .ok (.ireturn, 1) := by decide +kernel
theorem rX7_yearWord_33 : tq_D cX7_yearWord 33 (.aload_n 0) 1 34 := ⟨by decide +kernel, rfl⟩
theorem rX7_yearWord_34 : tq_D cX7_yearWord 34 (.ldc 193) 2 36 := ⟨by decide +kernel, rfl⟩
theorem rX7_yearWord_36 : tq_D cX7_yearWord 36 (.invokevirtual 172) 3 39 := ⟨by decide +kernel, rfl⟩
theorem rX7_yearWord_39 : tq_J cX7_yearWord 39 (.ifCond .eq) 46 42 := ⟨7, by decide +kernel, by decide, rfl⟩
theorem rX7_yearWord_42 : tq_D cX7_yearWord 42 (.iconst 3) 1 43 := ⟨by decide +kernel, rfl⟩
theorem rX7_yearWord_43 : tq_J cX7_yearWord 43 .goto 47 46 := ⟨4, by decide +kernel, by decide, rfl⟩
theorem rX7_yearWord_46 : tq_D cX7_yearWord 46 (.iconst (-1)) 1 47 := ⟨by decide +kernel, rfl⟩
theorem rX7_yearWord_47 : decode cX7_yearWord 47 = .ok (.ireturn, 1) := by decide +kernel
noncomputable def FX7_yearWord (I : tq_PI) (L : tq_PL) (a0 : Nat) : Option (Int32) :=
  ((FX7_isWord I L a0 6).bind fun p1 => (if (tq_b p1) = 0 then ((FX7_isWord I L a0 7).bind fun p3 => (if (tq_b p3) = 0 then ((FX7_isWord I L a0 5).bind fun p5 => (if (tq_b p5) = 0 then ((FX7_isWord I L a0 8).bind fun p7 => (if (tq_b p7) = 0 then some (-1 : Int32) else some (3 : Int32))) else some (2 : Int32))) else some (1 : Int32))) else some (0 : Int32)))
set_option maxRecDepth 100000 in
set_option maxHeartbeats 4000000 in
theorem CX7_yearWord {S : Nat × (Nat → Int32)} {d : Nat} {I : tq_PI} {L : tq_PL} {a0 : Nat} (h0 : tq_sh0 a0 = 7) {out : Int32} (hf : FX7_yearWord I L a0 = some out) : tq_K S mX7_yearWord (d + 5) [.ref a0] I L (tq_one2 (some (.int out)) I L) := by
  unfold FX7_yearWord at hf
  refine tq_K_of (by decide) (Nat.le_of_ble_eq_true rfl) (ls := [.ref a0]) rfl ?_
  refine tq_aload_n rX7_yearWord_0 rfl ?_
  refine tq_ldcS (i := 6) rX7_yearWord_1 (by decide) rfl rfl ?_
  obtain ⟨p1, e1, hf⟩ := Option.bind_eq_some_iff.mp hf
  refine ty_callVI (tq_b p1) ([.retAddr (6 + 1)]) ([]) rX7_yearWord_3 l_X7_172 moX7_isWord mvX7_isWord h0 rfl rfl (Nat.le_of_ble_eq_true rfl) ⟨rfl, rfl⟩ (CX7_isWord h0 (by decide) e1) ?_
  refine tq_if_eq rX7_yearWord_6 (fun c2 => ?_) (fun c2 => ?_)
  · rw [if_pos c2] at hf
    refine tq_aload_n rX7_yearWord_11 rfl ?_
    refine tq_ldcS (i := 7) rX7_yearWord_12 (by decide) rfl rfl ?_
    obtain ⟨p3, e3, hf⟩ := Option.bind_eq_some_iff.mp hf
    refine ty_callVI (tq_b p3) ([.retAddr (7 + 1)]) ([]) rX7_yearWord_14 l_X7_172 moX7_isWord mvX7_isWord h0 rfl rfl (Nat.le_of_ble_eq_true rfl) ⟨rfl, rfl⟩ (CX7_isWord h0 (by decide) e3) ?_
    refine tq_if_eq rX7_yearWord_17 (fun c4 => ?_) (fun c4 => ?_)
    · rw [if_pos c4] at hf
      refine tq_aload_n rX7_yearWord_22 rfl ?_
      refine tq_ldcS (i := 5) rX7_yearWord_23 (by decide) rfl rfl ?_
      obtain ⟨p5, e5, hf⟩ := Option.bind_eq_some_iff.mp hf
      refine ty_callVI (tq_b p5) ([.retAddr (5 + 1)]) ([]) rX7_yearWord_25 l_X7_172 moX7_isWord mvX7_isWord h0 rfl rfl (Nat.le_of_ble_eq_true rfl) ⟨rfl, rfl⟩ (CX7_isWord h0 (by decide) e5) ?_
      refine tq_if_eq rX7_yearWord_28 (fun c6 => ?_) (fun c6 => ?_)
      · rw [if_pos c6] at hf
        refine tq_aload_n rX7_yearWord_33 rfl ?_
        refine tq_ldcS (i := 8) rX7_yearWord_34 (by decide) rfl rfl ?_
        obtain ⟨p7, e7, hf⟩ := Option.bind_eq_some_iff.mp hf
        refine ty_callVI (tq_b p7) ([.retAddr (8 + 1)]) ([]) rX7_yearWord_36 l_X7_172 moX7_isWord mvX7_isWord h0 rfl rfl (Nat.le_of_ble_eq_true rfl) ⟨rfl, rfl⟩ (CX7_isWord h0 (by decide) e7) ?_
        refine tq_if_eq rX7_yearWord_39 (fun c8 => ?_) (fun c8 => ?_)
        · rw [if_pos c8] at hf
          refine tq_iconst (-1 : Int32) rX7_yearWord_46 (by decide) ?_
          refine ty_iret rX7_yearWord_47 rfl rfl ?_
          have hf := Option.some.inj hf
          subst hf
          exact ⟨rfl, rfl, rfl⟩
        · rw [if_neg c8] at hf
          refine tq_iconst (3 : Int32) rX7_yearWord_42 (by decide) ?_
          refine tq_goto rX7_yearWord_43 ?_
          refine ty_iret rX7_yearWord_47 rfl rfl ?_
          have hf := Option.some.inj hf
          subst hf
          exact ⟨rfl, rfl, rfl⟩
      · rw [if_neg c6] at hf
        refine tq_iconst (2 : Int32) rX7_yearWord_31 (by decide) ?_
        refine ty_iret rX7_yearWord_32 rfl rfl ?_
        have hf := Option.some.inj hf
        subst hf
        exact ⟨rfl, rfl, rfl⟩
    · rw [if_neg c4] at hf
      refine tq_iconst (1 : Int32) rX7_yearWord_20 (by decide) ?_
      refine ty_iret rX7_yearWord_21 rfl rfl ?_
      have hf := Option.some.inj hf
      subst hf
      exact ⟨rfl, rfl, rfl⟩
  · rw [if_neg c2] at hf
    refine tq_iconst (0 : Int32) rX7_yearWord_9 (by decide) ?_
    refine ty_iret rX7_yearWord_10 rfl rfl ?_
    have hf := Option.some.inj hf
    subst hf
    exact ⟨rfl, rfl, rfl⟩

abbrev mX7_keyword : tq_M := (yX7_keyword, cX7_keyword, 2, (Option.some Jvm.ClassFile.FieldType.int), 0, 0)
theorem moX7_hillWord : tq_mok mX7_hillWord 0 := ⟨tq_sg1 _ (List.mem_of_getElem? (i := 7) rfl), tq_sg2 _ (List.mem_of_getElem? (i := 230) rfl), ⟨by decide, by decide, by decide +kernel⟩, by decide⟩
theorem mvX7_hillWord : 7 < 13 ∧ (tq_cl 7).1 = mX7_hillWord.1.cls ∧ Cond.instanceMethod mX7_hillWord.1 ∈ lw_tbl ∧ Cond.selects mX7_hillWord.1.cls mX7_hillWord.1 mX7_hillWord.1 ∈ lw_tbl := ⟨by decide, rfl, tq_sg2 _ (List.mem_of_getElem? (i := 229) rfl), List.mem_append_left _ (List.mem_map.mpr ⟨_, List.mem_of_getElem? (i := 5) rfl, rfl⟩)⟩
theorem moX7_yearWord : tq_mok mX7_yearWord 0 := ⟨tq_sg1 _ (List.mem_of_getElem? (i := 7) rfl), tq_sg3 _ (List.mem_of_getElem? (i := 52) rfl), ⟨by decide, by decide, by decide +kernel⟩, by decide⟩
theorem mvX7_yearWord : 7 < 13 ∧ (tq_cl 7).1 = mX7_yearWord.1.cls ∧ Cond.instanceMethod mX7_yearWord.1 ∈ lw_tbl ∧ Cond.selects mX7_yearWord.1.cls mX7_yearWord.1 mX7_yearWord.1 ∈ lw_tbl := ⟨by decide, rfl, tq_sg3 _ (List.mem_of_getElem? (i := 51) rfl), List.mem_append_left _ (List.mem_map.mpr ⟨_, List.mem_of_getElem? (i := 7) rfl, rfl⟩)⟩
theorem l_X7_164 : tq_lok RX7 164 mX7_hillWord.1 := Or.inl (tq_sg2 _ (List.mem_of_getElem? (i := 227) rfl))
theorem l_X7_167 : tq_lok RX7 167 mX7_yearWord.1 := Or.inl (tq_sg3 _ (List.mem_of_getElem? (i := 49) rfl))
theorem rX7_keyword_0 : tq_D cX7_keyword 0 (.iload_n 1) 1 1 := ⟨by decide +kernel, rfl⟩
theorem rX7_keyword_1 : decode cX7_keyword 1 = .ok (.tableswitch 52 0 2 #[27, 32, 37], 27) := by decide +kernel
theorem rX7_keyword_28 : tq_D cX7_keyword 28 (.aload_n 0) 1 29 := ⟨by decide +kernel, rfl⟩
theorem rX7_keyword_29 : tq_D cX7_keyword 29 (.invokevirtual 164) 3 32 := ⟨by decide +kernel, rfl⟩
theorem rX7_keyword_32 : decode cX7_keyword 32 = .ok (.ireturn, 1) := by decide +kernel
theorem rX7_keyword_33 : tq_D cX7_keyword 33 (.aload_n 0) 1 34 := ⟨by decide +kernel, rfl⟩
theorem rX7_keyword_34 : tq_D cX7_keyword 34 (.invokevirtual 167) 3 37 := ⟨by decide +kernel, rfl⟩
theorem rX7_keyword_37 : decode cX7_keyword 37 = .ok (.ireturn, 1) := by decide +kernel
theorem rX7_keyword_38 : tq_D cX7_keyword 38 (.aload_n 0) 1 39 := ⟨by decide +kernel, rfl⟩
theorem rX7_keyword_39 : tq_D cX7_keyword 39 (.ldc 170) 2 41 := ⟨by decide +kernel, rfl⟩
theorem rX7_keyword_41 : tq_D cX7_keyword 41 (.invokevirtual 172) 3 44 := ⟨by decide +kernel, rfl⟩
theorem rX7_keyword_44 : tq_J cX7_keyword 44 (.ifCond .eq) 51 47 := ⟨7, by decide +kernel, by decide, rfl⟩
theorem rX7_keyword_47 : tq_D cX7_keyword 47 (.iconst 0) 1 48 := ⟨by decide +kernel, rfl⟩
theorem rX7_keyword_48 : tq_J cX7_keyword 48 .goto 52 51 := ⟨4, by decide +kernel, by decide, rfl⟩
theorem rX7_keyword_51 : tq_D cX7_keyword 51 (.iconst (-1)) 1 52 := ⟨by decide +kernel, rfl⟩
theorem rX7_keyword_52 : decode cX7_keyword 52 = .ok (.ireturn, 1) := by decide +kernel
theorem rX7_keyword_53 : tq_D cX7_keyword 53 (.aload_n 0) 1 54 := ⟨by decide +kernel, rfl⟩
theorem rX7_keyword_54 : tq_D cX7_keyword 54 (.ldc 176) 2 56 := ⟨by decide +kernel, rfl⟩
theorem rX7_keyword_56 : tq_D cX7_keyword 56 (.invokevirtual 172) 3 59 := ⟨by decide +kernel, rfl⟩
theorem rX7_keyword_59 : tq_J cX7_keyword 59 (.ifCond .eq) 66 62 := ⟨7, by decide +kernel, by decide, rfl⟩
theorem rX7_keyword_62 : tq_D cX7_keyword 62 (.iconst 0) 1 63 := ⟨by decide +kernel, rfl⟩
theorem rX7_keyword_63 : tq_J cX7_keyword 63 .goto 67 66 := ⟨4, by decide +kernel, by decide, rfl⟩
theorem rX7_keyword_66 : tq_D cX7_keyword 66 (.iconst (-1)) 1 67 := ⟨by decide +kernel, rfl⟩
theorem rX7_keyword_67 : decode cX7_keyword 67 = .ok (.ireturn, 1) := by decide +kernel
noncomputable def FX7_keyword (I : tq_PI) (L : tq_PL) (a0 : Nat) (a1 : Int32) : Option (Int32) :=
  (if a1 = 0 then ((FX7_hillWord I L a0).bind fun p2 => some p2) else (if a1 = 1 then ((FX7_yearWord I L a0).bind fun p4 => some p4) else (if a1 = 2 then ((FX7_isWord I L a0 9).bind fun p6 => (if (tq_b p6) = 0 then some (-1 : Int32) else some (0 : Int32))) else ((FX7_isWord I L a0 10).bind fun p8 => (if (tq_b p8) = 0 then some (-1 : Int32) else some (0 : Int32))))))
set_option maxRecDepth 100000 in
set_option maxHeartbeats 4000000 in
theorem CX7_keyword {S : Nat × (Nat → Int32)} {d : Nat} {I : tq_PI} {L : tq_PL} {a0 : Nat} {a1 : Int32} (h0 : tq_sh0 a0 = 7) {out : Int32} (hf : FX7_keyword I L a0 a1 = some out) : tq_K S mX7_keyword (d + 6) [.ref a0, .int a1] I L (tq_one2 (some (.int out)) I L) := by
  unfold FX7_keyword at hf
  refine tq_K_of (by decide) (Nat.le_of_ble_eq_true rfl) (ls := [.ref a0, .int a1]) rfl ?_
  refine tq_iload_n rX7_keyword_0 rfl ?_
  by_cases c1 : a1 = 0
  · rw [if_pos c1] at hf
    refine tq_swIn (tgt := 28) 27 rX7_keyword_1 (by rw [c1]; decide) (by rw [c1]; decide) (by rw [c1]; rfl) (by decide) ?_
    refine tq_aload_n rX7_keyword_28 rfl ?_
    obtain ⟨p2, e2, hf⟩ := Option.bind_eq_some_iff.mp hf
    refine ty_callVI p2 ([]) ([]) rX7_keyword_29 l_X7_164 moX7_hillWord mvX7_hillWord h0 rfl rfl (Nat.le_of_ble_eq_true rfl) ⟨rfl, rfl⟩ (CX7_hillWord h0 e2) ?_
    refine ty_iret rX7_keyword_32 rfl rfl ?_
    have hf := Option.some.inj hf
    subst hf
    exact ⟨rfl, rfl, rfl⟩
  · rw [if_neg c1] at hf
    by_cases c3 : a1 = 1
    · rw [if_pos c3] at hf
      refine tq_swIn (tgt := 33) 32 rX7_keyword_1 (by rw [c3]; decide) (by rw [c3]; decide) (by rw [c3]; rfl) (by decide) ?_
      refine tq_aload_n rX7_keyword_33 rfl ?_
      obtain ⟨p4, e4, hf⟩ := Option.bind_eq_some_iff.mp hf
      refine ty_callVI p4 ([]) ([]) rX7_keyword_34 l_X7_167 moX7_yearWord mvX7_yearWord h0 rfl rfl (Nat.le_of_ble_eq_true rfl) ⟨rfl, rfl⟩ (CX7_yearWord h0 e4) ?_
      refine ty_iret rX7_keyword_37 rfl rfl ?_
      have hf := Option.some.inj hf
      subst hf
      exact ⟨rfl, rfl, rfl⟩
    · rw [if_neg c3] at hf
      by_cases c5 : a1 = 2
      · rw [if_pos c5] at hf
        refine tq_swIn (tgt := 38) 37 rX7_keyword_1 (by rw [c5]; decide) (by rw [c5]; decide) (by rw [c5]; rfl) (by decide) ?_
        refine tq_aload_n rX7_keyword_38 rfl ?_
        refine tq_ldcS (i := 9) rX7_keyword_39 (by decide) rfl rfl ?_
        obtain ⟨p6, e6, hf⟩ := Option.bind_eq_some_iff.mp hf
        refine ty_callVI (tq_b p6) ([.retAddr (9 + 1)]) ([]) rX7_keyword_41 l_X7_172 moX7_isWord mvX7_isWord h0 rfl rfl (Nat.le_of_ble_eq_true rfl) ⟨rfl, rfl⟩ (CX7_isWord h0 (by decide) e6) ?_
        refine tq_if_eq rX7_keyword_44 (fun c7 => ?_) (fun c7 => ?_)
        · rw [if_pos c7] at hf
          refine tq_iconst (-1 : Int32) rX7_keyword_51 (by decide) ?_
          refine ty_iret rX7_keyword_52 rfl rfl ?_
          have hf := Option.some.inj hf
          subst hf
          exact ⟨rfl, rfl, rfl⟩
        · rw [if_neg c7] at hf
          refine tq_iconst (0 : Int32) rX7_keyword_47 (by decide) ?_
          refine tq_goto rX7_keyword_48 ?_
          refine ty_iret rX7_keyword_52 rfl rfl ?_
          have hf := Option.some.inj hf
          subst hf
          exact ⟨rfl, rfl, rfl⟩
      · rw [if_neg c5] at hf
        have c1o := tq_ni (c := 0) c1 (by decide)
        have c3o := tq_ni (c := 1) c3 (by decide)
        have c5o := tq_ni (c := 2) c5 (by decide)
        refine tq_swOut (tgt := 53) rX7_keyword_1 (by omega) (by decide) ?_
        refine tq_aload_n rX7_keyword_53 rfl ?_
        refine tq_ldcS (i := 10) rX7_keyword_54 (by decide) rfl rfl ?_
        obtain ⟨p8, e8, hf⟩ := Option.bind_eq_some_iff.mp hf
        refine ty_callVI (tq_b p8) ([.retAddr (10 + 1)]) ([]) rX7_keyword_56 l_X7_172 moX7_isWord mvX7_isWord h0 rfl rfl (Nat.le_of_ble_eq_true rfl) ⟨rfl, rfl⟩ (CX7_isWord h0 (by decide) e8) ?_
        refine tq_if_eq rX7_keyword_59 (fun c9 => ?_) (fun c9 => ?_)
        · rw [if_pos c9] at hf
          refine tq_iconst (-1 : Int32) rX7_keyword_66 (by decide) ?_
          refine ty_iret rX7_keyword_67 rfl rfl ?_
          have hf := Option.some.inj hf
          subst hf
          exact ⟨rfl, rfl, rfl⟩
        · rw [if_neg c9] at hf
          refine tq_iconst (0 : Int32) rX7_keyword_62 (by decide) ?_
          refine tq_goto rX7_keyword_63 ?_
          refine ty_iret rX7_keyword_67 rfl rfl ?_
          have hf := Option.some.inj hf
          subst hf
          exact ⟨rfl, rfl, rfl⟩

abbrev mX7_isFull : tq_M := (yX7_isFull, cX7_isFull, 2, (Option.some Jvm.ClassFile.FieldType.boolean), 0, 0)
theorem rX7_isFull_0 : tq_D cX7_isFull 0 (.iload_n 1) 1 1 := ⟨by decide +kernel, rfl⟩
theorem rX7_isFull_1 : decode cX7_isFull 1 = .ok (.tableswitch 81 1 3 #[27, 45, 63], 27) := by decide +kernel
theorem rX7_isFull_28 : tq_D cX7_isFull 28 (.aload_n 0) 1 29 := ⟨by decide +kernel, rfl⟩
theorem rX7_isFull_29 : tq_D cX7_isFull 29 (.getfield 25) 3 32 := ⟨by decide +kernel, rfl⟩
theorem rX7_isFull_32 : tq_D cX7_isFull 32 (.getfield 110) 3 35 := ⟨by decide +kernel, rfl⟩
theorem rX7_isFull_35 : tq_D cX7_isFull 35 (.bipush 40) 2 37 := ⟨by decide +kernel, rfl⟩
theorem rX7_isFull_37 : tq_J cX7_isFull 37 (.if_icmp .lt) 44 40 := ⟨7, by decide +kernel, by decide, rfl⟩
theorem rX7_isFull_40 : tq_D cX7_isFull 40 (.iconst 1) 1 41 := ⟨by decide +kernel, rfl⟩
theorem rX7_isFull_41 : tq_J cX7_isFull 41 .goto 45 44 := ⟨4, by decide +kernel, by decide, rfl⟩
theorem rX7_isFull_44 : tq_D cX7_isFull 44 (.iconst 0) 1 45 := ⟨by decide +kernel, rfl⟩
theorem rX7_isFull_45 : decode cX7_isFull 45 = .ok (.ireturn, 1) := by decide +kernel
theorem rX7_isFull_46 : tq_D cX7_isFull 46 (.aload_n 0) 1 47 := ⟨by decide +kernel, rfl⟩
theorem rX7_isFull_47 : tq_D cX7_isFull 47 (.getfield 32) 3 50 := ⟨by decide +kernel, rfl⟩
theorem rX7_isFull_50 : tq_D cX7_isFull 50 (.getfield 113) 3 53 := ⟨by decide +kernel, rfl⟩
theorem rX7_isFull_53 : tq_D cX7_isFull 53 (.bipush 8) 2 55 := ⟨by decide +kernel, rfl⟩
theorem rX7_isFull_55 : tq_J cX7_isFull 55 (.if_icmp .lt) 62 58 := ⟨7, by decide +kernel, by decide, rfl⟩
theorem rX7_isFull_58 : tq_D cX7_isFull 58 (.iconst 1) 1 59 := ⟨by decide +kernel, rfl⟩
theorem rX7_isFull_59 : tq_J cX7_isFull 59 .goto 63 62 := ⟨4, by decide +kernel, by decide, rfl⟩
theorem rX7_isFull_62 : tq_D cX7_isFull 62 (.iconst 0) 1 63 := ⟨by decide +kernel, rfl⟩
theorem rX7_isFull_63 : decode cX7_isFull 63 = .ok (.ireturn, 1) := by decide +kernel
theorem rX7_isFull_64 : tq_D cX7_isFull 64 (.aload_n 0) 1 65 := ⟨by decide +kernel, rfl⟩
theorem rX7_isFull_65 : tq_D cX7_isFull 65 (.getfield 39) 3 68 := ⟨by decide +kernel, rfl⟩
theorem rX7_isFull_68 : tq_D cX7_isFull 68 (.getfield 114) 3 71 := ⟨by decide +kernel, rfl⟩
theorem rX7_isFull_71 : tq_D cX7_isFull 71 (.bipush 8) 2 73 := ⟨by decide +kernel, rfl⟩
theorem rX7_isFull_73 : tq_J cX7_isFull 73 (.if_icmp .lt) 80 76 := ⟨7, by decide +kernel, by decide, rfl⟩
theorem rX7_isFull_76 : tq_D cX7_isFull 76 (.iconst 1) 1 77 := ⟨by decide +kernel, rfl⟩
theorem rX7_isFull_77 : tq_J cX7_isFull 77 .goto 81 80 := ⟨4, by decide +kernel, by decide, rfl⟩
theorem rX7_isFull_80 : tq_D cX7_isFull 80 (.iconst 0) 1 81 := ⟨by decide +kernel, rfl⟩
theorem rX7_isFull_81 : decode cX7_isFull 81 = .ok (.ireturn, 1) := by decide +kernel
theorem rX7_isFull_82 : tq_D cX7_isFull 82 (.iconst 0) 1 83 := ⟨by decide +kernel, rfl⟩
theorem rX7_isFull_83 : decode cX7_isFull 83 = .ok (.ireturn, 1) := by decide +kernel
noncomputable def FX7_isFull (I : tq_PI) (L : tq_PL) (a0 : Nat) (a1 : Int32) : Bool :=
  (if a1 = 1 then (if (I (tq_rg a0 2) 0) < (40 : Int32) then false else true) else (if a1 = 2 then (if (I (tq_rg a0 3) 0) < (8 : Int32) then false else true) else (if a1 = 3 then (if (I (tq_rg a0 4) 0) < (8 : Int32) then false else true) else false)))
set_option maxRecDepth 100000 in
set_option maxHeartbeats 4000000 in
theorem CX7_isFull {S : Nat × (Nat → Int32)} {d : Nat} {I : tq_PI} {L : tq_PL} {a0 : Nat} {a1 : Int32} (h0 : tq_sh0 a0 = 7) {out : Bool} (hf : FX7_isFull I L a0 a1 = out) : tq_K S mX7_isFull d [.ref a0, .int a1] I L (tq_one2 (some (.int (tq_b out))) I L) := by
  unfold FX7_isFull at hf
  refine tq_K_of (by decide) (Nat.le_of_ble_eq_true rfl) (ls := [.ref a0, .int a1]) rfl ?_
  refine tq_iload_n rX7_isFull_0 rfl ?_
  by_cases c1 : a1 = 1
  · rw [if_pos c1] at hf
    refine tq_swIn (tgt := 28) 27 rX7_isFull_1 (by rw [c1]; decide) (by rw [c1]; decide) (by rw [c1]; rfl) (by decide) ?_
    refine tq_aload_n rX7_isFull_28 rfl ?_
    refine ty_getR rX7_isFull_29 f_X7_25 rfl h0 (hp_7_2 h0).1 ?_
    refine ty_getI rX7_isFull_32 f_X7_110 rfl (hp_7_2 h0).2.1 ?_
    refine tq_bipush (40 : Int32) rX7_isFull_35 (by decide) ?_
    refine tq_icmp_lt rX7_isFull_37 (fun c2 => ?_) (fun c2 => ?_)
    · rw [if_pos c2] at hf
      refine tq_iconst (0 : Int32) rX7_isFull_44 (by decide) ?_
      refine ty_zret (ty := .boolean) rX7_isFull_45 rfl rfl rfl ?_
      subst hf
      exact ⟨rfl, rfl, rfl⟩
    · rw [if_neg c2] at hf
      refine tq_iconst (1 : Int32) rX7_isFull_40 (by decide) ?_
      refine tq_goto rX7_isFull_41 ?_
      refine ty_zret (ty := .boolean) rX7_isFull_45 rfl rfl rfl ?_
      subst hf
      exact ⟨rfl, rfl, rfl⟩
  · rw [if_neg c1] at hf
    by_cases c3 : a1 = 2
    · rw [if_pos c3] at hf
      refine tq_swIn (tgt := 46) 45 rX7_isFull_1 (by rw [c3]; decide) (by rw [c3]; decide) (by rw [c3]; rfl) (by decide) ?_
      refine tq_aload_n rX7_isFull_46 rfl ?_
      refine ty_getR rX7_isFull_47 f_X7_32 rfl h0 (hp_7_3 h0).1 ?_
      refine ty_getI rX7_isFull_50 f_X7_113 rfl (hp_7_3 h0).2.1 ?_
      refine tq_bipush (8 : Int32) rX7_isFull_53 (by decide) ?_
      refine tq_icmp_lt rX7_isFull_55 (fun c4 => ?_) (fun c4 => ?_)
      · rw [if_pos c4] at hf
        refine tq_iconst (0 : Int32) rX7_isFull_62 (by decide) ?_
        refine ty_zret (ty := .boolean) rX7_isFull_63 rfl rfl rfl ?_
        subst hf
        exact ⟨rfl, rfl, rfl⟩
      · rw [if_neg c4] at hf
        refine tq_iconst (1 : Int32) rX7_isFull_58 (by decide) ?_
        refine tq_goto rX7_isFull_59 ?_
        refine ty_zret (ty := .boolean) rX7_isFull_63 rfl rfl rfl ?_
        subst hf
        exact ⟨rfl, rfl, rfl⟩
    · rw [if_neg c3] at hf
      by_cases c5 : a1 = 3
      · rw [if_pos c5] at hf
        refine tq_swIn (tgt := 64) 63 rX7_isFull_1 (by rw [c5]; decide) (by rw [c5]; decide) (by rw [c5]; rfl) (by decide) ?_
        refine tq_aload_n rX7_isFull_64 rfl ?_
        refine ty_getR rX7_isFull_65 f_X7_39 rfl h0 (hp_7_4 h0).1 ?_
        refine ty_getI rX7_isFull_68 f_X7_114 rfl (hp_7_4 h0).2.1 ?_
        refine tq_bipush (8 : Int32) rX7_isFull_71 (by decide) ?_
        refine tq_icmp_lt rX7_isFull_73 (fun c6 => ?_) (fun c6 => ?_)
        · rw [if_pos c6] at hf
          refine tq_iconst (0 : Int32) rX7_isFull_80 (by decide) ?_
          refine ty_zret (ty := .boolean) rX7_isFull_81 rfl rfl rfl ?_
          subst hf
          exact ⟨rfl, rfl, rfl⟩
        · rw [if_neg c6] at hf
          refine tq_iconst (1 : Int32) rX7_isFull_76 (by decide) ?_
          refine tq_goto rX7_isFull_77 ?_
          refine ty_zret (ty := .boolean) rX7_isFull_81 rfl rfl rfl ?_
          subst hf
          exact ⟨rfl, rfl, rfl⟩
      · rw [if_neg c5] at hf
        have c1o := tq_ni (c := 1) c1 (by decide)
        have c3o := tq_ni (c := 2) c3 (by decide)
        have c5o := tq_ni (c := 3) c5 (by decide)
        refine tq_swOut (tgt := 82) rX7_isFull_1 (by omega) (by decide) ?_
        refine tq_iconst (0 : Int32) rX7_isFull_82 (by decide) ?_
        refine ty_zret (ty := .boolean) rX7_isFull_83 rfl rfl rfl ?_
        subst hf
        exact ⟨rfl, rfl, rfl⟩

abbrev mX7_blame : tq_M := (yX7_blame, cX7_blame, 3, (Option.none : Option Jvm.ClassFile.FieldType), 0, 0)
theorem rX7_blame_0 : tq_D cX7_blame 0 (.aload_n 0) 1 1 := ⟨by decide +kernel, rfl⟩
theorem rX7_blame_1 : tq_D cX7_blame 1 (.getfield 64) 3 4 := ⟨by decide +kernel, rfl⟩
theorem rX7_blame_4 : tq_J cX7_blame 4 (.ifCond .ne) 17 7 := ⟨13, by decide +kernel, by decide, rfl⟩
theorem rX7_blame_7 : tq_D cX7_blame 7 (.aload_n 0) 1 8 := ⟨by decide +kernel, rfl⟩
theorem rX7_blame_8 : tq_D cX7_blame 8 (.iload_n 1) 1 9 := ⟨by decide +kernel, rfl⟩
theorem rX7_blame_9 : tq_D cX7_blame 9 (.putfield 64) 3 12 := ⟨by decide +kernel, rfl⟩
theorem rX7_blame_12 : tq_D cX7_blame 12 (.aload_n 0) 1 13 := ⟨by decide +kernel, rfl⟩
theorem rX7_blame_13 : tq_D cX7_blame 13 (.iload_n 2) 1 14 := ⟨by decide +kernel, rfl⟩
theorem rX7_blame_14 : tq_D cX7_blame 14 (.putfield 67) 3 17 := ⟨by decide +kernel, rfl⟩
theorem rX7_blame_17 : decode cX7_blame 17 = .ok (.return_, 1) := by decide +kernel
noncomputable def FX7_blame (I : tq_PI) (L : tq_PL) (a0 : Nat) (a1 : Int32) (a2 : Int32) : tq_PI :=
  (if (I a0 11) = 0 then (tq_up2 (tq_up2 I a0 11 a1) a0 12 a2) else I)
set_option maxRecDepth 100000 in
set_option maxHeartbeats 4000000 in
theorem CX7_blame {S : Nat × (Nat → Int32)} {d : Nat} {I : tq_PI} {L : tq_PL} {a0 : Nat} {a1 : Int32} {a2 : Int32} (h0 : tq_sh0 a0 = 7) {out : tq_PI} (hf : FX7_blame I L a0 a1 a2 = out) : tq_K S mX7_blame d [.ref a0, .int a1, .int a2] I L (tq_one2 (none) out L) := by
  unfold FX7_blame at hf
  refine tq_K_of (by decide) (Nat.le_of_ble_eq_true rfl) (ls := [.ref a0, .int a1, .int a2]) rfl ?_
  refine tq_aload_n rX7_blame_0 rfl ?_
  refine ty_getI rX7_blame_1 f_X7_64 rfl h0 ?_
  refine tq_if_ne rX7_blame_4 (fun c1 => ?_) (fun c1 => ?_)
  · rw [if_neg c1] at hf
    refine ty_vret rX7_blame_17 rfl rfl ?_
    subst hf
    exact ⟨rfl, rfl, rfl⟩
  · rw [if_pos c1] at hf
    refine tq_aload_n rX7_blame_7 rfl ?_
    refine tq_iload_n rX7_blame_8 rfl ?_
    refine ty_putI rX7_blame_9 f_X7_64 rfl h0 rfl ?_
    refine tq_aload_n rX7_blame_12 rfl ?_
    refine tq_iload_n rX7_blame_13 rfl ?_
    refine ty_putI rX7_blame_14 f_X7_67 rfl h0 rfl ?_
    refine ty_vret rX7_blame_17 rfl rfl ?_
    subst hf
    exact ⟨rfl, rfl, rfl⟩

abbrev mX7_numbersOf : tq_M := (yX7_numbersOf, cX7_numbersOf, 2, (Option.some Jvm.ClassFile.FieldType.int), 0, 0)
theorem rX7_numbersOf_0 : tq_D cX7_numbersOf 0 (.iload_n 0) 1 1 := ⟨by decide +kernel, rfl⟩
theorem rX7_numbersOf_1 : tq_D cX7_numbersOf 1 (.iconst 2) 1 2 := ⟨by decide +kernel, rfl⟩
theorem rX7_numbersOf_2 : tq_J cX7_numbersOf 2 (.if_icmp .ne) 7 5 := ⟨5, by decide +kernel, by decide, rfl⟩
theorem rX7_numbersOf_5 : tq_D cX7_numbersOf 5 (.iconst 3) 1 6 := ⟨by decide +kernel, rfl⟩
theorem rX7_numbersOf_6 : decode cX7_numbersOf 6 = .ok (.ireturn, 1) := by decide +kernel
theorem rX7_numbersOf_7 : tq_D cX7_numbersOf 7 (.iload_n 0) 1 8 := ⟨by decide +kernel, rfl⟩
theorem rX7_numbersOf_8 : tq_D cX7_numbersOf 8 (.iconst 3) 1 9 := ⟨by decide +kernel, rfl⟩
theorem rX7_numbersOf_9 : tq_J cX7_numbersOf 9 (.if_icmp .eq) 22 12 := ⟨13, by decide +kernel, by decide, rfl⟩
theorem rX7_numbersOf_12 : tq_D cX7_numbersOf 12 (.iload_n 0) 1 13 := ⟨by decide +kernel, rfl⟩
theorem rX7_numbersOf_13 : tq_D cX7_numbersOf 13 (.iconst 1) 1 14 := ⟨by decide +kernel, rfl⟩
theorem rX7_numbersOf_14 : tq_J cX7_numbersOf 14 (.if_icmp .ne) 26 17 := ⟨12, by decide +kernel, by decide, rfl⟩
theorem rX7_numbersOf_17 : tq_D cX7_numbersOf 17 (.iload_n 1) 1 18 := ⟨by decide +kernel, rfl⟩
theorem rX7_numbersOf_18 : tq_D cX7_numbersOf 18 (.iconst 3) 1 19 := ⟨by decide +kernel, rfl⟩
theorem rX7_numbersOf_19 : tq_J cX7_numbersOf 19 (.if_icmp .ne) 26 22 := ⟨7, by decide +kernel, by decide, rfl⟩
theorem rX7_numbersOf_22 : tq_D cX7_numbersOf 22 (.iconst 1) 1 23 := ⟨by decide +kernel, rfl⟩
theorem rX7_numbersOf_23 : tq_J cX7_numbersOf 23 .goto 27 26 := ⟨4, by decide +kernel, by decide, rfl⟩
theorem rX7_numbersOf_26 : tq_D cX7_numbersOf 26 (.iconst 2) 1 27 := ⟨by decide +kernel, rfl⟩
theorem rX7_numbersOf_27 : decode cX7_numbersOf 27 = .ok (.ireturn, 1) := by decide +kernel
noncomputable def FX7_numbersOf_j22 (I : tq_PI) (L : tq_PL)  : Int32 :=
  (1 : Int32)
noncomputable def FX7_numbersOf_j26 (I : tq_PI) (L : tq_PL)  : Int32 :=
  (2 : Int32)
noncomputable def FX7_numbersOf (I : tq_PI) (L : tq_PL) (a0 : Int32) (a1 : Int32) : Int32 :=
  (if a0 = (2 : Int32) then (3 : Int32) else (if a0 = (3 : Int32) then (FX7_numbersOf_j22 I L ) else (if a0 = (1 : Int32) then (if a1 = (3 : Int32) then (FX7_numbersOf_j22 I L ) else (FX7_numbersOf_j26 I L )) else (FX7_numbersOf_j26 I L ))))
set_option maxRecDepth 100000 in
set_option maxHeartbeats 4000000 in
theorem FX7_numbersOf_j22_x {S : Nat × (Nat → Int32)} {d : Nat} {I : tq_PI} {L : tq_PL}   {q0 : Option Value → tq_PI → tq_PL → Prop} {out : Int32} (hf : FX7_numbersOf_j22 I L = out) (hk : q0 (some (.int out)) I L) : tq_X S mX7_numbersOf d tq_k0 22 ([tq_u, tq_u]) ([]) (tq_st I L) (tq_Q q0) := by
  unfold FX7_numbersOf_j22 at hf
  refine tq_iconst (1 : Int32) rX7_numbersOf_22 (by decide) ?_
  refine tq_goto rX7_numbersOf_23 ?_
  refine ty_iret rX7_numbersOf_27 rfl rfl ?_
  subst hf
  exact hk

set_option maxRecDepth 100000 in
set_option maxHeartbeats 4000000 in
theorem FX7_numbersOf_j26_x {S : Nat × (Nat → Int32)} {d : Nat} {I : tq_PI} {L : tq_PL}   {q0 : Option Value → tq_PI → tq_PL → Prop} {out : Int32} (hf : FX7_numbersOf_j26 I L = out) (hk : q0 (some (.int out)) I L) : tq_X S mX7_numbersOf d tq_k0 26 ([tq_u, tq_u]) ([]) (tq_st I L) (tq_Q q0) := by
  unfold FX7_numbersOf_j26 at hf
  refine tq_iconst (2 : Int32) rX7_numbersOf_26 (by decide) ?_
  refine ty_iret rX7_numbersOf_27 rfl rfl ?_
  subst hf
  exact hk

set_option maxRecDepth 100000 in
set_option maxHeartbeats 4000000 in
theorem CX7_numbersOf {S : Nat × (Nat → Int32)} {d : Nat} {I : tq_PI} {L : tq_PL} {a0 : Int32} {a1 : Int32}  {out : Int32} (hf : FX7_numbersOf I L a0 a1 = out) : tq_K S mX7_numbersOf d [.int a0, .int a1] I L (tq_one2 (some (.int out)) I L) := by
  unfold FX7_numbersOf at hf
  refine tq_K_of (by decide) (Nat.le_of_ble_eq_true rfl) (ls := [.int a0, .int a1]) rfl ?_
  refine tq_iload_n rX7_numbersOf_0 rfl ?_
  refine tq_iconst (2 : Int32) rX7_numbersOf_1 (by decide) ?_
  refine tq_icmp_ne rX7_numbersOf_2 (fun c1 => ?_) (fun c1 => ?_)
  · rw [if_neg c1] at hf
    refine tq_iload_n rX7_numbersOf_7 rfl ?_
    refine tq_iconst (3 : Int32) rX7_numbersOf_8 (by decide) ?_
    refine tq_icmp_eq rX7_numbersOf_9 (fun c2 => ?_) (fun c2 => ?_)
    · rw [if_pos c2] at hf
      exact tq_forget _ (tq_le_u (tq_le_u tq_le_n)) (FX7_numbersOf_j22_x   hf ⟨rfl, rfl, rfl⟩)
    · rw [if_neg c2] at hf
      refine tq_iload_n rX7_numbersOf_12 rfl ?_
      refine tq_iconst (1 : Int32) rX7_numbersOf_13 (by decide) ?_
      refine tq_icmp_ne rX7_numbersOf_14 (fun c3 => ?_) (fun c3 => ?_)
      · rw [if_neg c3] at hf
        exact tq_forget _ (tq_le_u (tq_le_u tq_le_n)) (FX7_numbersOf_j26_x   hf ⟨rfl, rfl, rfl⟩)
      · rw [if_pos c3] at hf
        refine tq_iload_n rX7_numbersOf_17 rfl ?_
        refine tq_iconst (3 : Int32) rX7_numbersOf_18 (by decide) ?_
        refine tq_icmp_ne rX7_numbersOf_19 (fun c4 => ?_) (fun c4 => ?_)
        · rw [if_neg c4] at hf
          exact tq_forget _ (tq_le_u (tq_le_u tq_le_n)) (FX7_numbersOf_j26_x   hf ⟨rfl, rfl, rfl⟩)
        · rw [if_pos c4] at hf
          exact tq_forget _ (tq_le_u (tq_le_u tq_le_n)) (FX7_numbersOf_j22_x   hf ⟨rfl, rfl, rfl⟩)
  · rw [if_pos c1] at hf
    refine tq_iconst (3 : Int32) rX7_numbersOf_5 (by decide) ?_
    refine ty_iret rX7_numbersOf_6 rfl rfl ?_
    subst hf
    exact ⟨rfl, rfl, rfl⟩

abbrev mX7_mayBe : tq_M := (yX7_mayBe, cX7_mayBe, 4, (Option.some Jvm.ClassFile.FieldType.boolean), 0, 0)
theorem rX7_mayBe_0 : tq_D cX7_mayBe 0 (.iload_n 1) 1 1 := ⟨by decide +kernel, rfl⟩
theorem rX7_mayBe_1 : tq_D cX7_mayBe 1 (.iconst 3) 1 2 := ⟨by decide +kernel, rfl⟩
theorem rX7_mayBe_2 : tq_J cX7_mayBe 2 (.if_icmp .ne) 7 5 := ⟨5, by decide +kernel, by decide, rfl⟩
theorem rX7_mayBe_5 : tq_D cX7_mayBe 5 (.iconst 1) 1 6 := ⟨by decide +kernel, rfl⟩
theorem rX7_mayBe_6 : decode cX7_mayBe 6 = .ok (.ireturn, 1) := by decide +kernel
theorem rX7_mayBe_7 : tq_D cX7_mayBe 7 (.iload_n 1) 1 8 := ⟨by decide +kernel, rfl⟩
theorem rX7_mayBe_8 : tq_J cX7_mayBe 8 (.ifCond .ne) 48 11 := ⟨40, by decide +kernel, by decide, rfl⟩
theorem rX7_mayBe_11 : tq_D cX7_mayBe 11 (.iload_n 2) 1 12 := ⟨by decide +kernel, rfl⟩
theorem rX7_mayBe_12 : tq_D cX7_mayBe 12 (.iconst 5) 1 13 := ⟨by decide +kernel, rfl⟩
theorem rX7_mayBe_13 : tq_J cX7_mayBe 13 (.if_icmp .ne) 48 16 := ⟨35, by decide +kernel, by decide, rfl⟩
theorem rX7_mayBe_16 : tq_D cX7_mayBe 16 (.aload_n 0) 1 17 := ⟨by decide +kernel, rfl⟩
theorem rX7_mayBe_17 : tq_D cX7_mayBe 17 (.getfield 61) 3 20 := ⟨by decide +kernel, rfl⟩
theorem rX7_mayBe_20 : tq_D cX7_mayBe 20 (.iconst 2) 1 21 := ⟨by decide +kernel, rfl⟩
theorem rX7_mayBe_21 : tq_J cX7_mayBe 21 (.if_icmp .lt) 46 24 := ⟨25, by decide +kernel, by decide, rfl⟩
theorem rX7_mayBe_24 : tq_D cX7_mayBe 24 (.aload_n 0) 1 25 := ⟨by decide +kernel, rfl⟩
theorem rX7_mayBe_25 : tq_D cX7_mayBe 25 (.getfield 61) 3 28 := ⟨by decide +kernel, rfl⟩
theorem rX7_mayBe_28 : tq_D cX7_mayBe 28 (.iload_n 3) 1 29 := ⟨by decide +kernel, rfl⟩
theorem rX7_mayBe_29 : tq_J cX7_mayBe 29 (.ifCond .ne) 37 32 := ⟨8, by decide +kernel, by decide, rfl⟩
theorem rX7_mayBe_32 : tq_D cX7_mayBe 32 (.bipush 8) 2 34 := ⟨by decide +kernel, rfl⟩
theorem rX7_mayBe_34 : tq_J cX7_mayBe 34 .goto 39 37 := ⟨5, by decide +kernel, by decide, rfl⟩
theorem rX7_mayBe_37 : tq_D cX7_mayBe 37 (.bipush 6) 2 39 := ⟨by decide +kernel, rfl⟩
theorem rX7_mayBe_39 : tq_J cX7_mayBe 39 (.if_icmp .gt) 46 42 := ⟨7, by decide +kernel, by decide, rfl⟩
theorem rX7_mayBe_42 : tq_D cX7_mayBe 42 (.iconst 1) 1 43 := ⟨by decide +kernel, rfl⟩
theorem rX7_mayBe_43 : tq_J cX7_mayBe 43 .goto 47 46 := ⟨4, by decide +kernel, by decide, rfl⟩
theorem rX7_mayBe_46 : tq_D cX7_mayBe 46 (.iconst 0) 1 47 := ⟨by decide +kernel, rfl⟩
theorem rX7_mayBe_47 : decode cX7_mayBe 47 = .ok (.ireturn, 1) := by decide +kernel
theorem rX7_mayBe_48 : tq_D cX7_mayBe 48 (.iload_n 1) 1 49 := ⟨by decide +kernel, rfl⟩
theorem rX7_mayBe_49 : tq_D cX7_mayBe 49 (.iconst 1) 1 50 := ⟨by decide +kernel, rfl⟩
theorem rX7_mayBe_50 : tq_J cX7_mayBe 50 (.if_icmp .ne) 73 53 := ⟨23, by decide +kernel, by decide, rfl⟩
theorem rX7_mayBe_53 : tq_D cX7_mayBe 53 (.iload_n 2) 1 54 := ⟨by decide +kernel, rfl⟩
theorem rX7_mayBe_54 : tq_D cX7_mayBe 54 (.iconst 3) 1 55 := ⟨by decide +kernel, rfl⟩
theorem rX7_mayBe_55 : tq_J cX7_mayBe 55 (.if_icmp .ne) 73 58 := ⟨18, by decide +kernel, by decide, rfl⟩
theorem rX7_mayBe_58 : tq_D cX7_mayBe 58 (.aload_n 0) 1 59 := ⟨by decide +kernel, rfl⟩
theorem rX7_mayBe_59 : tq_D cX7_mayBe 59 (.getfield 61) 3 62 := ⟨by decide +kernel, rfl⟩
theorem rX7_mayBe_62 : tq_D cX7_mayBe 62 (.bipush 20) 2 64 := ⟨by decide +kernel, rfl⟩
theorem rX7_mayBe_64 : tq_J cX7_mayBe 64 (.if_icmp .gt) 71 67 := ⟨7, by decide +kernel, by decide, rfl⟩
theorem rX7_mayBe_67 : tq_D cX7_mayBe 67 (.iconst 1) 1 68 := ⟨by decide +kernel, rfl⟩
theorem rX7_mayBe_68 : tq_J cX7_mayBe 68 .goto 72 71 := ⟨4, by decide +kernel, by decide, rfl⟩
theorem rX7_mayBe_71 : tq_D cX7_mayBe 71 (.iconst 0) 1 72 := ⟨by decide +kernel, rfl⟩
theorem rX7_mayBe_72 : decode cX7_mayBe 72 = .ok (.ireturn, 1) := by decide +kernel
theorem rX7_mayBe_73 : tq_D cX7_mayBe 73 (.iload_n 3) 1 74 := ⟨by decide +kernel, rfl⟩
theorem rX7_mayBe_74 : tq_D cX7_mayBe 74 (.iconst 2) 1 75 := ⟨by decide +kernel, rfl⟩
theorem rX7_mayBe_75 : tq_J cX7_mayBe 75 (.if_icmp .ne) 93 78 := ⟨18, by decide +kernel, by decide, rfl⟩
theorem rX7_mayBe_78 : tq_D cX7_mayBe 78 (.aload_n 0) 1 79 := ⟨by decide +kernel, rfl⟩
theorem rX7_mayBe_79 : tq_D cX7_mayBe 79 (.getfield 61) 3 82 := ⟨by decide +kernel, rfl⟩
theorem rX7_mayBe_82 : tq_D cX7_mayBe 82 (.bipush 9) 2 84 := ⟨by decide +kernel, rfl⟩
theorem rX7_mayBe_84 : tq_J cX7_mayBe 84 (.if_icmp .gt) 91 87 := ⟨7, by decide +kernel, by decide, rfl⟩
theorem rX7_mayBe_87 : tq_D cX7_mayBe 87 (.iconst 1) 1 88 := ⟨by decide +kernel, rfl⟩
theorem rX7_mayBe_88 : tq_J cX7_mayBe 88 .goto 92 91 := ⟨4, by decide +kernel, by decide, rfl⟩
theorem rX7_mayBe_91 : tq_D cX7_mayBe 91 (.iconst 0) 1 92 := ⟨by decide +kernel, rfl⟩
theorem rX7_mayBe_92 : decode cX7_mayBe 92 = .ok (.ireturn, 1) := by decide +kernel
theorem rX7_mayBe_93 : tq_D cX7_mayBe 93 (.aload_n 0) 1 94 := ⟨by decide +kernel, rfl⟩
theorem rX7_mayBe_94 : tq_D cX7_mayBe 94 (.getfield 61) 3 97 := ⟨by decide +kernel, rfl⟩
theorem rX7_mayBe_97 : tq_D cX7_mayBe 97 (.iload_n 3) 1 98 := ⟨by decide +kernel, rfl⟩
theorem rX7_mayBe_98 : tq_J cX7_mayBe 98 (.ifCond .ne) 106 101 := ⟨8, by decide +kernel, by decide, rfl⟩
theorem rX7_mayBe_101 : tq_D cX7_mayBe 101 (.bipush 8) 2 103 := ⟨by decide +kernel, rfl⟩
theorem rX7_mayBe_103 : tq_J cX7_mayBe 103 .goto 108 106 := ⟨5, by decide +kernel, by decide, rfl⟩
theorem rX7_mayBe_106 : tq_D cX7_mayBe 106 (.bipush 6) 2 108 := ⟨by decide +kernel, rfl⟩
theorem rX7_mayBe_108 : tq_J cX7_mayBe 108 (.if_icmp .ge) 115 111 := ⟨7, by decide +kernel, by decide, rfl⟩
theorem rX7_mayBe_111 : tq_D cX7_mayBe 111 (.iconst 1) 1 112 := ⟨by decide +kernel, rfl⟩
theorem rX7_mayBe_112 : tq_J cX7_mayBe 112 .goto 116 115 := ⟨4, by decide +kernel, by decide, rfl⟩
theorem rX7_mayBe_115 : tq_D cX7_mayBe 115 (.iconst 0) 1 116 := ⟨by decide +kernel, rfl⟩
theorem rX7_mayBe_116 : decode cX7_mayBe 116 = .ok (.ireturn, 1) := by decide +kernel
noncomputable def FX7_mayBe_j108 (I : tq_PI) (L : tq_PL) (b0 : Int32) (b1 : Int32) : Bool :=
  (if b0 ≤ b1 then false else true)
noncomputable def FX7_mayBe_j73 (I : tq_PI) (L : tq_PL) (a0 : Nat) (a3 : Int32) : Bool :=
  (if a3 = (2 : Int32) then (if (9 : Int32) < (I a0 10) then false else true) else (if a3 = 0 then (FX7_mayBe_j108 I L ((8 : Int32)) ((I a0 10))) else (FX7_mayBe_j108 I L ((6 : Int32)) ((I a0 10)))))
noncomputable def FX7_mayBe_j48 (I : tq_PI) (L : tq_PL) (a0 : Nat) (a1 : Int32) (a2 : Int32) (a3 : Int32) : Bool :=
  (if a1 = (1 : Int32) then (if a2 = (3 : Int32) then (if (20 : Int32) < (I a0 10) then false else true) else (FX7_mayBe_j73 I L a0 a3)) else (FX7_mayBe_j73 I L a0 a3))
noncomputable def FX7_mayBe_j46 (I : tq_PI) (L : tq_PL)  : Bool :=
  false
noncomputable def FX7_mayBe_j39 (I : tq_PI) (L : tq_PL) (b0 : Int32) (b1 : Int32) : Bool :=
  (if b0 < b1 then (FX7_mayBe_j46 I L ) else true)
noncomputable def FX7_mayBe (I : tq_PI) (L : tq_PL) (a0 : Nat) (a1 : Int32) (a2 : Int32) (a3 : Int32) : Bool :=
  (if a1 = (3 : Int32) then true else (if a1 = 0 then (if a2 = (5 : Int32) then (if (I a0 10) < (2 : Int32) then (FX7_mayBe_j46 I L ) else (if a3 = 0 then (FX7_mayBe_j39 I L ((8 : Int32)) ((I a0 10))) else (FX7_mayBe_j39 I L ((6 : Int32)) ((I a0 10))))) else (FX7_mayBe_j48 I L a0 a1 a2 a3)) else (FX7_mayBe_j48 I L a0 a1 a2 a3)))
set_option maxRecDepth 100000 in
set_option maxHeartbeats 4000000 in
theorem FX7_mayBe_j108_x {S : Nat × (Nat → Int32)} {d : Nat} {I : tq_PI} {L : tq_PL} {b0 : Int32} {b1 : Int32}  {q0 : Option Value → tq_PI → tq_PL → Prop} {out : Bool} (hf : FX7_mayBe_j108 I L b0 b1 = out) (hk : q0 (some (.int (tq_b out))) I L) : tq_X S mX7_mayBe d tq_k0 108 ([tq_u, tq_u, tq_u, tq_u]) ([.int b0, .int b1]) (tq_st I L) (tq_Q q0) := by
  unfold FX7_mayBe_j108 at hf
  refine tq_icmp_ge rX7_mayBe_108 (fun c6 => ?_) (fun c6 => ?_)
  · rw [if_pos c6] at hf
    refine tq_iconst (0 : Int32) rX7_mayBe_115 (by decide) ?_
    refine ty_zret (ty := .boolean) rX7_mayBe_116 rfl rfl rfl ?_
    subst hf
    exact hk
  · rw [if_neg c6] at hf
    refine tq_iconst (1 : Int32) rX7_mayBe_111 (by decide) ?_
    refine tq_goto rX7_mayBe_112 ?_
    refine ty_zret (ty := .boolean) rX7_mayBe_116 rfl rfl rfl ?_
    subst hf
    exact hk

set_option maxRecDepth 100000 in
set_option maxHeartbeats 4000000 in
theorem FX7_mayBe_j73_x {S : Nat × (Nat → Int32)} {d : Nat} {I : tq_PI} {L : tq_PL} {a0 : Nat} {a3 : Int32} (h0 : tq_sh0 a0 = 7) {q0 : Option Value → tq_PI → tq_PL → Prop} {out : Bool} (hf : FX7_mayBe_j73 I L a0 a3 = out) (hk : q0 (some (.int (tq_b out))) I L) : tq_X S mX7_mayBe d tq_k0 73 ([.ref a0, tq_u, tq_u, .int a3]) ([]) (tq_st I L) (tq_Q q0) := by
  unfold FX7_mayBe_j73 at hf
  refine tq_iload_n rX7_mayBe_73 rfl ?_
  refine tq_iconst (2 : Int32) rX7_mayBe_74 (by decide) ?_
  refine tq_icmp_ne rX7_mayBe_75 (fun c4 => ?_) (fun c4 => ?_)
  · rw [if_neg c4] at hf
    refine tq_aload_n rX7_mayBe_93 rfl ?_
    refine ty_getI rX7_mayBe_94 f_X7_61 rfl h0 ?_
    refine tq_iload_n rX7_mayBe_97 rfl ?_
    refine tq_if_ne rX7_mayBe_98 (fun c5 => ?_) (fun c5 => ?_)
    · rw [if_neg c5] at hf
      refine tq_bipush (6 : Int32) rX7_mayBe_106 (by decide) ?_
      exact tq_forget _ (tq_le_u (tq_le_u (tq_le_u (tq_le_u tq_le_n)))) (FX7_mayBe_j108_x   hf hk)
    · rw [if_pos c5] at hf
      refine tq_bipush (8 : Int32) rX7_mayBe_101 (by decide) ?_
      refine tq_goto rX7_mayBe_103 ?_
      exact tq_forget _ (tq_le_u (tq_le_u (tq_le_u (tq_le_u tq_le_n)))) (FX7_mayBe_j108_x   hf hk)
  · rw [if_pos c4] at hf
    refine tq_aload_n rX7_mayBe_78 rfl ?_
    refine ty_getI rX7_mayBe_79 f_X7_61 rfl h0 ?_
    refine tq_bipush (9 : Int32) rX7_mayBe_82 (by decide) ?_
    refine tq_icmp_gt rX7_mayBe_84 (fun c7 => ?_) (fun c7 => ?_)
    · rw [if_pos c7] at hf
      refine tq_iconst (0 : Int32) rX7_mayBe_91 (by decide) ?_
      refine ty_zret (ty := .boolean) rX7_mayBe_92 rfl rfl rfl ?_
      subst hf
      exact hk
    · rw [if_neg c7] at hf
      refine tq_iconst (1 : Int32) rX7_mayBe_87 (by decide) ?_
      refine tq_goto rX7_mayBe_88 ?_
      refine ty_zret (ty := .boolean) rX7_mayBe_92 rfl rfl rfl ?_
      subst hf
      exact hk

set_option maxRecDepth 100000 in
set_option maxHeartbeats 4000000 in
theorem FX7_mayBe_j48_x {S : Nat × (Nat → Int32)} {d : Nat} {I : tq_PI} {L : tq_PL} {a0 : Nat} {a1 : Int32} {a2 : Int32} {a3 : Int32} (h0 : tq_sh0 a0 = 7) {q0 : Option Value → tq_PI → tq_PL → Prop} {out : Bool} (hf : FX7_mayBe_j48 I L a0 a1 a2 a3 = out) (hk : q0 (some (.int (tq_b out))) I L) : tq_X S mX7_mayBe d tq_k0 48 ([.ref a0, .int a1, .int a2, .int a3]) ([]) (tq_st I L) (tq_Q q0) := by
  unfold FX7_mayBe_j48 at hf
  refine tq_iload_n rX7_mayBe_48 rfl ?_
  refine tq_iconst (1 : Int32) rX7_mayBe_49 (by decide) ?_
  refine tq_icmp_ne rX7_mayBe_50 (fun c3 => ?_) (fun c3 => ?_)
  · rw [if_neg c3] at hf
    exact tq_forget _ (tq_le_s (tq_le_u (tq_le_u (tq_le_s tq_le_n)))) (FX7_mayBe_j73_x  h0 hf hk)
  · rw [if_pos c3] at hf
    refine tq_iload_n rX7_mayBe_53 rfl ?_
    refine tq_iconst (3 : Int32) rX7_mayBe_54 (by decide) ?_
    refine tq_icmp_ne rX7_mayBe_55 (fun c8 => ?_) (fun c8 => ?_)
    · rw [if_neg c8] at hf
      exact tq_forget _ (tq_le_s (tq_le_u (tq_le_u (tq_le_s tq_le_n)))) (FX7_mayBe_j73_x  h0 hf hk)
    · rw [if_pos c8] at hf
      refine tq_aload_n rX7_mayBe_58 rfl ?_
      refine ty_getI rX7_mayBe_59 f_X7_61 rfl h0 ?_
      refine tq_bipush (20 : Int32) rX7_mayBe_62 (by decide) ?_
      refine tq_icmp_gt rX7_mayBe_64 (fun c9 => ?_) (fun c9 => ?_)
      · rw [if_pos c9] at hf
        refine tq_iconst (0 : Int32) rX7_mayBe_71 (by decide) ?_
        refine ty_zret (ty := .boolean) rX7_mayBe_72 rfl rfl rfl ?_
        subst hf
        exact hk
      · rw [if_neg c9] at hf
        refine tq_iconst (1 : Int32) rX7_mayBe_67 (by decide) ?_
        refine tq_goto rX7_mayBe_68 ?_
        refine ty_zret (ty := .boolean) rX7_mayBe_72 rfl rfl rfl ?_
        subst hf
        exact hk

set_option maxRecDepth 100000 in
set_option maxHeartbeats 4000000 in
theorem FX7_mayBe_j46_x {S : Nat × (Nat → Int32)} {d : Nat} {I : tq_PI} {L : tq_PL}   {q0 : Option Value → tq_PI → tq_PL → Prop} {out : Bool} (hf : FX7_mayBe_j46 I L = out) (hk : q0 (some (.int (tq_b out))) I L) : tq_X S mX7_mayBe d tq_k0 46 ([tq_u, tq_u, tq_u, tq_u]) ([]) (tq_st I L) (tq_Q q0) := by
  unfold FX7_mayBe_j46 at hf
  refine tq_iconst (0 : Int32) rX7_mayBe_46 (by decide) ?_
  refine ty_zret (ty := .boolean) rX7_mayBe_47 rfl rfl rfl ?_
  subst hf
  exact hk

set_option maxRecDepth 100000 in
set_option maxHeartbeats 4000000 in
theorem FX7_mayBe_j39_x {S : Nat × (Nat → Int32)} {d : Nat} {I : tq_PI} {L : tq_PL} {b0 : Int32} {b1 : Int32}  {q0 : Option Value → tq_PI → tq_PL → Prop} {out : Bool} (hf : FX7_mayBe_j39 I L b0 b1 = out) (hk : q0 (some (.int (tq_b out))) I L) : tq_X S mX7_mayBe d tq_k0 39 ([tq_u, tq_u, tq_u, tq_u]) ([.int b0, .int b1]) (tq_st I L) (tq_Q q0) := by
  unfold FX7_mayBe_j39 at hf
  refine tq_icmp_gt rX7_mayBe_39 (fun c13 => ?_) (fun c13 => ?_)
  · rw [if_pos c13] at hf
    exact tq_forget _ (tq_le_u (tq_le_u (tq_le_u (tq_le_u tq_le_n)))) (FX7_mayBe_j46_x   hf hk)
  · rw [if_neg c13] at hf
    refine tq_iconst (1 : Int32) rX7_mayBe_42 (by decide) ?_
    refine tq_goto rX7_mayBe_43 ?_
    refine ty_zret (ty := .boolean) rX7_mayBe_47 rfl rfl rfl ?_
    subst hf
    exact hk

set_option maxRecDepth 100000 in
set_option maxHeartbeats 4000000 in
theorem CX7_mayBe {S : Nat × (Nat → Int32)} {d : Nat} {I : tq_PI} {L : tq_PL} {a0 : Nat} {a1 : Int32} {a2 : Int32} {a3 : Int32} (h0 : tq_sh0 a0 = 7) {out : Bool} (hf : FX7_mayBe I L a0 a1 a2 a3 = out) : tq_K S mX7_mayBe d [.ref a0, .int a1, .int a2, .int a3] I L (tq_one2 (some (.int (tq_b out))) I L) := by
  unfold FX7_mayBe at hf
  refine tq_K_of (by decide) (Nat.le_of_ble_eq_true rfl) (ls := [.ref a0, .int a1, .int a2, .int a3]) rfl ?_
  refine tq_iload_n rX7_mayBe_0 rfl ?_
  refine tq_iconst (3 : Int32) rX7_mayBe_1 (by decide) ?_
  refine tq_icmp_ne rX7_mayBe_2 (fun c1 => ?_) (fun c1 => ?_)
  · rw [if_neg c1] at hf
    refine tq_iload_n rX7_mayBe_7 rfl ?_
    refine tq_if_ne rX7_mayBe_8 (fun c2 => ?_) (fun c2 => ?_)
    · rw [if_neg c2] at hf
      exact tq_forget _ (tq_le_s (tq_le_s (tq_le_s (tq_le_s tq_le_n)))) (FX7_mayBe_j48_x  h0 hf ⟨rfl, rfl, rfl⟩)
    · rw [if_pos c2] at hf
      refine tq_iload_n rX7_mayBe_11 rfl ?_
      refine tq_iconst (5 : Int32) rX7_mayBe_12 (by decide) ?_
      refine tq_icmp_ne rX7_mayBe_13 (fun c10 => ?_) (fun c10 => ?_)
      · rw [if_neg c10] at hf
        exact tq_forget _ (tq_le_s (tq_le_s (tq_le_s (tq_le_s tq_le_n)))) (FX7_mayBe_j48_x  h0 hf ⟨rfl, rfl, rfl⟩)
      · rw [if_pos c10] at hf
        refine tq_aload_n rX7_mayBe_16 rfl ?_
        refine ty_getI rX7_mayBe_17 f_X7_61 rfl h0 ?_
        refine tq_iconst (2 : Int32) rX7_mayBe_20 (by decide) ?_
        refine tq_icmp_lt rX7_mayBe_21 (fun c11 => ?_) (fun c11 => ?_)
        · rw [if_pos c11] at hf
          exact tq_forget _ (tq_le_u (tq_le_u (tq_le_u (tq_le_u tq_le_n)))) (FX7_mayBe_j46_x   hf ⟨rfl, rfl, rfl⟩)
        · rw [if_neg c11] at hf
          refine tq_aload_n rX7_mayBe_24 rfl ?_
          refine ty_getI rX7_mayBe_25 f_X7_61 rfl h0 ?_
          refine tq_iload_n rX7_mayBe_28 rfl ?_
          refine tq_if_ne rX7_mayBe_29 (fun c12 => ?_) (fun c12 => ?_)
          · rw [if_neg c12] at hf
            refine tq_bipush (6 : Int32) rX7_mayBe_37 (by decide) ?_
            exact tq_forget _ (tq_le_u (tq_le_u (tq_le_u (tq_le_u tq_le_n)))) (FX7_mayBe_j39_x   hf ⟨rfl, rfl, rfl⟩)
          · rw [if_pos c12] at hf
            refine tq_bipush (8 : Int32) rX7_mayBe_32 (by decide) ?_
            refine tq_goto rX7_mayBe_34 ?_
            exact tq_forget _ (tq_le_u (tq_le_u (tq_le_u (tq_le_u tq_le_n)))) (FX7_mayBe_j39_x   hf ⟨rfl, rfl, rfl⟩)
  · rw [if_pos c1] at hf
    refine tq_iconst (1 : Int32) rX7_mayBe_5 (by decide) ?_
    refine ty_zret (ty := .boolean) rX7_mayBe_6 rfl rfl rfl ?_
    subst hf
    exact ⟨rfl, rfl, rfl⟩

abbrev mX7_tellOfHill : tq_M := (yX7_tellOfHill, cX7_tellOfHill, 4, (Option.none : Option Jvm.ClassFile.FieldType), 0, 0)
theorem moX3_put : tq_mok mX3_put 2 := ⟨tq_sg1 _ (List.mem_of_getElem? (i := 3) rfl), tq_sg3 _ (List.mem_of_getElem? (i := 88) rfl), ⟨by decide, by decide, by decide +kernel⟩, by decide⟩
theorem mvX3_put : 3 < 13 ∧ (tq_cl 3).1 = mX3_put.1.cls ∧ Cond.instanceMethod mX3_put.1 ∈ lw_tbl ∧ Cond.selects mX3_put.1.cls mX3_put.1 mX3_put.1 ∈ lw_tbl := ⟨by decide, rfl, tq_sg3 _ (List.mem_of_getElem? (i := 86) rfl), tq_sg3 _ (List.mem_of_getElem? (i := 87) rfl)⟩
theorem f_X7_43 : tq_fok RX7 43 7 5 := ⟨by decide, by decide, Or.inl (tq_sg1 _ (List.mem_of_getElem? (i := 195) rfl))⟩
theorem l_X7_123 : tq_lok RX7 123 mX3_put.1 := Or.inl (tq_sg3 _ (List.mem_of_getElem? (i := 85) rfl))
theorem rX7_tellOfHill_0 : tq_D cX7_tellOfHill 0 (.aload_n 0) 1 1 := ⟨by decide +kernel, rfl⟩
theorem rX7_tellOfHill_1 : tq_D cX7_tellOfHill 1 (.getfield 64) 3 4 := ⟨by decide +kernel, rfl⟩
theorem rX7_tellOfHill_4 : tq_J cX7_tellOfHill 4 (.ifCond .eq) 8 7 := ⟨4, by decide +kernel, by decide, rfl⟩
theorem rX7_tellOfHill_7 : decode cX7_tellOfHill 7 = .ok (.return_, 1) := by decide +kernel
theorem rX7_tellOfHill_8 : tq_D cX7_tellOfHill 8 (.iload_n 1) 1 9 := ⟨by decide +kernel, rfl⟩
theorem rX7_tellOfHill_9 : tq_D cX7_tellOfHill 9 (.iconst 5) 1 10 := ⟨by decide +kernel, rfl⟩
theorem rX7_tellOfHill_10 : tq_J cX7_tellOfHill 10 (.if_icmp .ne) 33 13 := ⟨23, by decide +kernel, by decide, rfl⟩
theorem rX7_tellOfHill_13 : tq_D cX7_tellOfHill 13 (.aload_n 0) 1 14 := ⟨by decide +kernel, rfl⟩
theorem rX7_tellOfHill_14 : tq_D cX7_tellOfHill 14 (.getfield 18) 3 17 := ⟨by decide +kernel, rfl⟩
theorem rX7_tellOfHill_17 : tq_D cX7_tellOfHill 17 (.aload_n 0) 1 18 := ⟨by decide +kernel, rfl⟩
theorem rX7_tellOfHill_18 : tq_D cX7_tellOfHill 18 (.getfield 43) 3 21 := ⟨by decide +kernel, rfl⟩
theorem rX7_tellOfHill_21 : tq_D cX7_tellOfHill 21 (.iconst 0) 1 22 := ⟨by decide +kernel, rfl⟩
theorem rX7_tellOfHill_22 : tq_D cX7_tellOfHill 22 (.iaload) 1 23 := ⟨by decide +kernel, rfl⟩
theorem rX7_tellOfHill_23 : tq_D cX7_tellOfHill 23 (.aload_n 0) 1 24 := ⟨by decide +kernel, rfl⟩
theorem rX7_tellOfHill_24 : tq_D cX7_tellOfHill 24 (.getfield 43) 3 27 := ⟨by decide +kernel, rfl⟩
theorem rX7_tellOfHill_27 : tq_D cX7_tellOfHill 27 (.iconst 1) 1 28 := ⟨by decide +kernel, rfl⟩
theorem rX7_tellOfHill_28 : tq_D cX7_tellOfHill 28 (.iaload) 1 29 := ⟨by decide +kernel, rfl⟩
theorem rX7_tellOfHill_29 : tq_D cX7_tellOfHill 29 (.invokevirtual 106) 3 32 := ⟨by decide +kernel, rfl⟩
theorem rX7_tellOfHill_32 : decode cX7_tellOfHill 32 = .ok (.return_, 1) := by decide +kernel
theorem rX7_tellOfHill_33 : tq_D cX7_tellOfHill 33 (.lconst 1) 1 34 := ⟨by decide +kernel, rfl⟩
theorem rX7_tellOfHill_34 : tq_D cX7_tellOfHill 34 (.bipush 8) 2 36 := ⟨by decide +kernel, rfl⟩
theorem rX7_tellOfHill_36 : tq_D cX7_tellOfHill 36 (.aload_n 0) 1 37 := ⟨by decide +kernel, rfl⟩
theorem rX7_tellOfHill_37 : tq_D cX7_tellOfHill 37 (.getfield 43) 3 40 := ⟨by decide +kernel, rfl⟩
theorem rX7_tellOfHill_40 : tq_D cX7_tellOfHill 40 (.iconst 1) 1 41 := ⟨by decide +kernel, rfl⟩
theorem rX7_tellOfHill_41 : tq_D cX7_tellOfHill 41 (.iaload) 1 42 := ⟨by decide +kernel, rfl⟩
theorem rX7_tellOfHill_42 : tq_D cX7_tellOfHill 42 (.imul) 1 43 := ⟨by decide +kernel, rfl⟩
theorem rX7_tellOfHill_43 : tq_D cX7_tellOfHill 43 (.aload_n 0) 1 44 := ⟨by decide +kernel, rfl⟩
theorem rX7_tellOfHill_44 : tq_D cX7_tellOfHill 44 (.getfield 43) 3 47 := ⟨by decide +kernel, rfl⟩
theorem rX7_tellOfHill_47 : tq_D cX7_tellOfHill 47 (.iconst 0) 1 48 := ⟨by decide +kernel, rfl⟩
theorem rX7_tellOfHill_48 : tq_D cX7_tellOfHill 48 (.iaload) 1 49 := ⟨by decide +kernel, rfl⟩
theorem rX7_tellOfHill_49 : tq_D cX7_tellOfHill 49 (.iadd) 1 50 := ⟨by decide +kernel, rfl⟩
theorem rX7_tellOfHill_50 : tq_D cX7_tellOfHill 50 (.lshl) 1 51 := ⟨by decide +kernel, rfl⟩
theorem rX7_tellOfHill_51 : tq_D cX7_tellOfHill 51 (.lstore_n 2) 1 52 := ⟨by decide +kernel, rfl⟩
theorem rX7_tellOfHill_52 : tq_D cX7_tellOfHill 52 (.aload_n 0) 1 53 := ⟨by decide +kernel, rfl⟩
theorem rX7_tellOfHill_53 : tq_D cX7_tellOfHill 53 (.dup) 1 54 := ⟨by decide +kernel, rfl⟩
theorem rX7_tellOfHill_54 : tq_D cX7_tellOfHill 54 (.getfield 47) 3 57 := ⟨by decide +kernel, rfl⟩
theorem rX7_tellOfHill_57 : tq_D cX7_tellOfHill 57 (.lload_n 2) 1 58 := ⟨by decide +kernel, rfl⟩
theorem rX7_tellOfHill_58 : tq_D cX7_tellOfHill 58 (.lor) 1 59 := ⟨by decide +kernel, rfl⟩
theorem rX7_tellOfHill_59 : tq_D cX7_tellOfHill 59 (.putfield 47) 3 62 := ⟨by decide +kernel, rfl⟩
theorem rX7_tellOfHill_62 : tq_D cX7_tellOfHill 62 (.aload_n 0) 1 63 := ⟨by decide +kernel, rfl⟩
theorem rX7_tellOfHill_63 : tq_D cX7_tellOfHill 63 (.getfield 18) 3 66 := ⟨by decide +kernel, rfl⟩
theorem rX7_tellOfHill_66 : tq_D cX7_tellOfHill 66 (.iload_n 1) 1 67 := ⟨by decide +kernel, rfl⟩
theorem rX7_tellOfHill_67 : tq_D cX7_tellOfHill 67 (.lload_n 2) 1 68 := ⟨by decide +kernel, rfl⟩
theorem rX7_tellOfHill_68 : tq_D cX7_tellOfHill 68 (.invokevirtual 123) 3 71 := ⟨by decide +kernel, rfl⟩
theorem rX7_tellOfHill_71 : decode cX7_tellOfHill 71 = .ok (.return_, 1) := by decide +kernel
noncomputable def FX7_tellOfHill (I : tq_PI) (L : tq_PL) (a0 : Nat) (a1 : Int32) : Option (tq_PI × tq_PL) :=
  (if (I a0 11) = 0 then (if a1 = (5 : Int32) then (if 0 ≤ (0 : Int32) ∧ (0 : Int32) < 3 then (if 0 ≤ (1 : Int32) ∧ (1 : Int32) < 3 then ((FX3_size I L ((tq_rg a0 1)) ((I (tq_rg a0 5) ((0 : Int32)).toNatClampNeg)) ((I (tq_rg a0 5) ((1 : Int32)).toNatClampNeg))).bind fun p8 => some (p8.1, p8.2)) else none) else none) else (if 0 ≤ (1 : Int32) ∧ (1 : Int32) < 3 then (if 0 ≤ (0 : Int32) ∧ (0 : Int32) < 3 then (tq_let (FX3_put I ((tq_up2 L a0 6 ((L a0 6) ||| ((1 : Int64) <<< (Int32.toInt64 (((8 : Int32) * (I (tq_rg a0 5) ((1 : Int32)).toNatClampNeg)) + (I (tq_rg a0 5) ((0 : Int32)).toNatClampNeg)) &&& 63))))) ((tq_rg a0 1)) a1 (((1 : Int64) <<< (Int32.toInt64 (((8 : Int32) * (I (tq_rg a0 5) ((1 : Int32)).toNatClampNeg)) + (I (tq_rg a0 5) ((0 : Int32)).toNatClampNeg)) &&& 63)))) fun p5 => some (I, p5)) else none) else none)) else some (I, L))
set_option maxRecDepth 100000 in
set_option maxHeartbeats 4000000 in
theorem CX7_tellOfHill {S : Nat × (Nat → Int32)} {d : Nat} {I : tq_PI} {L : tq_PL} {a0 : Nat} {a1 : Int32} (h0 : tq_sh0 a0 = 7) {out : tq_PI × tq_PL} (hf : FX7_tellOfHill I L a0 a1 = some out) : tq_K S mX7_tellOfHill (d + 2) [.ref a0, .int a1] I L (tq_one2 (none) out.1 out.2) := by
  unfold FX7_tellOfHill at hf
  refine tq_K_of (by decide) (Nat.le_of_ble_eq_true rfl) (ls := [.ref a0, .int a1, tq_u, tq_u]) rfl ?_
  refine tq_aload_n rX7_tellOfHill_0 rfl ?_
  refine ty_getI rX7_tellOfHill_1 f_X7_64 rfl h0 ?_
  refine tq_if_eq rX7_tellOfHill_4 (fun c1 => ?_) (fun c1 => ?_)
  · rw [if_pos c1] at hf
    refine tq_iload_n rX7_tellOfHill_8 rfl ?_
    refine tq_iconst (5 : Int32) rX7_tellOfHill_9 (by decide) ?_
    refine tq_icmp_ne rX7_tellOfHill_10 (fun c2 => ?_) (fun c2 => ?_)
    · rw [if_neg c2] at hf
      refine tq_lconst (1 : Int64) rX7_tellOfHill_33 (by decide) ?_
      refine tq_bipush (8 : Int32) rX7_tellOfHill_34 (by decide) ?_
      refine tq_aload_n rX7_tellOfHill_36 rfl ?_
      refine ty_getR rX7_tellOfHill_37 f_X7_43 rfl h0 (hp_7_5 h0).1 ?_
      refine tq_iconst (1 : Int32) rX7_tellOfHill_40 (by decide) ?_
      obtain ⟨g3, hf⟩ := tq_chk hf
      refine ty_iald (v := 3) rX7_tellOfHill_41 (hp_7_5 h0).2.1 (hp_7_5 h0).2.2 rfl (by decide) g3 ?_
      refine tq_imul rX7_tellOfHill_42 ?_
      refine tq_aload_n rX7_tellOfHill_43 rfl ?_
      refine ty_getR rX7_tellOfHill_44 f_X7_43 rfl h0 (hp_7_5 h0).1 ?_
      refine tq_iconst (0 : Int32) rX7_tellOfHill_47 (by decide) ?_
      obtain ⟨g4, hf⟩ := tq_chk hf
      refine ty_iald (v := 3) rX7_tellOfHill_48 (hp_7_5 h0).2.1 (hp_7_5 h0).2.2 rfl (by decide) g4 ?_
      refine tq_iadd rX7_tellOfHill_49 ?_
      refine tq_lshl rX7_tellOfHill_50 ?_
      refine tq_lstore_n ([.ref a0, .int a1, .long ((1 : Int64) <<< (Int32.toInt64 (((8 : Int32) * (I (tq_rg a0 5) ((1 : Int32)).toNatClampNeg)) + (I (tq_rg a0 5) ((0 : Int32)).toNatClampNeg)) &&& 63)), tq_u]) rX7_tellOfHill_51 (Nat.le_of_ble_eq_true rfl) rfl ?_
      refine tq_aload_n rX7_tellOfHill_52 rfl ?_
      refine tq_dup rX7_tellOfHill_53 rfl ?_
      refine ty_getL rX7_tellOfHill_54 f_X7_47 rfl h0 ?_
      refine tq_lload_n rX7_tellOfHill_57 rfl ?_
      refine tq_lor rX7_tellOfHill_58 ?_
      refine ty_putL rX7_tellOfHill_59 f_X7_47 rfl h0 rfl ?_
      refine tq_aload_n rX7_tellOfHill_62 rfl ?_
      refine ty_getR rX7_tellOfHill_63 f_X7_18 rfl h0 (hp_7_1 h0).1 ?_
      refine tq_iload_n rX7_tellOfHill_66 rfl ?_
      refine tq_lload_n rX7_tellOfHill_67 rfl ?_
      obtain ⟨p5, e5, hf⟩ := tq_let_elim hf
      refine ty_callVV ([.int a1, .long ((1 : Int64) <<< (Int32.toInt64 (((8 : Int32) * (I (tq_rg a0 5) ((1 : Int32)).toNatClampNeg)) + (I (tq_rg a0 5) ((0 : Int32)).toNatClampNeg)) &&& 63))]) ([]) rX7_tellOfHill_68 l_X7_123 moX3_put mvX3_put (hp_7_1 h0).2.1 rfl rfl (Nat.le_of_ble_eq_true rfl) ⟨rfl, rfl⟩ (CX3_put (hp_7_1 h0).2.1 e5) ?_
      refine ty_vret rX7_tellOfHill_71 rfl rfl ?_
      have hf := Option.some.inj hf
      subst hf
      exact ⟨rfl, rfl, rfl⟩
    · rw [if_pos c2] at hf
      refine tq_aload_n rX7_tellOfHill_13 rfl ?_
      refine ty_getR rX7_tellOfHill_14 f_X7_18 rfl h0 (hp_7_1 h0).1 ?_
      refine tq_aload_n rX7_tellOfHill_17 rfl ?_
      refine ty_getR rX7_tellOfHill_18 f_X7_43 rfl h0 (hp_7_5 h0).1 ?_
      refine tq_iconst (0 : Int32) rX7_tellOfHill_21 (by decide) ?_
      obtain ⟨g6, hf⟩ := tq_chk hf
      refine ty_iald (v := 3) rX7_tellOfHill_22 (hp_7_5 h0).2.1 (hp_7_5 h0).2.2 rfl (by decide) g6 ?_
      refine tq_aload_n rX7_tellOfHill_23 rfl ?_
      refine ty_getR rX7_tellOfHill_24 f_X7_43 rfl h0 (hp_7_5 h0).1 ?_
      refine tq_iconst (1 : Int32) rX7_tellOfHill_27 (by decide) ?_
      obtain ⟨g7, hf⟩ := tq_chk hf
      refine ty_iald (v := 3) rX7_tellOfHill_28 (hp_7_5 h0).2.1 (hp_7_5 h0).2.2 rfl (by decide) g7 ?_
      obtain ⟨p8, e8, hf⟩ := Option.bind_eq_some_iff.mp hf
      refine ty_callVV ([.int (I (tq_rg a0 5) ((0 : Int32)).toNatClampNeg), .int (I (tq_rg a0 5) ((1 : Int32)).toNatClampNeg)]) ([]) rX7_tellOfHill_29 l_X7_106 moX3_size mvX3_size (hp_7_1 h0).2.1 rfl rfl (Nat.le_of_ble_eq_true rfl) ⟨rfl, rfl⟩ (CX3_size (hp_7_1 h0).2.1 e8) ?_
      refine ty_vret rX7_tellOfHill_32 rfl rfl ?_
      have hf := Option.some.inj hf
      subst hf
      exact ⟨rfl, rfl, rfl⟩
  · rw [if_neg c1] at hf
    refine ty_vret rX7_tellOfHill_7 rfl rfl ?_
    have hf := Option.some.inj hf
    subst hf
    exact ⟨rfl, rfl, rfl⟩

abbrev mX10_add : tq_M := (yX10_add, cX10_add, 4, (Option.none : Option Jvm.ClassFile.FieldType), 0, 0)
theorem rX10_add_0 : tq_D cX10_add 0 (.aload_n 0) 1 1 := ⟨by decide +kernel, rfl⟩
theorem rX10_add_1 : tq_D cX10_add 1 (.getfield 9) 3 4 := ⟨by decide +kernel, rfl⟩
theorem rX10_add_4 : tq_J cX10_add 4 (.ifCond .lt) 56 7 := ⟨52, by decide +kernel, by decide, rfl⟩
theorem rX10_add_7 : tq_D cX10_add 7 (.aload_n 0) 1 8 := ⟨by decide +kernel, rfl⟩
theorem rX10_add_8 : tq_D cX10_add 8 (.getfield 9) 3 11 := ⟨by decide +kernel, rfl⟩
theorem rX10_add_11 : tq_D cX10_add 11 (.bipush 40) 2 13 := ⟨by decide +kernel, rfl⟩
theorem rX10_add_13 : tq_J cX10_add 13 (.if_icmp .ge) 56 16 := ⟨43, by decide +kernel, by decide, rfl⟩
theorem rX10_add_16 : tq_D cX10_add 16 (.aload_n 0) 1 17 := ⟨by decide +kernel, rfl⟩
theorem rX10_add_17 : tq_D cX10_add 17 (.getfield 15) 3 20 := ⟨by decide +kernel, rfl⟩
theorem rX10_add_20 : tq_D cX10_add 20 (.aload_n 0) 1 21 := ⟨by decide +kernel, rfl⟩
theorem rX10_add_21 : tq_D cX10_add 21 (.getfield 9) 3 24 := ⟨by decide +kernel, rfl⟩
theorem rX10_add_24 : tq_D cX10_add 24 (.iload_n 1) 1 25 := ⟨by decide +kernel, rfl⟩
theorem rX10_add_25 : tq_D cX10_add 25 (.iastore) 1 26 := ⟨by decide +kernel, rfl⟩
theorem rX10_add_26 : tq_D cX10_add 26 (.aload_n 0) 1 27 := ⟨by decide +kernel, rfl⟩
theorem rX10_add_27 : tq_D cX10_add 27 (.getfield 19) 3 30 := ⟨by decide +kernel, rfl⟩
theorem rX10_add_30 : tq_D cX10_add 30 (.aload_n 0) 1 31 := ⟨by decide +kernel, rfl⟩
theorem rX10_add_31 : tq_D cX10_add 31 (.getfield 9) 3 34 := ⟨by decide +kernel, rfl⟩
theorem rX10_add_34 : tq_D cX10_add 34 (.iload_n 2) 1 35 := ⟨by decide +kernel, rfl⟩
theorem rX10_add_35 : tq_D cX10_add 35 (.iastore) 1 36 := ⟨by decide +kernel, rfl⟩
theorem rX10_add_36 : tq_D cX10_add 36 (.aload_n 0) 1 37 := ⟨by decide +kernel, rfl⟩
theorem rX10_add_37 : tq_D cX10_add 37 (.getfield 22) 3 40 := ⟨by decide +kernel, rfl⟩
theorem rX10_add_40 : tq_D cX10_add 40 (.aload_n 0) 1 41 := ⟨by decide +kernel, rfl⟩
theorem rX10_add_41 : tq_D cX10_add 41 (.getfield 9) 3 44 := ⟨by decide +kernel, rfl⟩
theorem rX10_add_44 : tq_D cX10_add 44 (.iload_n 3) 1 45 := ⟨by decide +kernel, rfl⟩
theorem rX10_add_45 : tq_D cX10_add 45 (.iastore) 1 46 := ⟨by decide +kernel, rfl⟩
theorem rX10_add_46 : tq_D cX10_add 46 (.aload_n 0) 1 47 := ⟨by decide +kernel, rfl⟩
theorem rX10_add_47 : tq_D cX10_add 47 (.dup) 1 48 := ⟨by decide +kernel, rfl⟩
theorem rX10_add_48 : tq_D cX10_add 48 (.getfield 9) 3 51 := ⟨by decide +kernel, rfl⟩
theorem rX10_add_51 : tq_D cX10_add 51 (.iconst 1) 1 52 := ⟨by decide +kernel, rfl⟩
theorem rX10_add_52 : tq_D cX10_add 52 (.iadd) 1 53 := ⟨by decide +kernel, rfl⟩
theorem rX10_add_53 : tq_D cX10_add 53 (.putfield 9) 3 56 := ⟨by decide +kernel, rfl⟩
theorem rX10_add_56 : decode cX10_add 56 = .ok (.return_, 1) := by decide +kernel
noncomputable def FX10_add (I : tq_PI) (L : tq_PL) (a0 : Nat) (a1 : Int32) (a2 : Int32) (a3 : Int32) : Option (tq_PI) :=
  (if (I a0 0) < 0 then some I else (if (40 : Int32) ≤ (I a0 0) then some I else (if 0 ≤ (I a0 0) ∧ (I a0 0) < 40 then (if 0 ≤ (((tq_up2 I (tq_rg a0 1) ((I a0 0)).toNatClampNeg a1)) a0 0) ∧ (((tq_up2 I (tq_rg a0 1) ((I a0 0)).toNatClampNeg a1)) a0 0) < 40 then (if 0 ≤ (((tq_up2 (tq_up2 I (tq_rg a0 1) ((I a0 0)).toNatClampNeg a1) (tq_rg a0 2) ((((tq_up2 I (tq_rg a0 1) ((I a0 0)).toNatClampNeg a1)) a0 0)).toNatClampNeg a2)) a0 0) ∧ (((tq_up2 (tq_up2 I (tq_rg a0 1) ((I a0 0)).toNatClampNeg a1) (tq_rg a0 2) ((((tq_up2 I (tq_rg a0 1) ((I a0 0)).toNatClampNeg a1)) a0 0)).toNatClampNeg a2)) a0 0) < 40 then some (tq_up2 (tq_up2 (tq_up2 (tq_up2 I (tq_rg a0 1) ((I a0 0)).toNatClampNeg a1) (tq_rg a0 2) ((((tq_up2 I (tq_rg a0 1) ((I a0 0)).toNatClampNeg a1)) a0 0)).toNatClampNeg a2) (tq_rg a0 3) ((((tq_up2 (tq_up2 I (tq_rg a0 1) ((I a0 0)).toNatClampNeg a1) (tq_rg a0 2) ((((tq_up2 I (tq_rg a0 1) ((I a0 0)).toNatClampNeg a1)) a0 0)).toNatClampNeg a2)) a0 0)).toNatClampNeg a3) a0 0 ((((tq_up2 (tq_up2 (tq_up2 I (tq_rg a0 1) ((I a0 0)).toNatClampNeg a1) (tq_rg a0 2) ((((tq_up2 I (tq_rg a0 1) ((I a0 0)).toNatClampNeg a1)) a0 0)).toNatClampNeg a2) (tq_rg a0 3) ((((tq_up2 (tq_up2 I (tq_rg a0 1) ((I a0 0)).toNatClampNeg a1) (tq_rg a0 2) ((((tq_up2 I (tq_rg a0 1) ((I a0 0)).toNatClampNeg a1)) a0 0)).toNatClampNeg a2)) a0 0)).toNatClampNeg a3)) a0 0) + (1 : Int32))) else none) else none) else none)))
set_option maxRecDepth 100000 in
set_option maxHeartbeats 4000000 in
theorem CX10_add {S : Nat × (Nat → Int32)} {d : Nat} {I : tq_PI} {L : tq_PL} {a0 : Nat} {a1 : Int32} {a2 : Int32} {a3 : Int32} (h0 : tq_sh0 a0 = 10) {out : tq_PI} (hf : FX10_add I L a0 a1 a2 a3 = some out) : tq_K S mX10_add d [.ref a0, .int a1, .int a2, .int a3] I L (tq_one2 (none) out L) := by
  unfold FX10_add at hf
  refine tq_K_of (by decide) (Nat.le_of_ble_eq_true rfl) (ls := [.ref a0, .int a1, .int a2, .int a3]) rfl ?_
  refine tq_aload_n rX10_add_0 rfl ?_
  refine ty_getI rX10_add_1 f_X10_9 rfl h0 ?_
  refine tq_if_lt rX10_add_4 (fun c1 => ?_) (fun c1 => ?_)
  · rw [if_pos c1] at hf
    refine ty_vret rX10_add_56 rfl rfl ?_
    have hf := Option.some.inj hf
    subst hf
    exact ⟨rfl, rfl, rfl⟩
  · rw [if_neg c1] at hf
    refine tq_aload_n rX10_add_7 rfl ?_
    refine ty_getI rX10_add_8 f_X10_9 rfl h0 ?_
    refine tq_bipush (40 : Int32) rX10_add_11 (by decide) ?_
    refine tq_icmp_ge rX10_add_13 (fun c2 => ?_) (fun c2 => ?_)
    · rw [if_pos c2] at hf
      refine ty_vret rX10_add_56 rfl rfl ?_
      have hf := Option.some.inj hf
      subst hf
      exact ⟨rfl, rfl, rfl⟩
    · rw [if_neg c2] at hf
      refine tq_aload_n rX10_add_16 rfl ?_
      refine ty_getR rX10_add_17 f_X10_15 rfl h0 (hp_10_1 h0).1 ?_
      refine tq_aload_n rX10_add_20 rfl ?_
      refine ty_getI rX10_add_21 f_X10_9 rfl h0 ?_
      refine tq_iload_n rX10_add_24 rfl ?_
      obtain ⟨g3, hf⟩ := tq_chk hf
      refine ty_iast (v := 40) rX10_add_25 (hp_10_1 h0).2.1 (hp_10_1 h0).2.2 rfl (by decide) g3 ?_
      refine tq_aload_n rX10_add_26 rfl ?_
      refine ty_getR rX10_add_27 f_X10_19 rfl h0 (hp_10_2 h0).1 ?_
      refine tq_aload_n rX10_add_30 rfl ?_
      refine ty_getI rX10_add_31 f_X10_9 rfl h0 ?_
      refine tq_iload_n rX10_add_34 rfl ?_
      obtain ⟨g4, hf⟩ := tq_chk hf
      refine ty_iast (v := 40) rX10_add_35 (hp_10_2 h0).2.1 (hp_10_2 h0).2.2 rfl (by decide) g4 ?_
      refine tq_aload_n rX10_add_36 rfl ?_
      refine ty_getR rX10_add_37 f_X10_22 rfl h0 (hp_10_3 h0).1 ?_
      refine tq_aload_n rX10_add_40 rfl ?_
      refine ty_getI rX10_add_41 f_X10_9 rfl h0 ?_
      refine tq_iload_n rX10_add_44 rfl ?_
      obtain ⟨g5, hf⟩ := tq_chk hf
      refine ty_iast (v := 40) rX10_add_45 (hp_10_3 h0).2.1 (hp_10_3 h0).2.2 rfl (by decide) g5 ?_
      refine tq_aload_n rX10_add_46 rfl ?_
      refine tq_dup rX10_add_47 rfl ?_
      refine ty_getI rX10_add_48 f_X10_9 rfl h0 ?_
      refine tq_iconst (1 : Int32) rX10_add_51 (by decide) ?_
      refine tq_iadd rX10_add_52 ?_
      refine ty_putI rX10_add_53 f_X10_9 rfl h0 rfl ?_
      refine ty_vret rX10_add_56 rfl rfl ?_
      have hf := Option.some.inj hf
      subst hf
      exact ⟨rfl, rfl, rfl⟩

