/-! THE MIRROR, part 9: by program (wip/whole/gen_mirror.py). -/
abbrev mX12_stones : tq_M := (yX12_stones, cX12_stones, 5, (Option.some Jvm.ClassFile.FieldType.int), 0, 0)
theorem rX12_stones_0 : tq_D cX12_stones 0 (.iconst 0) 1 1 := ⟨by decide +kernel, rfl⟩
theorem rX12_stones_1 : tq_D cX12_stones 1 (.istore_n 3) 1 2 := ⟨by decide +kernel, rfl⟩
theorem rX12_stones_2 : tq_D cX12_stones 2 (.iconst 0) 1 3 := ⟨by decide +kernel, rfl⟩
theorem rX12_stones_3 : tq_D cX12_stones 3 (.istore 4) 2 5 := ⟨by decide +kernel, rfl⟩
theorem rX12_stones_5 : tq_D cX12_stones 5 (.iload 4) 2 7 := ⟨by decide +kernel, rfl⟩
theorem rX12_stones_7 : tq_D cX12_stones 7 (.aload_n 0) 1 8 := ⟨by decide +kernel, rfl⟩
theorem rX12_stones_8 : tq_D cX12_stones 8 (.invokevirtual 190) 3 11 := ⟨by decide +kernel, rfl⟩
theorem rX12_stones_11 : tq_J cX12_stones 11 (.if_icmp .ge) 47 14 := ⟨36, by decide +kernel, by decide, rfl⟩
theorem rX12_stones_14 : tq_D cX12_stones 14 (.iload_n 3) 1 15 := ⟨by decide +kernel, rfl⟩
theorem rX12_stones_15 : tq_D cX12_stones 15 (.iload_n 2) 1 16 := ⟨by decide +kernel, rfl⟩
theorem rX12_stones_16 : tq_J cX12_stones 16 (.ifCond .eq) 32 19 := ⟨16, by decide +kernel, by decide, rfl⟩
theorem rX12_stones_19 : tq_D cX12_stones 19 (.aload_n 0) 1 20 := ⟨by decide +kernel, rfl⟩
theorem rX12_stones_20 : tq_D cX12_stones 20 (.iload_n 1) 1 21 := ⟨by decide +kernel, rfl⟩
theorem rX12_stones_21 : tq_D cX12_stones 21 (.iload 4) 2 23 := ⟨by decide +kernel, rfl⟩
theorem rX12_stones_23 : tq_D cX12_stones 23 (.invokevirtual 193) 3 26 := ⟨by decide +kernel, rfl⟩
theorem rX12_stones_26 : tq_D cX12_stones 26 (.invokestatic 230) 3 29 := ⟨by decide +kernel, rfl⟩
theorem rX12_stones_29 : tq_J cX12_stones 29 .goto 39 32 := ⟨10, by decide +kernel, by decide, rfl⟩
theorem rX12_stones_32 : tq_D cX12_stones 32 (.aload_n 0) 1 33 := ⟨by decide +kernel, rfl⟩
theorem rX12_stones_33 : tq_D cX12_stones 33 (.iload_n 1) 1 34 := ⟨by decide +kernel, rfl⟩
theorem rX12_stones_34 : tq_D cX12_stones 34 (.iload 4) 2 36 := ⟨by decide +kernel, rfl⟩
theorem rX12_stones_36 : tq_D cX12_stones 36 (.invokevirtual 211) 3 39 := ⟨by decide +kernel, rfl⟩
theorem rX12_stones_39 : tq_D cX12_stones 39 (.iadd) 1 40 := ⟨by decide +kernel, rfl⟩
theorem rX12_stones_40 : tq_D cX12_stones 40 (.istore_n 3) 1 41 := ⟨by decide +kernel, rfl⟩
theorem rX12_stones_41 : tq_D cX12_stones 41 (.iinc 4 1) 3 44 := ⟨by decide +kernel, rfl⟩
theorem rX12_stones_44 : tq_J cX12_stones 44 .goto 5 47 := ⟨(-39), by decide +kernel, by decide, rfl⟩
theorem rX12_stones_47 : tq_D cX12_stones 47 (.iload_n 3) 1 48 := ⟨by decide +kernel, rfl⟩
theorem rX12_stones_48 : decode cX12_stones 48 = .ok (.ireturn, 1) := by decide +kernel
noncomputable def FX12_stones_j39L5 (I : tq_PI) (L : tq_PL) (a0 : Nat) (a1 : Int32) (a2 : Int32) (a4 : Int32) (b0 : Int32) (b1 : Int32) : Option ((Int32 × Int32) ⊕ (Int32)) :=
  some (.inl ((b1 + b0), (a4 + 1)))
noncomputable def FX12_stones_s5 (I : tq_PI) (L : tq_PL) (a0 : Nat) (a1 : Int32) (a2 : Int32) (a3 : Int32) (a4 : Int32) : Option ((Int32 × Int32) ⊕ (Int32)) :=
  (tq_let (FX12_many I L a0) fun p1 => (if p1 ≤ a4 then some (.inr a3) else (if a2 = 0 then ((FX12_costOf I L a0 a1 a4).bind fun p4 => (FX12_stones_j39L5 I L a0 a1 a2 a4 p4 a3)) else ((FX12_kindOf I L a0 a1 a4).bind fun p5 => (tq_let (FX12_worthOf I L p5) fun p6 => (FX12_stones_j39L5 I L a0 a1 a2 a4 p6 a3))))))
noncomputable def FX12_stones (I : tq_PI) (L : tq_PL) (a0 : Nat) (a1 : Int32) (a2 : Int32) : Option (Int32) :=
  ((tq_it (fun p : Int32 × Int32 => FX12_stones_s5 I L a0 a1 a2 p.1 p.2) tq_N ((0 : Int32), (0 : Int32))).bind fun p7 => some p7)
set_option maxRecDepth 100000 in
set_option maxHeartbeats 4000000 in
theorem FX12_stones_j39L5_x {S : Nat × (Nat → Int32)} {d : Nat} {I : tq_PI} {L : tq_PL} {a0 : Nat} {a1 : Int32} {a2 : Int32} {a4 : Int32} {b0 : Int32} {b1 : Int32} (h0 : tq_sh0 a0 = 12) {q0 : Option Value → tq_PI → tq_PL → Prop} {out : (Int32 × Int32) ⊕ (Int32)} (hf : FX12_stones_j39L5 I L a0 a1 a2 a4 b0 b1 = some out) (hk : Sum.elim (fun p : Int32 × Int32 => tq_X S mX12_stones (d + 2) tq_k0 5 ([.ref a0, .int a1, .int a2, .int p.1, .int p.2]) [] (tq_st I L) (tq_Q q0)) (fun p : Int32 => tq_X S mX12_stones (d + 2) tq_k0 47 ([tq_u, tq_u, tq_u, .int p, tq_u]) [] (tq_st I L) (tq_Q q0)) out) : tq_X S mX12_stones (d + 2) tq_k0 39 ([.ref a0, .int a1, .int a2, tq_u, .int a4]) ([.int b0, .int b1]) (tq_st I L) (tq_Q q0) := by
  unfold FX12_stones_j39L5 at hf
  refine tq_iadd rX12_stones_39 ?_
  refine tq_istore_n ([.ref a0, .int a1, .int a2, .int (b1 + b0), .int a4]) rX12_stones_40 (Nat.le_of_ble_eq_true rfl) rfl ?_
  refine tq_iinc (a4 + 1) ([.ref a0, .int a1, .int a2, .int (b1 + b0), .int (a4 + 1)]) rX12_stones_41 rfl (tq_inc (by decide)) (Nat.le_of_ble_eq_true rfl) rfl ?_
  refine tq_goto rX12_stones_44 ?_
  have hf := Option.some.inj hf
  subst hf
  exact tq_forget _ (tq_le_s (tq_le_s (tq_le_s (tq_le_s (tq_le_s tq_le_n))))) hk

set_option maxRecDepth 100000 in
set_option maxHeartbeats 4000000 in
theorem FX12_stones_s5_x {S : Nat × (Nat → Int32)} {d : Nat} {I : tq_PI} {L : tq_PL} {a0 : Nat} {a1 : Int32} {a2 : Int32} {a3 : Int32} {a4 : Int32} (h0 : tq_sh0 a0 = 12) {q0 : Option Value → tq_PI → tq_PL → Prop} {out : (Int32 × Int32) ⊕ (Int32)} (hf : FX12_stones_s5 I L a0 a1 a2 a3 a4 = some out) (hk : Sum.elim (fun p : Int32 × Int32 => tq_X S mX12_stones (d + 2) tq_k0 5 ([.ref a0, .int a1, .int a2, .int p.1, .int p.2]) [] (tq_st I L) (tq_Q q0)) (fun p : Int32 => tq_X S mX12_stones (d + 2) tq_k0 47 ([tq_u, tq_u, tq_u, .int p, tq_u]) [] (tq_st I L) (tq_Q q0)) out) : tq_X S mX12_stones (d + 2) tq_k0 5 ([.ref a0, .int a1, .int a2, .int a3, .int a4]) [] (tq_st I L) (tq_Q q0) := by
  unfold FX12_stones_s5 at hf
  refine tq_iload rX12_stones_5 rfl ?_
  refine tq_aload_n rX12_stones_7 rfl ?_
  obtain ⟨p1, e1, hf⟩ := tq_let_elim hf
  refine ty_callVI p1 ([]) ([.int a4]) rX12_stones_8 l_X12_190 moX12_many mvX12_many h0 rfl rfl (Nat.le_of_ble_eq_true rfl) ⟨rfl, rfl⟩ (CX12_many h0 e1) ?_
  refine tq_icmp_ge rX12_stones_11 (fun c2 => ?_) (fun c2 => ?_)
  · rw [if_pos c2] at hf
    have hf := Option.some.inj hf
    subst hf
    exact tq_forget _ (tq_le_u (tq_le_u (tq_le_u (tq_le_s (tq_le_u tq_le_n))))) hk
  · rw [if_neg c2] at hf
    refine tq_iload_n rX12_stones_14 rfl ?_
    refine tq_iload_n rX12_stones_15 rfl ?_
    refine tq_if_eq rX12_stones_16 (fun c3 => ?_) (fun c3 => ?_)
    · rw [if_pos c3] at hf
      refine tq_aload_n rX12_stones_32 rfl ?_
      refine tq_iload_n rX12_stones_33 rfl ?_
      refine tq_iload rX12_stones_34 rfl ?_
      obtain ⟨p4, e4, hf⟩ := Option.bind_eq_some_iff.mp hf
      refine ty_callVI p4 ([.int a1, .int a4]) ([.int a3]) rX12_stones_36 l_X12_211 moX12_costOf mvX12_costOf h0 rfl rfl (Nat.le_of_ble_eq_true rfl) ⟨rfl, rfl⟩ (CX12_costOf h0 e4) ?_
      exact tq_forget _ (tq_le_s (tq_le_s (tq_le_s (tq_le_u (tq_le_s tq_le_n))))) (FX12_stones_j39L5_x  h0 hf hk)
    · rw [if_neg c3] at hf
      refine tq_aload_n rX12_stones_19 rfl ?_
      refine tq_iload_n rX12_stones_20 rfl ?_
      refine tq_iload rX12_stones_21 rfl ?_
      obtain ⟨p5, e5, hf⟩ := Option.bind_eq_some_iff.mp hf
      refine ty_callVI p5 ([.int a1, .int a4]) ([.int a3]) rX12_stones_23 l_X12_193 moX12_kindOf mvX12_kindOf h0 rfl rfl (Nat.le_of_ble_eq_true rfl) ⟨rfl, rfl⟩ (CX12_kindOf h0 e5) ?_
      obtain ⟨p6, e6, hf⟩ := tq_let_elim hf
      refine ty_callSI p6 ([.int p5]) ([.int a3]) rX12_stones_26 l_X12_230 moX12_worthOf msX12_worthOf rfl rfl (Nat.le_of_ble_eq_true rfl) ⟨rfl, rfl⟩ (CX12_worthOf  e6) ?_
      refine tq_goto rX12_stones_29 ?_
      exact tq_forget _ (tq_le_s (tq_le_s (tq_le_s (tq_le_u (tq_le_s tq_le_n))))) (FX12_stones_j39L5_x  h0 hf hk)

set_option maxRecDepth 100000 in
set_option maxHeartbeats 4000000 in
theorem CX12_stones {S : Nat × (Nat → Int32)} {d : Nat} {I : tq_PI} {L : tq_PL} {a0 : Nat} {a1 : Int32} {a2 : Int32} (h0 : tq_sh0 a0 = 12) {out : Int32} (hf : FX12_stones I L a0 a1 a2 = some out) : tq_K S mX12_stones (d + 2) [.ref a0, .int a1, .int a2] I L (tq_one2 (some (.int out)) I L) := by
  unfold FX12_stones at hf
  refine tq_K_of (by decide) (Nat.le_of_ble_eq_true rfl) (ls := [.ref a0, .int a1, .int a2, tq_u, tq_u]) rfl ?_
  refine tq_iconst (0 : Int32) rX12_stones_0 (by decide) ?_
  refine tq_istore_n ([.ref a0, .int a1, .int a2, .int (0 : Int32), tq_u]) rX12_stones_1 (Nat.le_of_ble_eq_true rfl) rfl ?_
  refine tq_iconst (0 : Int32) rX12_stones_2 (by decide) ?_
  refine tq_istore ([.ref a0, .int a1, .int a2, .int (0 : Int32), .int (0 : Int32)]) rX12_stones_3 (Nat.le_of_ble_eq_true rfl) rfl ?_
  obtain ⟨p7, e7, hf⟩ := Option.bind_eq_some_iff.mp hf
  refine tq_forget _ (tq_le_s (tq_le_s (tq_le_s (tq_le_s (tq_le_s tq_le_n))))) ?_
  refine tq_it_elim (P := fun p : Int32 × Int32 => tq_X S mX12_stones (d + 2) tq_k0 5 ([.ref a0, .int a1, .int a2, .int p.1, .int p.2]) [] (tq_st I L) (tq_Q (tq_one2 (some (.int out)) I L))) (R := fun p : Int32 => tq_X S mX12_stones (d + 2) tq_k0 47 ([tq_u, tq_u, tq_u, .int p, tq_u]) [] (tq_st I L) (tq_Q (tq_one2 (some (.int out)) I L))) (fun p o hp hk => FX12_stones_s5_x  h0 hp hk) _ (((0 : Int32), (0 : Int32))) _ e7 ?_
  show tq_X _ _ _ _ _ _ _ _ _
  refine tq_iload_n rX12_stones_47 rfl ?_
  refine ty_iret rX12_stones_48 rfl rfl ?_
  have hf := Option.some.inj hf
  subst hf
  exact ⟨rfl, rfl, rfl⟩

abbrev mX12_hill : tq_M := (yX12_hill, cX12_hill, 3, (Option.some Jvm.ClassFile.FieldType.int), 0, 0)
theorem moX12_stones : tq_mok mX12_stones 2 := ⟨tq_sg1 _ (List.mem_of_getElem? (i := 13) rfl), tq_sg7 _ (List.mem_of_getElem? (i := 159) rfl), ⟨by decide, by decide, by decide +kernel⟩, by decide⟩
theorem mvX12_stones : 12 < 13 ∧ (tq_cl 12).1 = mX12_stones.1.cls ∧ Cond.instanceMethod mX12_stones.1 ∈ lw_tbl ∧ Cond.selects mX12_stones.1.cls mX12_stones.1 mX12_stones.1 ∈ lw_tbl := ⟨by decide, rfl, tq_sg7 _ (List.mem_of_getElem? (i := 158) rfl), List.mem_append_left _ (List.mem_map.mpr ⟨_, List.mem_of_getElem? (i := 73) rfl, rfl⟩)⟩
theorem l_X12_252 : tq_lok RX12 252 mX12_stones.1 := Or.inl (tq_sg7 _ (List.mem_of_getElem? (i := 156) rfl))
theorem rX12_hill_0 : tq_D cX12_hill 0 (.aload_n 0) 1 1 := ⟨by decide +kernel, rfl⟩
theorem rX12_hill_1 : tq_D cX12_hill 1 (.iload_n 1) 1 2 := ⟨by decide +kernel, rfl⟩
theorem rX12_hill_2 : tq_D cX12_hill 2 (.invokevirtual 221) 3 5 := ⟨by decide +kernel, rfl⟩
theorem rX12_hill_5 : tq_J cX12_hill 5 (.ifCond .ne) 10 8 := ⟨5, by decide +kernel, by decide, rfl⟩
theorem rX12_hill_8 : tq_D cX12_hill 8 (.iconst (-1)) 1 9 := ⟨by decide +kernel, rfl⟩
theorem rX12_hill_9 : decode cX12_hill 9 = .ok (.ireturn, 1) := by decide +kernel
theorem rX12_hill_10 : tq_D cX12_hill 10 (.iload_n 2) 1 11 := ⟨by decide +kernel, rfl⟩
theorem rX12_hill_11 : tq_D cX12_hill 11 (.iconst 0) 1 12 := ⟨by decide +kernel, rfl⟩
theorem rX12_hill_12 : tq_D cX12_hill 12 (.iconst 1) 1 13 := ⟨by decide +kernel, rfl⟩
theorem rX12_hill_13 : tq_D cX12_hill 13 (.invokestatic 118) 3 16 := ⟨by decide +kernel, rfl⟩
theorem rX12_hill_16 : tq_J cX12_hill 16 (.ifCond .eq) 31 19 := ⟨15, by decide +kernel, by decide, rfl⟩
theorem rX12_hill_19 : tq_D cX12_hill 19 (.aload_n 0) 1 20 := ⟨by decide +kernel, rfl⟩
theorem rX12_hill_20 : tq_D cX12_hill 20 (.getfield 7) 3 23 := ⟨by decide +kernel, rfl⟩
theorem rX12_hill_23 : tq_D cX12_hill 23 (.aload_n 0) 1 24 := ⟨by decide +kernel, rfl⟩
theorem rX12_hill_24 : tq_D cX12_hill 24 (.getfield 187) 3 27 := ⟨by decide +kernel, rfl⟩
theorem rX12_hill_27 : tq_D cX12_hill 27 (.iload_n 2) 1 28 := ⟨by decide +kernel, rfl⟩
theorem rX12_hill_28 : tq_D cX12_hill 28 (.iadd) 1 29 := ⟨by decide +kernel, rfl⟩
theorem rX12_hill_29 : tq_D cX12_hill 29 (.iaload) 1 30 := ⟨by decide +kernel, rfl⟩
theorem rX12_hill_30 : decode cX12_hill 30 = .ok (.ireturn, 1) := by decide +kernel
theorem rX12_hill_31 : tq_D cX12_hill 31 (.aload_n 0) 1 32 := ⟨by decide +kernel, rfl⟩
theorem rX12_hill_32 : tq_D cX12_hill 32 (.invokevirtual 224) 3 35 := ⟨by decide +kernel, rfl⟩
theorem rX12_hill_35 : tq_D cX12_hill 35 (.iload_n 2) 1 36 := ⟨by decide +kernel, rfl⟩
theorem rX12_hill_36 : tq_D cX12_hill 36 (.iconst 2) 1 37 := ⟨by decide +kernel, rfl⟩
theorem rX12_hill_37 : tq_D cX12_hill 37 (.iconst 3) 1 38 := ⟨by decide +kernel, rfl⟩
theorem rX12_hill_38 : tq_D cX12_hill 38 (.invokestatic 118) 3 41 := ⟨by decide +kernel, rfl⟩
theorem rX12_hill_41 : tq_J cX12_hill 41 (.ifCond .eq) 60 44 := ⟨19, by decide +kernel, by decide, rfl⟩
theorem rX12_hill_44 : tq_D cX12_hill 44 (.aload_n 0) 1 45 := ⟨by decide +kernel, rfl⟩
theorem rX12_hill_45 : tq_D cX12_hill 45 (.iconst 0) 1 46 := ⟨by decide +kernel, rfl⟩
theorem rX12_hill_46 : tq_D cX12_hill 46 (.iload_n 2) 1 47 := ⟨by decide +kernel, rfl⟩
theorem rX12_hill_47 : tq_D cX12_hill 47 (.iconst 3) 1 48 := ⟨by decide +kernel, rfl⟩
theorem rX12_hill_48 : tq_J cX12_hill 48 (.if_icmp .ne) 55 51 := ⟨7, by decide +kernel, by decide, rfl⟩
theorem rX12_hill_51 : tq_D cX12_hill 51 (.iconst 1) 1 52 := ⟨by decide +kernel, rfl⟩
theorem rX12_hill_52 : tq_J cX12_hill 52 .goto 56 55 := ⟨4, by decide +kernel, by decide, rfl⟩
theorem rX12_hill_55 : tq_D cX12_hill 55 (.iconst 0) 1 56 := ⟨by decide +kernel, rfl⟩
theorem rX12_hill_56 : tq_D cX12_hill 56 (.invokevirtual 252) 3 59 := ⟨by decide +kernel, rfl⟩
theorem rX12_hill_59 : decode cX12_hill 59 = .ok (.ireturn, 1) := by decide +kernel
theorem rX12_hill_60 : tq_D cX12_hill 60 (.iload_n 2) 1 61 := ⟨by decide +kernel, rfl⟩
theorem rX12_hill_61 : tq_D cX12_hill 61 (.bipush 100) 2 63 := ⟨by decide +kernel, rfl⟩
theorem rX12_hill_63 : tq_J cX12_hill 63 (.if_icmp .lt) 89 66 := ⟨26, by decide +kernel, by decide, rfl⟩
theorem rX12_hill_66 : tq_D cX12_hill 66 (.aload_n 0) 1 67 := ⟨by decide +kernel, rfl⟩
theorem rX12_hill_67 : tq_D cX12_hill 67 (.iload_n 2) 1 68 := ⟨by decide +kernel, rfl⟩
theorem rX12_hill_68 : tq_D cX12_hill 68 (.bipush 100) 2 70 := ⟨by decide +kernel, rfl⟩
theorem rX12_hill_70 : tq_D cX12_hill 70 (.isub) 1 71 := ⟨by decide +kernel, rfl⟩
theorem rX12_hill_71 : tq_D cX12_hill 71 (.invokevirtual 233) 3 74 := ⟨by decide +kernel, rfl⟩
theorem rX12_hill_74 : tq_J cX12_hill 74 (.ifCond .eq) 89 77 := ⟨15, by decide +kernel, by decide, rfl⟩
theorem rX12_hill_77 : tq_D cX12_hill 77 (.aload_n 0) 1 78 := ⟨by decide +kernel, rfl⟩
theorem rX12_hill_78 : tq_D cX12_hill 78 (.iconst 0) 1 79 := ⟨by decide +kernel, rfl⟩
theorem rX12_hill_79 : tq_D cX12_hill 79 (.iload_n 2) 1 80 := ⟨by decide +kernel, rfl⟩
theorem rX12_hill_80 : tq_D cX12_hill 80 (.bipush 100) 2 82 := ⟨by decide +kernel, rfl⟩
theorem rX12_hill_82 : tq_D cX12_hill 82 (.isub) 1 83 := ⟨by decide +kernel, rfl⟩
theorem rX12_hill_83 : tq_D cX12_hill 83 (.invokevirtual 193) 3 86 := ⟨by decide +kernel, rfl⟩
theorem rX12_hill_86 : tq_J cX12_hill 86 .goto 90 89 := ⟨4, by decide +kernel, by decide, rfl⟩
theorem rX12_hill_89 : tq_D cX12_hill 89 (.iconst (-1)) 1 90 := ⟨by decide +kernel, rfl⟩
theorem rX12_hill_90 : decode cX12_hill 90 = .ok (.ireturn, 1) := by decide +kernel
noncomputable def FX12_hill_j89 (I : tq_PI) (L : tq_PL)  : Option (Int32 × tq_PI) :=
  some ((-1 : Int32), I)
noncomputable def FX12_hill_j56 (I : tq_PI) (L : tq_PL) (b0 : Int32) (b1 : Int32) (b2 : Nat) : Option (Int32 × tq_PI) :=
  ((FX12_stones I L b2 b1 b0).bind fun p13 => some (p13, I))
noncomputable def FX12_hill (I : tq_PI) (L : tq_PL) (a0 : Nat) (a1 : Int32) (a2 : Int32) : Option (Int32 × tq_PI) :=
  ((FX12_isHill I L a0 a1).bind fun p1 => (if (tq_b p1.1) = 0 then some ((-1 : Int32), p1.2) else (tq_let (FX12_isIn p1.2 L a2 ((0 : Int32)) ((1 : Int32))) fun p3 => (if (tq_b p3) = 0 then ((FX12_asTold p1.2 L a0).bind fun p5 => (tq_let (FX12_isIn p5 L a2 ((2 : Int32)) ((3 : Int32))) fun p6 => (if (tq_b p6) = 0 then (if a2 < (100 : Int32) then (FX12_hill_j89 p5 L ) else (tq_let (FX12_isCell p5 L a0 ((a2 - (100 : Int32)))) fun p9 => (if (tq_b p9) = 0 then (FX12_hill_j89 p5 L ) else ((FX12_kindOf p5 L a0 ((0 : Int32)) ((a2 - (100 : Int32)))).bind fun p11 => some (p11, p5))))) else (if a2 = (3 : Int32) then (FX12_hill_j56 p5 L ((1 : Int32)) ((0 : Int32)) a0) else (FX12_hill_j56 p5 L ((0 : Int32)) ((0 : Int32)) a0))))) else (if 0 ≤ ((p1.2 a0 12) + a2) ∧ ((p1.2 a0 12) + a2) < 4016 then some ((p1.2 (tq_rg a0 0) (((p1.2 a0 12) + a2)).toNatClampNeg), p1.2) else none)))))
set_option maxRecDepth 100000 in
set_option maxHeartbeats 4000000 in
theorem FX12_hill_j89_x {S : Nat × (Nat → Int32)} {d : Nat} {I : tq_PI} {L : tq_PL}   {q0 : Option Value → tq_PI → tq_PL → Prop} {out : Int32 × tq_PI} (hf : FX12_hill_j89 I L = some out) (hk : q0 (some (.int out.1)) out.2 L) : tq_X S mX12_hill (d + 3) tq_k0 89 ([tq_u, tq_u, tq_u]) ([]) (tq_st I L) (tq_Q q0) := by
  unfold FX12_hill_j89 at hf
  refine tq_iconst (-1 : Int32) rX12_hill_89 (by decide) ?_
  refine ty_iret rX12_hill_90 rfl rfl ?_
  have hf := Option.some.inj hf
  subst hf
  exact hk

set_option maxRecDepth 100000 in
set_option maxHeartbeats 4000000 in
theorem FX12_hill_j56_x {S : Nat × (Nat → Int32)} {d : Nat} {I : tq_PI} {L : tq_PL} {b0 : Int32} {b1 : Int32} {b2 : Nat} (k2 : tq_sh0 b2 = 12) {q0 : Option Value → tq_PI → tq_PL → Prop} {out : Int32 × tq_PI} (hf : FX12_hill_j56 I L b0 b1 b2 = some out) (hk : q0 (some (.int out.1)) out.2 L) : tq_X S mX12_hill (d + 3) tq_k0 56 ([tq_u, tq_u, tq_u]) ([.int b0, .int b1, .ref b2]) (tq_st I L) (tq_Q q0) := by
  unfold FX12_hill_j56 at hf
  obtain ⟨p13, e13, hf⟩ := Option.bind_eq_some_iff.mp hf
  refine ty_callVI p13 ([.int b1, .int b0]) ([]) rX12_hill_56 l_X12_252 moX12_stones mvX12_stones k2 rfl rfl (Nat.le_of_ble_eq_true rfl) ⟨rfl, rfl⟩ (CX12_stones k2 e13) ?_
  refine ty_iret rX12_hill_59 rfl rfl ?_
  have hf := Option.some.inj hf
  subst hf
  exact hk

set_option maxRecDepth 100000 in
set_option maxHeartbeats 4000000 in
theorem CX12_hill {S : Nat × (Nat → Int32)} {d : Nat} {I : tq_PI} {L : tq_PL} {a0 : Nat} {a1 : Int32} {a2 : Int32} (h0 : tq_sh0 a0 = 12) {out : Int32 × tq_PI} (hf : FX12_hill I L a0 a1 a2 = some out) : tq_K S mX12_hill (d + 3) [.ref a0, .int a1, .int a2] I L (tq_one2 (some (.int out.1)) out.2 L) := by
  unfold FX12_hill at hf
  refine tq_K_of (by decide) (Nat.le_of_ble_eq_true rfl) (ls := [.ref a0, .int a1, .int a2]) rfl ?_
  refine tq_aload_n rX12_hill_0 rfl ?_
  refine tq_iload_n rX12_hill_1 rfl ?_
  obtain ⟨p1, e1, hf⟩ := Option.bind_eq_some_iff.mp hf
  refine ty_callVI (tq_b p1.1) ([.int a1]) ([]) rX12_hill_2 l_X12_221 moX12_isHill mvX12_isHill h0 rfl rfl (Nat.le_of_ble_eq_true rfl) ⟨rfl, rfl⟩ (CX12_isHill h0 e1) ?_
  refine tq_if_ne rX12_hill_5 (fun c2 => ?_) (fun c2 => ?_)
  · rw [if_neg c2] at hf
    refine tq_iload_n rX12_hill_10 rfl ?_
    refine tq_iconst (0 : Int32) rX12_hill_11 (by decide) ?_
    refine tq_iconst (1 : Int32) rX12_hill_12 (by decide) ?_
    obtain ⟨p3, e3, hf⟩ := tq_let_elim hf
    refine ty_callSI (tq_b p3) ([.int a2, .int (0 : Int32), .int (1 : Int32)]) ([]) rX12_hill_13 l_X12_118 moX12_isIn msX12_isIn rfl rfl (Nat.le_of_ble_eq_true rfl) ⟨rfl, rfl⟩ (CX12_isIn  e3) ?_
    refine tq_if_eq rX12_hill_16 (fun c4 => ?_) (fun c4 => ?_)
    · rw [if_pos c4] at hf
      refine tq_aload_n rX12_hill_31 rfl ?_
      obtain ⟨p5, e5, hf⟩ := Option.bind_eq_some_iff.mp hf
      refine ty_callVV ([]) ([]) rX12_hill_32 l_X12_224 moX12_asTold mvX12_asTold h0 rfl rfl (Nat.le_of_ble_eq_true rfl) ⟨rfl, rfl⟩ (CX12_asTold h0 e5) ?_
      refine tq_iload_n rX12_hill_35 rfl ?_
      refine tq_iconst (2 : Int32) rX12_hill_36 (by decide) ?_
      refine tq_iconst (3 : Int32) rX12_hill_37 (by decide) ?_
      obtain ⟨p6, e6, hf⟩ := tq_let_elim hf
      refine ty_callSI (tq_b p6) ([.int a2, .int (2 : Int32), .int (3 : Int32)]) ([]) rX12_hill_38 l_X12_118 moX12_isIn msX12_isIn rfl rfl (Nat.le_of_ble_eq_true rfl) ⟨rfl, rfl⟩ (CX12_isIn  e6) ?_
      refine tq_if_eq rX12_hill_41 (fun c7 => ?_) (fun c7 => ?_)
      · rw [if_pos c7] at hf
        refine tq_iload_n rX12_hill_60 rfl ?_
        refine tq_bipush (100 : Int32) rX12_hill_61 (by decide) ?_
        refine tq_icmp_lt rX12_hill_63 (fun c8 => ?_) (fun c8 => ?_)
        · rw [if_pos c8] at hf
          exact tq_forget _ (tq_le_u (tq_le_u (tq_le_u tq_le_n))) (FX12_hill_j89_x   hf ⟨rfl, rfl, rfl⟩)
        · rw [if_neg c8] at hf
          refine tq_aload_n rX12_hill_66 rfl ?_
          refine tq_iload_n rX12_hill_67 rfl ?_
          refine tq_bipush (100 : Int32) rX12_hill_68 (by decide) ?_
          refine tq_isub rX12_hill_70 ?_
          obtain ⟨p9, e9, hf⟩ := tq_let_elim hf
          refine ty_callVI (tq_b p9) ([.int (a2 - (100 : Int32))]) ([]) rX12_hill_71 l_X12_233 moX12_isCell mvX12_isCell h0 rfl rfl (Nat.le_of_ble_eq_true rfl) ⟨rfl, rfl⟩ (CX12_isCell h0 e9) ?_
          refine tq_if_eq rX12_hill_74 (fun c10 => ?_) (fun c10 => ?_)
          · rw [if_pos c10] at hf
            exact tq_forget _ (tq_le_u (tq_le_u (tq_le_u tq_le_n))) (FX12_hill_j89_x   hf ⟨rfl, rfl, rfl⟩)
          · rw [if_neg c10] at hf
            refine tq_aload_n rX12_hill_77 rfl ?_
            refine tq_iconst (0 : Int32) rX12_hill_78 (by decide) ?_
            refine tq_iload_n rX12_hill_79 rfl ?_
            refine tq_bipush (100 : Int32) rX12_hill_80 (by decide) ?_
            refine tq_isub rX12_hill_82 ?_
            obtain ⟨p11, e11, hf⟩ := Option.bind_eq_some_iff.mp hf
            refine ty_callVI p11 ([.int (0 : Int32), .int (a2 - (100 : Int32))]) ([]) rX12_hill_83 l_X12_193 moX12_kindOf mvX12_kindOf h0 rfl rfl (Nat.le_of_ble_eq_true rfl) ⟨rfl, rfl⟩ (CX12_kindOf h0 e11) ?_
            refine tq_goto rX12_hill_86 ?_
            refine ty_iret rX12_hill_90 rfl rfl ?_
            have hf := Option.some.inj hf
            subst hf
            exact ⟨rfl, rfl, rfl⟩
      · rw [if_neg c7] at hf
        refine tq_aload_n rX12_hill_44 rfl ?_
        refine tq_iconst (0 : Int32) rX12_hill_45 (by decide) ?_
        refine tq_iload_n rX12_hill_46 rfl ?_
        refine tq_iconst (3 : Int32) rX12_hill_47 (by decide) ?_
        refine tq_icmp_ne rX12_hill_48 (fun c12 => ?_) (fun c12 => ?_)
        · rw [if_neg c12] at hf
          refine tq_iconst (0 : Int32) rX12_hill_55 (by decide) ?_
          exact tq_forget _ (tq_le_u (tq_le_u (tq_le_u tq_le_n))) (FX12_hill_j56_x  h0 hf ⟨rfl, rfl, rfl⟩)
        · rw [if_pos c12] at hf
          refine tq_iconst (1 : Int32) rX12_hill_51 (by decide) ?_
          refine tq_goto rX12_hill_52 ?_
          exact tq_forget _ (tq_le_u (tq_le_u (tq_le_u tq_le_n))) (FX12_hill_j56_x  h0 hf ⟨rfl, rfl, rfl⟩)
    · rw [if_neg c4] at hf
      refine tq_aload_n rX12_hill_19 rfl ?_
      refine ty_getR rX12_hill_20 f_X12_7 rfl h0 (hp_12_0 h0).1 ?_
      refine tq_aload_n rX12_hill_23 rfl ?_
      refine ty_getI rX12_hill_24 f_X12_187 rfl h0 ?_
      refine tq_iload_n rX12_hill_27 rfl ?_
      refine tq_iadd rX12_hill_28 ?_
      obtain ⟨g14, hf⟩ := tq_chk hf
      refine ty_iald (v := 4016) rX12_hill_29 (hp_12_0 h0).2.1 (hp_12_0 h0).2.2 rfl (by decide) g14 ?_
      refine ty_iret rX12_hill_30 rfl rfl ?_
      have hf := Option.some.inj hf
      subst hf
      exact ⟨rfl, rfl, rfl⟩
  · rw [if_pos c2] at hf
    refine tq_iconst (-1 : Int32) rX12_hill_8 (by decide) ?_
    refine ty_iret rX12_hill_9 rfl rfl ?_
    have hf := Option.some.inj hf
    subst hf
    exact ⟨rfl, rfl, rfl⟩

abbrev mX12_thick : tq_M := (yX12_thick, cX12_thick, 2, (Option.some Jvm.ClassFile.FieldType.int), 0, 0)
theorem moX12_thickOf : tq_mok mX12_thickOf 1 := ⟨tq_sg1 _ (List.mem_of_getElem? (i := 13) rfl), tq_sg7 _ (List.mem_of_getElem? (i := 167) rfl), ⟨by decide, by decide, by decide +kernel⟩, by decide⟩
theorem mvX12_thickOf : 12 < 13 ∧ (tq_cl 12).1 = mX12_thickOf.1.cls ∧ Cond.instanceMethod mX12_thickOf.1 ∈ lw_tbl ∧ Cond.selects mX12_thickOf.1.cls mX12_thickOf.1 mX12_thickOf.1 ∈ lw_tbl := ⟨by decide, rfl, tq_sg7 _ (List.mem_of_getElem? (i := 166) rfl), List.mem_append_left _ (List.mem_map.mpr ⟨_, List.mem_of_getElem? (i := 74) rfl, rfl⟩)⟩
theorem l_X12_256 : tq_lok RX12 256 mX12_thickOf.1 := Or.inl (tq_sg7 _ (List.mem_of_getElem? (i := 164) rfl))
theorem rX12_thick_0 : tq_D cX12_thick 0 (.aload_n 0) 1 1 := ⟨by decide +kernel, rfl⟩
theorem rX12_thick_1 : tq_D cX12_thick 1 (.iload_n 1) 1 2 := ⟨by decide +kernel, rfl⟩
theorem rX12_thick_2 : tq_D cX12_thick 2 (.invokevirtual 221) 3 5 := ⟨by decide +kernel, rfl⟩
theorem rX12_thick_5 : tq_J cX12_thick 5 (.ifCond .ne) 10 8 := ⟨5, by decide +kernel, by decide, rfl⟩
theorem rX12_thick_8 : tq_D cX12_thick 8 (.iconst (-1)) 1 9 := ⟨by decide +kernel, rfl⟩
theorem rX12_thick_9 : decode cX12_thick 9 = .ok (.ireturn, 1) := by decide +kernel
theorem rX12_thick_10 : tq_D cX12_thick 10 (.aload_n 0) 1 11 := ⟨by decide +kernel, rfl⟩
theorem rX12_thick_11 : tq_D cX12_thick 11 (.invokevirtual 224) 3 14 := ⟨by decide +kernel, rfl⟩
theorem rX12_thick_14 : tq_D cX12_thick 14 (.aload_n 0) 1 15 := ⟨by decide +kernel, rfl⟩
theorem rX12_thick_15 : tq_D cX12_thick 15 (.iconst 0) 1 16 := ⟨by decide +kernel, rfl⟩
theorem rX12_thick_16 : tq_D cX12_thick 16 (.invokevirtual 256) 3 19 := ⟨by decide +kernel, rfl⟩
theorem rX12_thick_19 : decode cX12_thick 19 = .ok (.ireturn, 1) := by decide +kernel
noncomputable def FX12_thick (I : tq_PI) (L : tq_PL) (a0 : Nat) (a1 : Int32) : Option (Int32 × tq_PI) :=
  ((FX12_isHill I L a0 a1).bind fun p1 => (if (tq_b p1.1) = 0 then some ((-1 : Int32), p1.2) else ((FX12_asTold p1.2 L a0).bind fun p3 => ((FX12_thickOf p3 L a0 ((0 : Int32))).bind fun p4 => some (p4.1, p4.2)))))
set_option maxRecDepth 100000 in
set_option maxHeartbeats 4000000 in
theorem CX12_thick {S : Nat × (Nat → Int32)} {d : Nat} {I : tq_PI} {L : tq_PL} {a0 : Nat} {a1 : Int32} (h0 : tq_sh0 a0 = 12) {out : Int32 × tq_PI} (hf : FX12_thick I L a0 a1 = some out) : tq_K S mX12_thick (d + 5) [.ref a0, .int a1] I L (tq_one2 (some (.int out.1)) out.2 L) := by
  unfold FX12_thick at hf
  refine tq_K_of (by decide) (Nat.le_of_ble_eq_true rfl) (ls := [.ref a0, .int a1]) rfl ?_
  refine tq_aload_n rX12_thick_0 rfl ?_
  refine tq_iload_n rX12_thick_1 rfl ?_
  obtain ⟨p1, e1, hf⟩ := Option.bind_eq_some_iff.mp hf
  refine ty_callVI (tq_b p1.1) ([.int a1]) ([]) rX12_thick_2 l_X12_221 moX12_isHill mvX12_isHill h0 rfl rfl (Nat.le_of_ble_eq_true rfl) ⟨rfl, rfl⟩ (CX12_isHill h0 e1) ?_
  refine tq_if_ne rX12_thick_5 (fun c2 => ?_) (fun c2 => ?_)
  · rw [if_neg c2] at hf
    refine tq_aload_n rX12_thick_10 rfl ?_
    obtain ⟨p3, e3, hf⟩ := Option.bind_eq_some_iff.mp hf
    refine ty_callVV ([]) ([]) rX12_thick_11 l_X12_224 moX12_asTold mvX12_asTold h0 rfl rfl (Nat.le_of_ble_eq_true rfl) ⟨rfl, rfl⟩ (CX12_asTold h0 e3) ?_
    refine tq_aload_n rX12_thick_14 rfl ?_
    refine tq_iconst (0 : Int32) rX12_thick_15 (by decide) ?_
    obtain ⟨p4, e4, hf⟩ := Option.bind_eq_some_iff.mp hf
    refine ty_callVI p4.1 ([.int (0 : Int32)]) ([]) rX12_thick_16 l_X12_256 moX12_thickOf mvX12_thickOf h0 rfl rfl (Nat.le_of_ble_eq_true rfl) ⟨rfl, rfl⟩ (CX12_thickOf h0 e4) ?_
    refine ty_iret rX12_thick_19 rfl rfl ?_
    have hf := Option.some.inj hf
    subst hf
    exact ⟨rfl, rfl, rfl⟩
  · rw [if_pos c2] at hf
    refine tq_iconst (-1 : Int32) rX12_thick_8 (by decide) ?_
    refine ty_iret rX12_thick_9 rfl rfl ?_
    have hf := Option.some.inj hf
    subst hf
    exact ⟨rfl, rfl, rfl⟩

abbrev mX12_isYear : tq_M := (yX12_isYear, cX12_isYear, 2, (Option.some Jvm.ClassFile.FieldType.boolean), 0, 0)
theorem f_X12_259 : tq_fok RX12 259 12 19 := ⟨by decide, by decide, Or.inl (tq_sg6 _ (List.mem_of_getElem? (i := 92) rfl))⟩
theorem rX12_isYear_0 : tq_D cX12_isYear 0 (.aload_n 0) 1 1 := ⟨by decide +kernel, rfl⟩
theorem rX12_isYear_1 : tq_D cX12_isYear 1 (.iconst 1) 1 2 := ⟨by decide +kernel, rfl⟩
theorem rX12_isYear_2 : tq_D cX12_isYear 2 (.iload_n 1) 1 3 := ⟨by decide +kernel, rfl⟩
theorem rX12_isYear_3 : tq_D cX12_isYear 3 (.invokevirtual 157) 3 6 := ⟨by decide +kernel, rfl⟩
theorem rX12_isYear_6 : tq_J cX12_isYear 6 (.ifCond .ne) 11 9 := ⟨5, by decide +kernel, by decide, rfl⟩
theorem rX12_isYear_9 : tq_D cX12_isYear 9 (.iconst 0) 1 10 := ⟨by decide +kernel, rfl⟩
theorem rX12_isYear_10 : decode cX12_isYear 10 = .ok (.ireturn, 1) := by decide +kernel
theorem rX12_isYear_11 : tq_D cX12_isYear 11 (.aload_n 0) 1 12 := ⟨by decide +kernel, rfl⟩
theorem rX12_isYear_12 : tq_D cX12_isYear 12 (.iconst 1) 1 13 := ⟨by decide +kernel, rfl⟩
theorem rX12_isYear_13 : tq_D cX12_isYear 13 (.iload_n 1) 1 14 := ⟨by decide +kernel, rfl⟩
theorem rX12_isYear_14 : tq_D cX12_isYear 14 (.invokestatic 184) 3 17 := ⟨by decide +kernel, rfl⟩
theorem rX12_isYear_17 : tq_D cX12_isYear 17 (.putfield 259) 3 20 := ⟨by decide +kernel, rfl⟩
theorem rX12_isYear_20 : tq_D cX12_isYear 20 (.iconst 1) 1 21 := ⟨by decide +kernel, rfl⟩
theorem rX12_isYear_21 : decode cX12_isYear 21 = .ok (.ireturn, 1) := by decide +kernel
noncomputable def FX12_isYear (I : tq_PI) (L : tq_PL) (a0 : Nat) (a1 : Int32) : Option (Bool × tq_PI) :=
  ((FX12_isOf I L a0 ((1 : Int32)) a1).bind fun p1 => (if (tq_b p1) = 0 then some (false, I) else (tq_let (FX12_placeOf I L ((1 : Int32)) a1) fun p3 => some (true, (tq_up2 I a0 19 p3)))))
set_option maxRecDepth 100000 in
set_option maxHeartbeats 4000000 in
theorem CX12_isYear {S : Nat × (Nat → Int32)} {d : Nat} {I : tq_PI} {L : tq_PL} {a0 : Nat} {a1 : Int32} (h0 : tq_sh0 a0 = 12) {out : Bool × tq_PI} (hf : FX12_isYear I L a0 a1 = some out) : tq_K S mX12_isYear (d + 2) [.ref a0, .int a1] I L (tq_one2 (some (.int (tq_b out.1))) out.2 L) := by
  unfold FX12_isYear at hf
  refine tq_K_of (by decide) (Nat.le_of_ble_eq_true rfl) (ls := [.ref a0, .int a1]) rfl ?_
  refine tq_aload_n rX12_isYear_0 rfl ?_
  refine tq_iconst (1 : Int32) rX12_isYear_1 (by decide) ?_
  refine tq_iload_n rX12_isYear_2 rfl ?_
  obtain ⟨p1, e1, hf⟩ := Option.bind_eq_some_iff.mp hf
  refine ty_callVI (tq_b p1) ([.int (1 : Int32), .int a1]) ([]) rX12_isYear_3 l_X12_157 moX12_isOf mvX12_isOf h0 rfl rfl (Nat.le_of_ble_eq_true rfl) ⟨rfl, rfl⟩ (CX12_isOf h0 e1) ?_
  refine tq_if_ne rX12_isYear_6 (fun c2 => ?_) (fun c2 => ?_)
  · rw [if_neg c2] at hf
    refine tq_aload_n rX12_isYear_11 rfl ?_
    refine tq_iconst (1 : Int32) rX12_isYear_12 (by decide) ?_
    refine tq_iload_n rX12_isYear_13 rfl ?_
    obtain ⟨p3, e3, hf⟩ := tq_let_elim hf
    refine ty_callSI p3 ([.int (1 : Int32), .int a1]) ([.ref a0]) rX12_isYear_14 l_X12_184 moX12_placeOf msX12_placeOf rfl rfl (Nat.le_of_ble_eq_true rfl) ⟨rfl, rfl⟩ (CX12_placeOf  e3) ?_
    refine ty_putI rX12_isYear_17 f_X12_259 rfl h0 rfl ?_
    refine tq_iconst (1 : Int32) rX12_isYear_20 (by decide) ?_
    refine ty_zret (ty := .boolean) rX12_isYear_21 rfl rfl rfl ?_
    have hf := Option.some.inj hf
    subst hf
    exact ⟨rfl, rfl, rfl⟩
  · rw [if_pos c2] at hf
    refine tq_iconst (0 : Int32) rX12_isYear_9 (by decide) ?_
    refine ty_zret (ty := .boolean) rX12_isYear_10 rfl rfl rfl ?_
    have hf := Option.some.inj hf
    subst hf
    exact ⟨rfl, rfl, rfl⟩

abbrev mX12_deed : tq_M := (yX12_deed, cX12_deed, 4, (Option.some Jvm.ClassFile.FieldType.int), 0, 0)
theorem moX12_isYear : tq_mok mX12_isYear 1 := ⟨tq_sg1 _ (List.mem_of_getElem? (i := 13) rfl), tq_sg7 _ (List.mem_of_getElem? (i := 175) rfl), ⟨by decide, by decide, by decide +kernel⟩, by decide⟩
theorem mvX12_isYear : 12 < 13 ∧ (tq_cl 12).1 = mX12_isYear.1.cls ∧ Cond.instanceMethod mX12_isYear.1 ∈ lw_tbl ∧ Cond.selects mX12_isYear.1.cls mX12_isYear.1 mX12_isYear.1 ∈ lw_tbl := ⟨by decide, rfl, tq_sg7 _ (List.mem_of_getElem? (i := 174) rfl), List.mem_append_left _ (List.mem_map.mpr ⟨_, List.mem_of_getElem? (i := 75) rfl, rfl⟩)⟩
theorem l_X12_262 : tq_lok RX12 262 mX12_isYear.1 := Or.inl (tq_sg7 _ (List.mem_of_getElem? (i := 172) rfl))
theorem rX12_deed_0 : tq_D cX12_deed 0 (.aload_n 0) 1 1 := ⟨by decide +kernel, rfl⟩
theorem rX12_deed_1 : tq_D cX12_deed 1 (.iload_n 1) 1 2 := ⟨by decide +kernel, rfl⟩
theorem rX12_deed_2 : tq_D cX12_deed 2 (.invokevirtual 262) 3 5 := ⟨by decide +kernel, rfl⟩
theorem rX12_deed_5 : tq_J cX12_deed 5 (.ifCond .ne) 11 8 := ⟨6, by decide +kernel, by decide, rfl⟩
theorem rX12_deed_8 : tq_D cX12_deed 8 (.bipush (-2)) 2 10 := ⟨by decide +kernel, rfl⟩
theorem rX12_deed_10 : decode cX12_deed 10 = .ok (.ireturn, 1) := by decide +kernel
theorem rX12_deed_11 : tq_D cX12_deed 11 (.iload_n 2) 1 12 := ⟨by decide +kernel, rfl⟩
theorem rX12_deed_12 : tq_D cX12_deed 12 (.iconst (-1)) 1 13 := ⟨by decide +kernel, rfl⟩
theorem rX12_deed_13 : tq_J cX12_deed 13 (.if_icmp .ne) 35 16 := ⟨22, by decide +kernel, by decide, rfl⟩
theorem rX12_deed_16 : tq_D cX12_deed 16 (.iload_n 3) 1 17 := ⟨by decide +kernel, rfl⟩
theorem rX12_deed_17 : tq_J cX12_deed 17 (.ifCond .ne) 32 20 := ⟨15, by decide +kernel, by decide, rfl⟩
theorem rX12_deed_20 : tq_D cX12_deed 20 (.aload_n 0) 1 21 := ⟨by decide +kernel, rfl⟩
theorem rX12_deed_21 : tq_D cX12_deed 21 (.getfield 7) 3 24 := ⟨by decide +kernel, rfl⟩
theorem rX12_deed_24 : tq_D cX12_deed 24 (.aload_n 0) 1 25 := ⟨by decide +kernel, rfl⟩
theorem rX12_deed_25 : tq_D cX12_deed 25 (.getfield 259) 3 28 := ⟨by decide +kernel, rfl⟩
theorem rX12_deed_28 : tq_D cX12_deed 28 (.iaload) 1 29 := ⟨by decide +kernel, rfl⟩
theorem rX12_deed_29 : tq_J cX12_deed 29 .goto 34 32 := ⟨5, by decide +kernel, by decide, rfl⟩
theorem rX12_deed_32 : tq_D cX12_deed 32 (.bipush (-2)) 2 34 := ⟨by decide +kernel, rfl⟩
theorem rX12_deed_34 : decode cX12_deed 34 = .ok (.ireturn, 1) := by decide +kernel
theorem rX12_deed_35 : tq_D cX12_deed 35 (.iload_n 2) 1 36 := ⟨by decide +kernel, rfl⟩
theorem rX12_deed_36 : tq_D cX12_deed 36 (.iconst 0) 1 37 := ⟨by decide +kernel, rfl⟩
theorem rX12_deed_37 : tq_D cX12_deed 37 (.aload_n 0) 1 38 := ⟨by decide +kernel, rfl⟩
theorem rX12_deed_38 : tq_D cX12_deed 38 (.getfield 7) 3 41 := ⟨by decide +kernel, rfl⟩
theorem rX12_deed_41 : tq_D cX12_deed 41 (.aload_n 0) 1 42 := ⟨by decide +kernel, rfl⟩
theorem rX12_deed_42 : tq_D cX12_deed 42 (.getfield 259) 3 45 := ⟨by decide +kernel, rfl⟩
theorem rX12_deed_45 : tq_D cX12_deed 45 (.iaload) 1 46 := ⟨by decide +kernel, rfl⟩
theorem rX12_deed_46 : tq_D cX12_deed 46 (.iconst 1) 1 47 := ⟨by decide +kernel, rfl⟩
theorem rX12_deed_47 : tq_D cX12_deed 47 (.isub) 1 48 := ⟨by decide +kernel, rfl⟩
theorem rX12_deed_48 : tq_D cX12_deed 48 (.invokestatic 118) 3 51 := ⟨by decide +kernel, rfl⟩
theorem rX12_deed_51 : tq_J cX12_deed 51 (.ifCond .eq) 83 54 := ⟨32, by decide +kernel, by decide, rfl⟩
theorem rX12_deed_54 : tq_D cX12_deed 54 (.iload_n 3) 1 55 := ⟨by decide +kernel, rfl⟩
theorem rX12_deed_55 : tq_D cX12_deed 55 (.iconst 0) 1 56 := ⟨by decide +kernel, rfl⟩
theorem rX12_deed_56 : tq_D cX12_deed 56 (.iconst 2) 1 57 := ⟨by decide +kernel, rfl⟩
theorem rX12_deed_57 : tq_D cX12_deed 57 (.invokestatic 118) 3 60 := ⟨by decide +kernel, rfl⟩
theorem rX12_deed_60 : tq_J cX12_deed 60 (.ifCond .eq) 83 63 := ⟨23, by decide +kernel, by decide, rfl⟩
theorem rX12_deed_63 : tq_D cX12_deed 63 (.aload_n 0) 1 64 := ⟨by decide +kernel, rfl⟩
theorem rX12_deed_64 : tq_D cX12_deed 64 (.getfield 7) 3 67 := ⟨by decide +kernel, rfl⟩
theorem rX12_deed_67 : tq_D cX12_deed 67 (.aload_n 0) 1 68 := ⟨by decide +kernel, rfl⟩
theorem rX12_deed_68 : tq_D cX12_deed 68 (.getfield 259) 3 71 := ⟨by decide +kernel, rfl⟩
theorem rX12_deed_71 : tq_D cX12_deed 71 (.iconst 1) 1 72 := ⟨by decide +kernel, rfl⟩
theorem rX12_deed_72 : tq_D cX12_deed 72 (.iadd) 1 73 := ⟨by decide +kernel, rfl⟩
theorem rX12_deed_73 : tq_D cX12_deed 73 (.iconst 3) 1 74 := ⟨by decide +kernel, rfl⟩
theorem rX12_deed_74 : tq_D cX12_deed 74 (.iload_n 2) 1 75 := ⟨by decide +kernel, rfl⟩
theorem rX12_deed_75 : tq_D cX12_deed 75 (.imul) 1 76 := ⟨by decide +kernel, rfl⟩
theorem rX12_deed_76 : tq_D cX12_deed 76 (.iadd) 1 77 := ⟨by decide +kernel, rfl⟩
theorem rX12_deed_77 : tq_D cX12_deed 77 (.iload_n 3) 1 78 := ⟨by decide +kernel, rfl⟩
theorem rX12_deed_78 : tq_D cX12_deed 78 (.iadd) 1 79 := ⟨by decide +kernel, rfl⟩
theorem rX12_deed_79 : tq_D cX12_deed 79 (.iaload) 1 80 := ⟨by decide +kernel, rfl⟩
theorem rX12_deed_80 : tq_J cX12_deed 80 .goto 85 83 := ⟨5, by decide +kernel, by decide, rfl⟩
theorem rX12_deed_83 : tq_D cX12_deed 83 (.bipush (-2)) 2 85 := ⟨by decide +kernel, rfl⟩
theorem rX12_deed_85 : decode cX12_deed 85 = .ok (.ireturn, 1) := by decide +kernel
noncomputable def FX12_deed_j83 (I : tq_PI) (L : tq_PL)  : Option (Int32 × tq_PI) :=
  some ((-2 : Int32), I)
noncomputable def FX12_deed (I : tq_PI) (L : tq_PL) (a0 : Nat) (a1 : Int32) (a2 : Int32) (a3 : Int32) : Option (Int32 × tq_PI) :=
  ((FX12_isYear I L a0 a1).bind fun p1 => (if (tq_b p1.1) = 0 then some ((-2 : Int32), p1.2) else (if a2 = (-1 : Int32) then (if a3 = 0 then (if 0 ≤ (p1.2 a0 19) ∧ (p1.2 a0 19) < 4016 then some ((p1.2 (tq_rg a0 0) ((p1.2 a0 19)).toNatClampNeg), p1.2) else none) else some ((-2 : Int32), p1.2)) else (if 0 ≤ (p1.2 a0 19) ∧ (p1.2 a0 19) < 4016 then (tq_let (FX12_isIn p1.2 L a2 ((0 : Int32)) (((p1.2 (tq_rg a0 0) ((p1.2 a0 19)).toNatClampNeg) - (1 : Int32)))) fun p5 => (if (tq_b p5) = 0 then (FX12_deed_j83 p1.2 L ) else (tq_let (FX12_isIn p1.2 L a3 ((0 : Int32)) ((2 : Int32))) fun p7 => (if (tq_b p7) = 0 then (FX12_deed_j83 p1.2 L ) else (if 0 ≤ ((((p1.2 a0 19) + (1 : Int32)) + ((3 : Int32) * a2)) + a3) ∧ ((((p1.2 a0 19) + (1 : Int32)) + ((3 : Int32) * a2)) + a3) < 4016 then some ((p1.2 (tq_rg a0 0) (((((p1.2 a0 19) + (1 : Int32)) + ((3 : Int32) * a2)) + a3)).toNatClampNeg), p1.2) else none))))) else none))))
set_option maxRecDepth 100000 in
set_option maxHeartbeats 4000000 in
theorem FX12_deed_j83_x {S : Nat × (Nat → Int32)} {d : Nat} {I : tq_PI} {L : tq_PL}   {q0 : Option Value → tq_PI → tq_PL → Prop} {out : Int32 × tq_PI} (hf : FX12_deed_j83 I L = some out) (hk : q0 (some (.int out.1)) out.2 L) : tq_X S mX12_deed (d + 3) tq_k0 83 ([tq_u, tq_u, tq_u, tq_u]) ([]) (tq_st I L) (tq_Q q0) := by
  unfold FX12_deed_j83 at hf
  refine tq_bipush (-2 : Int32) rX12_deed_83 (by decide) ?_
  refine ty_iret rX12_deed_85 rfl rfl ?_
  have hf := Option.some.inj hf
  subst hf
  exact hk

set_option maxRecDepth 100000 in
set_option maxHeartbeats 4000000 in
theorem CX12_deed {S : Nat × (Nat → Int32)} {d : Nat} {I : tq_PI} {L : tq_PL} {a0 : Nat} {a1 : Int32} {a2 : Int32} {a3 : Int32} (h0 : tq_sh0 a0 = 12) {out : Int32 × tq_PI} (hf : FX12_deed I L a0 a1 a2 a3 = some out) : tq_K S mX12_deed (d + 3) [.ref a0, .int a1, .int a2, .int a3] I L (tq_one2 (some (.int out.1)) out.2 L) := by
  unfold FX12_deed at hf
  refine tq_K_of (by decide) (Nat.le_of_ble_eq_true rfl) (ls := [.ref a0, .int a1, .int a2, .int a3]) rfl ?_
  refine tq_aload_n rX12_deed_0 rfl ?_
  refine tq_iload_n rX12_deed_1 rfl ?_
  obtain ⟨p1, e1, hf⟩ := Option.bind_eq_some_iff.mp hf
  refine ty_callVI (tq_b p1.1) ([.int a1]) ([]) rX12_deed_2 l_X12_262 moX12_isYear mvX12_isYear h0 rfl rfl (Nat.le_of_ble_eq_true rfl) ⟨rfl, rfl⟩ (CX12_isYear h0 e1) ?_
  refine tq_if_ne rX12_deed_5 (fun c2 => ?_) (fun c2 => ?_)
  · rw [if_neg c2] at hf
    refine tq_iload_n rX12_deed_11 rfl ?_
    refine tq_iconst (-1 : Int32) rX12_deed_12 (by decide) ?_
    refine tq_icmp_ne rX12_deed_13 (fun c3 => ?_) (fun c3 => ?_)
    · rw [if_neg c3] at hf
      refine tq_iload_n rX12_deed_35 rfl ?_
      refine tq_iconst (0 : Int32) rX12_deed_36 (by decide) ?_
      refine tq_aload_n rX12_deed_37 rfl ?_
      refine ty_getR rX12_deed_38 f_X12_7 rfl h0 (hp_12_0 h0).1 ?_
      refine tq_aload_n rX12_deed_41 rfl ?_
      refine ty_getI rX12_deed_42 f_X12_259 rfl h0 ?_
      obtain ⟨g4, hf⟩ := tq_chk hf
      refine ty_iald (v := 4016) rX12_deed_45 (hp_12_0 h0).2.1 (hp_12_0 h0).2.2 rfl (by decide) g4 ?_
      refine tq_iconst (1 : Int32) rX12_deed_46 (by decide) ?_
      refine tq_isub rX12_deed_47 ?_
      obtain ⟨p5, e5, hf⟩ := tq_let_elim hf
      refine ty_callSI (tq_b p5) ([.int a2, .int (0 : Int32), .int ((p1.2 (tq_rg a0 0) ((p1.2 a0 19)).toNatClampNeg) - (1 : Int32))]) ([]) rX12_deed_48 l_X12_118 moX12_isIn msX12_isIn rfl rfl (Nat.le_of_ble_eq_true rfl) ⟨rfl, rfl⟩ (CX12_isIn  e5) ?_
      refine tq_if_eq rX12_deed_51 (fun c6 => ?_) (fun c6 => ?_)
      · rw [if_pos c6] at hf
        exact tq_forget _ (tq_le_u (tq_le_u (tq_le_u (tq_le_u tq_le_n)))) (FX12_deed_j83_x   hf ⟨rfl, rfl, rfl⟩)
      · rw [if_neg c6] at hf
        refine tq_iload_n rX12_deed_54 rfl ?_
        refine tq_iconst (0 : Int32) rX12_deed_55 (by decide) ?_
        refine tq_iconst (2 : Int32) rX12_deed_56 (by decide) ?_
        obtain ⟨p7, e7, hf⟩ := tq_let_elim hf
        refine ty_callSI (tq_b p7) ([.int a3, .int (0 : Int32), .int (2 : Int32)]) ([]) rX12_deed_57 l_X12_118 moX12_isIn msX12_isIn rfl rfl (Nat.le_of_ble_eq_true rfl) ⟨rfl, rfl⟩ (CX12_isIn  e7) ?_
        refine tq_if_eq rX12_deed_60 (fun c8 => ?_) (fun c8 => ?_)
        · rw [if_pos c8] at hf
          exact tq_forget _ (tq_le_u (tq_le_u (tq_le_u (tq_le_u tq_le_n)))) (FX12_deed_j83_x   hf ⟨rfl, rfl, rfl⟩)
        · rw [if_neg c8] at hf
          refine tq_aload_n rX12_deed_63 rfl ?_
          refine ty_getR rX12_deed_64 f_X12_7 rfl h0 (hp_12_0 h0).1 ?_
          refine tq_aload_n rX12_deed_67 rfl ?_
          refine ty_getI rX12_deed_68 f_X12_259 rfl h0 ?_
          refine tq_iconst (1 : Int32) rX12_deed_71 (by decide) ?_
          refine tq_iadd rX12_deed_72 ?_
          refine tq_iconst (3 : Int32) rX12_deed_73 (by decide) ?_
          refine tq_iload_n rX12_deed_74 rfl ?_
          refine tq_imul rX12_deed_75 ?_
          refine tq_iadd rX12_deed_76 ?_
          refine tq_iload_n rX12_deed_77 rfl ?_
          refine tq_iadd rX12_deed_78 ?_
          obtain ⟨g9, hf⟩ := tq_chk hf
          refine ty_iald (v := 4016) rX12_deed_79 (hp_12_0 h0).2.1 (hp_12_0 h0).2.2 rfl (by decide) g9 ?_
          refine tq_goto rX12_deed_80 ?_
          refine ty_iret rX12_deed_85 rfl rfl ?_
          have hf := Option.some.inj hf
          subst hf
          exact ⟨rfl, rfl, rfl⟩
    · rw [if_pos c3] at hf
      refine tq_iload_n rX12_deed_16 rfl ?_
      refine tq_if_ne rX12_deed_17 (fun c10 => ?_) (fun c10 => ?_)
      · rw [if_neg c10] at hf
        refine tq_bipush (-2 : Int32) rX12_deed_32 (by decide) ?_
        refine ty_iret rX12_deed_34 rfl rfl ?_
        have hf := Option.some.inj hf
        subst hf
        exact ⟨rfl, rfl, rfl⟩
      · rw [if_pos c10] at hf
        refine tq_aload_n rX12_deed_20 rfl ?_
        refine ty_getR rX12_deed_21 f_X12_7 rfl h0 (hp_12_0 h0).1 ?_
        refine tq_aload_n rX12_deed_24 rfl ?_
        refine ty_getI rX12_deed_25 f_X12_259 rfl h0 ?_
        obtain ⟨g11, hf⟩ := tq_chk hf
        refine ty_iald (v := 4016) rX12_deed_28 (hp_12_0 h0).2.1 (hp_12_0 h0).2.2 rfl (by decide) g11 ?_
        refine tq_goto rX12_deed_29 ?_
        refine ty_iret rX12_deed_34 rfl rfl ?_
        have hf := Option.some.inj hf
        subst hf
        exact ⟨rfl, rfl, rfl⟩
  · rw [if_pos c2] at hf
    refine tq_bipush (-2 : Int32) rX12_deed_8 (by decide) ?_
    refine ty_iret rX12_deed_10 rfl rfl ?_
    have hf := Option.some.inj hf
    subst hf
    exact ⟨rfl, rfl, rfl⟩

abbrev mX12_begins : tq_M := (yX12_begins, cX12_begins, 2, (Option.none : Option Jvm.ClassFile.FieldType), 0, 0)
theorem f_X12_265 : tq_fok RX12 265 12 22 := ⟨by decide, by decide, Or.inl (tq_sg6 _ (List.mem_of_getElem? (i := 95) rfl))⟩
theorem f_X12_268 : tq_fok RX12 268 12 23 := ⟨by decide, by decide, Or.inl (tq_sg6 _ (List.mem_of_getElem? (i := 96) rfl))⟩
theorem f_X12_271 : tq_fok RX12 271 12 24 := ⟨by decide, by decide, Or.inl (tq_sg6 _ (List.mem_of_getElem? (i := 97) rfl))⟩
theorem f_X12_32 : tq_fok RX12 32 12 20 := ⟨by decide, by decide, Or.inl (tq_sg6 _ (List.mem_of_getElem? (i := 93) rfl))⟩
theorem f_X12_35 : tq_fok RX12 35 12 21 := ⟨by decide, by decide, Or.inl (tq_sg6 _ (List.mem_of_getElem? (i := 94) rfl))⟩
theorem rX12_begins_0 : tq_D cX12_begins 0 (.aload_n 0) 1 1 := ⟨by decide +kernel, rfl⟩
theorem rX12_begins_1 : tq_D cX12_begins 1 (.invokevirtual 224) 3 4 := ⟨by decide +kernel, rfl⟩
theorem rX12_begins_4 : tq_D cX12_begins 4 (.iconst 0) 1 5 := ⟨by decide +kernel, rfl⟩
theorem rX12_begins_5 : tq_D cX12_begins 5 (.istore_n 1) 1 6 := ⟨by decide +kernel, rfl⟩
theorem rX12_begins_6 : tq_D cX12_begins 6 (.iload_n 1) 1 7 := ⟨by decide +kernel, rfl⟩
theorem rX12_begins_7 : tq_D cX12_begins 7 (.iconst 2) 1 8 := ⟨by decide +kernel, rfl⟩
theorem rX12_begins_8 : tq_J cX12_begins 8 (.if_icmp .ge) 31 11 := ⟨23, by decide +kernel, by decide, rfl⟩
theorem rX12_begins_11 : tq_D cX12_begins 11 (.aload_n 0) 1 12 := ⟨by decide +kernel, rfl⟩
theorem rX12_begins_12 : tq_D cX12_begins 12 (.getfield 32) 3 15 := ⟨by decide +kernel, rfl⟩
theorem rX12_begins_15 : tq_D cX12_begins 15 (.iload_n 1) 1 16 := ⟨by decide +kernel, rfl⟩
theorem rX12_begins_16 : tq_D cX12_begins 16 (.iconst 0) 1 17 := ⟨by decide +kernel, rfl⟩
theorem rX12_begins_17 : tq_D cX12_begins 17 (.iastore) 1 18 := ⟨by decide +kernel, rfl⟩
theorem rX12_begins_18 : tq_D cX12_begins 18 (.aload_n 0) 1 19 := ⟨by decide +kernel, rfl⟩
theorem rX12_begins_19 : tq_D cX12_begins 19 (.getfield 35) 3 22 := ⟨by decide +kernel, rfl⟩
theorem rX12_begins_22 : tq_D cX12_begins 22 (.iload_n 1) 1 23 := ⟨by decide +kernel, rfl⟩
theorem rX12_begins_23 : tq_D cX12_begins 23 (.iconst 0) 1 24 := ⟨by decide +kernel, rfl⟩
theorem rX12_begins_24 : tq_D cX12_begins 24 (.iastore) 1 25 := ⟨by decide +kernel, rfl⟩
theorem rX12_begins_25 : tq_D cX12_begins 25 (.iinc 1 1) 3 28 := ⟨by decide +kernel, rfl⟩
theorem rX12_begins_28 : tq_J cX12_begins 28 .goto 6 31 := ⟨(-22), by decide +kernel, by decide, rfl⟩
theorem rX12_begins_31 : tq_D cX12_begins 31 (.aload_n 0) 1 32 := ⟨by decide +kernel, rfl⟩
theorem rX12_begins_32 : tq_D cX12_begins 32 (.iconst 0) 1 33 := ⟨by decide +kernel, rfl⟩
theorem rX12_begins_33 : tq_D cX12_begins 33 (.putfield 265) 3 36 := ⟨by decide +kernel, rfl⟩
theorem rX12_begins_36 : tq_D cX12_begins 36 (.aload_n 0) 1 37 := ⟨by decide +kernel, rfl⟩
theorem rX12_begins_37 : tq_D cX12_begins 37 (.iconst 0) 1 38 := ⟨by decide +kernel, rfl⟩
theorem rX12_begins_38 : tq_D cX12_begins 38 (.putfield 268) 3 41 := ⟨by decide +kernel, rfl⟩
theorem rX12_begins_41 : tq_D cX12_begins 41 (.aload_n 0) 1 42 := ⟨by decide +kernel, rfl⟩
theorem rX12_begins_42 : tq_D cX12_begins 42 (.iconst 0) 1 43 := ⟨by decide +kernel, rfl⟩
theorem rX12_begins_43 : tq_D cX12_begins 43 (.putfield 271) 3 46 := ⟨by decide +kernel, rfl⟩
theorem rX12_begins_46 : decode cX12_begins 46 = .ok (.return_, 1) := by decide +kernel
noncomputable def FX12_begins_s6 (I : tq_PI) (L : tq_PL) (a0 : Nat) (a1 : Int32) : Option ((Int32 × tq_PI) ⊕ (tq_PI)) :=
  (if (2 : Int32) ≤ a1 then some (.inr I) else (if 0 ≤ a1 ∧ a1 < 2 then (if 0 ≤ a1 ∧ a1 < 2 then some (.inl ((a1 + 1), (tq_up2 (tq_up2 I (tq_rg a0 20) a1.toNatClampNeg (0 : Int32)) (tq_rg a0 21) a1.toNatClampNeg (0 : Int32)))) else none) else none))
noncomputable def FX12_begins (I : tq_PI) (L : tq_PL) (a0 : Nat) : Option (tq_PI) :=
  ((FX12_asTold I L a0).bind fun p1 => ((tq_it (fun p : Int32 × tq_PI => FX12_begins_s6 p.2 L a0 p.1) tq_N ((0 : Int32), p1)).bind fun p5 => some (tq_up2 (tq_up2 (tq_up2 p5 a0 22 (0 : Int32)) a0 23 (0 : Int32)) a0 24 (0 : Int32))))
set_option maxRecDepth 100000 in
set_option maxHeartbeats 4000000 in
theorem FX12_begins_s6_x {S : Nat × (Nat → Int32)} {d : Nat} {I : tq_PI} {L : tq_PL} {a0 : Nat} {a1 : Int32} (h0 : tq_sh0 a0 = 12) {q0 : Option Value → tq_PI → tq_PL → Prop} {out : (Int32 × tq_PI) ⊕ (tq_PI)} (hf : FX12_begins_s6 I L a0 a1 = some out) (hk : Sum.elim (fun p : Int32 × tq_PI => tq_X S mX12_begins (d + 1) tq_k0 6 ([.ref a0, .int p.1]) [] (tq_st p.2 L) (tq_Q q0)) (fun p : tq_PI => tq_X S mX12_begins (d + 1) tq_k0 31 ([.ref a0, tq_u]) [] (tq_st p L) (tq_Q q0)) out) : tq_X S mX12_begins (d + 1) tq_k0 6 ([.ref a0, .int a1]) [] (tq_st I L) (tq_Q q0) := by
  unfold FX12_begins_s6 at hf
  refine tq_iload_n rX12_begins_6 rfl ?_
  refine tq_iconst (2 : Int32) rX12_begins_7 (by decide) ?_
  refine tq_icmp_ge rX12_begins_8 (fun c2 => ?_) (fun c2 => ?_)
  · rw [if_pos c2] at hf
    have hf := Option.some.inj hf
    subst hf
    exact tq_forget _ (tq_le_s (tq_le_u tq_le_n)) hk
  · rw [if_neg c2] at hf
    refine tq_aload_n rX12_begins_11 rfl ?_
    refine ty_getR rX12_begins_12 f_X12_32 rfl h0 (hp_12_20 h0).1 ?_
    refine tq_iload_n rX12_begins_15 rfl ?_
    refine tq_iconst (0 : Int32) rX12_begins_16 (by decide) ?_
    obtain ⟨g3, hf⟩ := tq_chk hf
    refine ty_iast (v := 2) rX12_begins_17 (hp_12_20 h0).2.1 (hp_12_20 h0).2.2 rfl (by decide) g3 ?_
    refine tq_aload_n rX12_begins_18 rfl ?_
    refine ty_getR rX12_begins_19 f_X12_35 rfl h0 (hp_12_21 h0).1 ?_
    refine tq_iload_n rX12_begins_22 rfl ?_
    refine tq_iconst (0 : Int32) rX12_begins_23 (by decide) ?_
    obtain ⟨g4, hf⟩ := tq_chk hf
    refine ty_iast (v := 2) rX12_begins_24 (hp_12_21 h0).2.1 (hp_12_21 h0).2.2 rfl (by decide) g4 ?_
    refine tq_iinc (a1 + 1) ([.ref a0, .int (a1 + 1)]) rX12_begins_25 rfl (tq_inc (by decide)) (Nat.le_of_ble_eq_true rfl) rfl ?_
    refine tq_goto rX12_begins_28 ?_
    have hf := Option.some.inj hf
    subst hf
    exact tq_forget _ (tq_le_s (tq_le_s tq_le_n)) hk

set_option maxRecDepth 100000 in
set_option maxHeartbeats 4000000 in
theorem CX12_begins {S : Nat × (Nat → Int32)} {d : Nat} {I : tq_PI} {L : tq_PL} {a0 : Nat} (h0 : tq_sh0 a0 = 12) {out : tq_PI} (hf : FX12_begins I L a0 = some out) : tq_K S mX12_begins (d + 1) [.ref a0] I L (tq_one2 (none) out L) := by
  unfold FX12_begins at hf
  refine tq_K_of (by decide) (Nat.le_of_ble_eq_true rfl) (ls := [.ref a0, tq_u]) rfl ?_
  refine tq_aload_n rX12_begins_0 rfl ?_
  obtain ⟨p1, e1, hf⟩ := Option.bind_eq_some_iff.mp hf
  refine ty_callVV ([]) ([]) rX12_begins_1 l_X12_224 moX12_asTold mvX12_asTold h0 rfl rfl (Nat.le_of_ble_eq_true rfl) ⟨rfl, rfl⟩ (CX12_asTold h0 e1) ?_
  refine tq_iconst (0 : Int32) rX12_begins_4 (by decide) ?_
  refine tq_istore_n ([.ref a0, .int (0 : Int32)]) rX12_begins_5 (Nat.le_of_ble_eq_true rfl) rfl ?_
  obtain ⟨p5, e5, hf⟩ := Option.bind_eq_some_iff.mp hf
  refine tq_forget _ (tq_le_s (tq_le_s tq_le_n)) ?_
  refine tq_it_elim (P := fun p : Int32 × tq_PI => tq_X S mX12_begins (d + 1) tq_k0 6 ([.ref a0, .int p.1]) [] (tq_st p.2 L) (tq_Q (tq_one2 (none) out L))) (R := fun p : tq_PI => tq_X S mX12_begins (d + 1) tq_k0 31 ([.ref a0, tq_u]) [] (tq_st p L) (tq_Q (tq_one2 (none) out L))) (fun p o hp hk => FX12_begins_s6_x  h0 hp hk) _ (((0 : Int32), p1)) _ e5 ?_
  show tq_X _ _ _ _ _ _ _ _ _
  refine tq_aload_n rX12_begins_31 rfl ?_
  refine tq_iconst (0 : Int32) rX12_begins_32 (by decide) ?_
  refine ty_putI rX12_begins_33 f_X12_265 rfl h0 rfl ?_
  refine tq_aload_n rX12_begins_36 rfl ?_
  refine tq_iconst (0 : Int32) rX12_begins_37 (by decide) ?_
  refine ty_putI rX12_begins_38 f_X12_268 rfl h0 rfl ?_
  refine tq_aload_n rX12_begins_41 rfl ?_
  refine tq_iconst (0 : Int32) rX12_begins_42 (by decide) ?_
  refine ty_putI rX12_begins_43 f_X12_271 rfl h0 rfl ?_
  refine ty_vret rX12_begins_46 rfl rfl ?_
  have hf := Option.some.inj hf
  subst hf
  exact ⟨rfl, rfl, rfl⟩

abbrev mX12_cutBy : tq_M := (yX12_cutBy, cX12_cutBy, 3, (Option.some Jvm.ClassFile.FieldType.boolean), 0, 0)
theorem moX12_blowsOf : tq_mok mX12_blowsOf 1 := ⟨tq_sg1 _ (List.mem_of_getElem? (i := 13) rfl), tq_sg7 _ (List.mem_of_getElem? (i := 210) rfl), ⟨by decide, by decide, by decide +kernel⟩, by decide⟩
theorem msX12_blowsOf : Cond.static mX12_blowsOf.1 ∈ lw_tbl := tq_sg7 _ (List.mem_of_getElem? (i := 209) rfl)
theorem moX12_isCut : tq_mok mX12_isCut 3 := ⟨tq_sg1 _ (List.mem_of_getElem? (i := 13) rfl), tq_sg7 _ (List.mem_of_getElem? (i := 207) rfl), ⟨by decide, by decide, by decide +kernel⟩, by decide⟩
theorem mvX12_isCut : 12 < 13 ∧ (tq_cl 12).1 = mX12_isCut.1.cls ∧ Cond.instanceMethod mX12_isCut.1 ∈ lw_tbl ∧ Cond.selects mX12_isCut.1.cls mX12_isCut.1 mX12_isCut.1 ∈ lw_tbl := ⟨by decide, rfl, tq_sg7 _ (List.mem_of_getElem? (i := 206) rfl), List.mem_append_left _ (List.mem_map.mpr ⟨_, List.mem_of_getElem? (i := 82) rfl, rfl⟩)⟩
theorem moX12_reaches : tq_mok mX12_reaches 2 := ⟨tq_sg1 _ (List.mem_of_getElem? (i := 13) rfl), tq_sg7 _ (List.mem_of_getElem? (i := 203) rfl), ⟨by decide, by decide, by decide +kernel⟩, by decide⟩
theorem mvX12_reaches : 12 < 13 ∧ (tq_cl 12).1 = mX12_reaches.1.cls ∧ Cond.instanceMethod mX12_reaches.1 ∈ lw_tbl ∧ Cond.selects mX12_reaches.1.cls mX12_reaches.1 mX12_reaches.1 ∈ lw_tbl := ⟨by decide, rfl, tq_sg7 _ (List.mem_of_getElem? (i := 202) rfl), List.mem_append_left _ (List.mem_map.mpr ⟨_, List.mem_of_getElem? (i := 81) rfl, rfl⟩)⟩
theorem l_X12_274 : tq_lok RX12 274 mX12_reaches.1 := Or.inl (tq_sg7 _ (List.mem_of_getElem? (i := 200) rfl))
theorem l_X12_277 : tq_lok RX12 277 mX12_isCut.1 := Or.inl (tq_sg7 _ (List.mem_of_getElem? (i := 204) rfl))
theorem l_X12_280 : tq_lok RX12 280 mX12_blowsOf.1 := Or.inl (tq_sg7 _ (List.mem_of_getElem? (i := 208) rfl))
theorem rX12_cutBy_0 : tq_D cX12_cutBy 0 (.aload_n 0) 1 1 := ⟨by decide +kernel, rfl⟩
theorem rX12_cutBy_1 : tq_D cX12_cutBy 1 (.iconst 0) 1 2 := ⟨by decide +kernel, rfl⟩
theorem rX12_cutBy_2 : tq_D cX12_cutBy 2 (.iload_n 1) 1 3 := ⟨by decide +kernel, rfl⟩
theorem rX12_cutBy_3 : tq_D cX12_cutBy 3 (.invokevirtual 274) 3 6 := ⟨by decide +kernel, rfl⟩
theorem rX12_cutBy_6 : tq_D cX12_cutBy 6 (.aload_n 0) 1 7 := ⟨by decide +kernel, rfl⟩
theorem rX12_cutBy_7 : tq_D cX12_cutBy 7 (.iconst 0) 1 8 := ⟨by decide +kernel, rfl⟩
theorem rX12_cutBy_8 : tq_D cX12_cutBy 8 (.iload_n 1) 1 9 := ⟨by decide +kernel, rfl⟩
theorem rX12_cutBy_9 : tq_D cX12_cutBy 9 (.iload_n 2) 1 10 := ⟨by decide +kernel, rfl⟩
theorem rX12_cutBy_10 : tq_D cX12_cutBy 10 (.invokevirtual 277) 3 13 := ⟨by decide +kernel, rfl⟩
theorem rX12_cutBy_13 : tq_J cX12_cutBy 13 (.ifCond .ne) 18 16 := ⟨5, by decide +kernel, by decide, rfl⟩
theorem rX12_cutBy_16 : tq_D cX12_cutBy 16 (.iconst 0) 1 17 := ⟨by decide +kernel, rfl⟩
theorem rX12_cutBy_17 : decode cX12_cutBy 17 = .ok (.ireturn, 1) := by decide +kernel
theorem rX12_cutBy_18 : tq_D cX12_cutBy 18 (.aload_n 0) 1 19 := ⟨by decide +kernel, rfl⟩
theorem rX12_cutBy_19 : tq_D cX12_cutBy 19 (.getfield 32) 3 22 := ⟨by decide +kernel, rfl⟩
theorem rX12_cutBy_22 : tq_D cX12_cutBy 22 (.iload_n 1) 1 23 := ⟨by decide +kernel, rfl⟩
theorem rX12_cutBy_23 : tq_D cX12_cutBy 23 (.dup2) 1 24 := ⟨by decide +kernel, rfl⟩
theorem rX12_cutBy_24 : tq_D cX12_cutBy 24 (.iaload) 1 25 := ⟨by decide +kernel, rfl⟩
theorem rX12_cutBy_25 : tq_D cX12_cutBy 25 (.aload_n 0) 1 26 := ⟨by decide +kernel, rfl⟩
theorem rX12_cutBy_26 : tq_D cX12_cutBy 26 (.getfield 20) 3 29 := ⟨by decide +kernel, rfl⟩
theorem rX12_cutBy_29 : tq_D cX12_cutBy 29 (.iload_n 2) 1 30 := ⟨by decide +kernel, rfl⟩
theorem rX12_cutBy_30 : tq_D cX12_cutBy 30 (.iaload) 1 31 := ⟨by decide +kernel, rfl⟩
theorem rX12_cutBy_31 : tq_D cX12_cutBy 31 (.invokestatic 230) 3 34 := ⟨by decide +kernel, rfl⟩
theorem rX12_cutBy_34 : tq_D cX12_cutBy 34 (.iadd) 1 35 := ⟨by decide +kernel, rfl⟩
theorem rX12_cutBy_35 : tq_D cX12_cutBy 35 (.iastore) 1 36 := ⟨by decide +kernel, rfl⟩
theorem rX12_cutBy_36 : tq_D cX12_cutBy 36 (.aload_n 0) 1 37 := ⟨by decide +kernel, rfl⟩
theorem rX12_cutBy_37 : tq_D cX12_cutBy 37 (.getfield 35) 3 40 := ⟨by decide +kernel, rfl⟩
theorem rX12_cutBy_40 : tq_D cX12_cutBy 40 (.iload_n 1) 1 41 := ⟨by decide +kernel, rfl⟩
theorem rX12_cutBy_41 : tq_D cX12_cutBy 41 (.dup2) 1 42 := ⟨by decide +kernel, rfl⟩
theorem rX12_cutBy_42 : tq_D cX12_cutBy 42 (.iaload) 1 43 := ⟨by decide +kernel, rfl⟩
theorem rX12_cutBy_43 : tq_D cX12_cutBy 43 (.aload_n 0) 1 44 := ⟨by decide +kernel, rfl⟩
theorem rX12_cutBy_44 : tq_D cX12_cutBy 44 (.getfield 20) 3 47 := ⟨by decide +kernel, rfl⟩
theorem rX12_cutBy_47 : tq_D cX12_cutBy 47 (.iload_n 2) 1 48 := ⟨by decide +kernel, rfl⟩
theorem rX12_cutBy_48 : tq_D cX12_cutBy 48 (.iaload) 1 49 := ⟨by decide +kernel, rfl⟩
theorem rX12_cutBy_49 : tq_D cX12_cutBy 49 (.invokestatic 280) 3 52 := ⟨by decide +kernel, rfl⟩
theorem rX12_cutBy_52 : tq_D cX12_cutBy 52 (.iadd) 1 53 := ⟨by decide +kernel, rfl⟩
theorem rX12_cutBy_53 : tq_D cX12_cutBy 53 (.iastore) 1 54 := ⟨by decide +kernel, rfl⟩
theorem rX12_cutBy_54 : tq_D cX12_cutBy 54 (.aload_n 0) 1 55 := ⟨by decide +kernel, rfl⟩
theorem rX12_cutBy_55 : tq_D cX12_cutBy 55 (.getfield 20) 3 58 := ⟨by decide +kernel, rfl⟩
theorem rX12_cutBy_58 : tq_D cX12_cutBy 58 (.iload_n 2) 1 59 := ⟨by decide +kernel, rfl⟩
theorem rX12_cutBy_59 : tq_D cX12_cutBy 59 (.iconst 0) 1 60 := ⟨by decide +kernel, rfl⟩
theorem rX12_cutBy_60 : tq_D cX12_cutBy 60 (.iastore) 1 61 := ⟨by decide +kernel, rfl⟩
theorem rX12_cutBy_61 : tq_D cX12_cutBy 61 (.aload_n 0) 1 62 := ⟨by decide +kernel, rfl⟩
theorem rX12_cutBy_62 : tq_D cX12_cutBy 62 (.dup) 1 63 := ⟨by decide +kernel, rfl⟩
theorem rX12_cutBy_63 : tq_D cX12_cutBy 63 (.getfield 265) 3 66 := ⟨by decide +kernel, rfl⟩
theorem rX12_cutBy_66 : tq_D cX12_cutBy 66 (.aload_n 0) 1 67 := ⟨by decide +kernel, rfl⟩
theorem rX12_cutBy_67 : tq_D cX12_cutBy 67 (.iconst 0) 1 68 := ⟨by decide +kernel, rfl⟩
theorem rX12_cutBy_68 : tq_D cX12_cutBy 68 (.invokevirtual 199) 3 71 := ⟨by decide +kernel, rfl⟩
theorem rX12_cutBy_71 : tq_D cX12_cutBy 71 (.iadd) 1 72 := ⟨by decide +kernel, rfl⟩
theorem rX12_cutBy_72 : tq_D cX12_cutBy 72 (.putfield 265) 3 75 := ⟨by decide +kernel, rfl⟩
theorem rX12_cutBy_75 : tq_D cX12_cutBy 75 (.iconst 1) 1 76 := ⟨by decide +kernel, rfl⟩
theorem rX12_cutBy_76 : decode cX12_cutBy 76 = .ok (.ireturn, 1) := by decide +kernel
noncomputable def FX12_cutBy (I : tq_PI) (L : tq_PL) (a0 : Nat) (a1 : Int32) (a2 : Int32) : Option (Bool × tq_PI) :=
  ((FX12_reaches I L a0 ((0 : Int32)) a1).bind fun p1 => ((FX12_isCut p1 L a0 ((0 : Int32)) a1 a2).bind fun p2 => (if (tq_b p2) = 0 then some (false, p1) else (if 0 ≤ a1 ∧ a1 < 2 then (if 0 ≤ a2 ∧ a2 < 192 then (tq_let (FX12_worthOf p1 L ((p1 (tq_rg a0 15) a2.toNatClampNeg))) fun p6 => (if 0 ≤ a1 ∧ a1 < 2 then (if 0 ≤ a1 ∧ a1 < 2 then (if 0 ≤ a2 ∧ a2 < 192 then (tq_let (FX12_blowsOf ((tq_up2 p1 (tq_rg a0 20) a1.toNatClampNeg ((p1 (tq_rg a0 20) a1.toNatClampNeg) + p6))) L ((((tq_up2 p1 (tq_rg a0 20) a1.toNatClampNeg ((p1 (tq_rg a0 20) a1.toNatClampNeg) + p6))) (tq_rg a0 15) a2.toNatClampNeg))) fun p10 => (if 0 ≤ a1 ∧ a1 < 2 then (if 0 ≤ a2 ∧ a2 < 192 then ((FX12_falls ((tq_up2 (tq_up2 (tq_up2 p1 (tq_rg a0 20) a1.toNatClampNeg ((p1 (tq_rg a0 20) a1.toNatClampNeg) + p6)) (tq_rg a0 21) a1.toNatClampNeg ((((tq_up2 p1 (tq_rg a0 20) a1.toNatClampNeg ((p1 (tq_rg a0 20) a1.toNatClampNeg) + p6))) (tq_rg a0 21) a1.toNatClampNeg) + p10)) (tq_rg a0 15) a2.toNatClampNeg (0 : Int32))) L a0 ((0 : Int32))).bind fun p13 => some (true, (tq_up2 p13.2 a0 22 ((((tq_up2 (tq_up2 (tq_up2 p1 (tq_rg a0 20) a1.toNatClampNeg ((p1 (tq_rg a0 20) a1.toNatClampNeg) + p6)) (tq_rg a0 21) a1.toNatClampNeg ((((tq_up2 p1 (tq_rg a0 20) a1.toNatClampNeg ((p1 (tq_rg a0 20) a1.toNatClampNeg) + p6))) (tq_rg a0 21) a1.toNatClampNeg) + p10)) (tq_rg a0 15) a2.toNatClampNeg (0 : Int32))) a0 22) + p13.1)))) else none) else none)) else none) else none) else none)) else none) else none))))
set_option maxRecDepth 100000 in
set_option maxHeartbeats 4000000 in
theorem CX12_cutBy {S : Nat × (Nat → Int32)} {d : Nat} {I : tq_PI} {L : tq_PL} {a0 : Nat} {a1 : Int32} {a2 : Int32} (h0 : tq_sh0 a0 = 12) {out : Bool × tq_PI} (hf : FX12_cutBy I L a0 a1 a2 = some out) : tq_K S mX12_cutBy (d + 4) [.ref a0, .int a1, .int a2] I L (tq_one2 (some (.int (tq_b out.1))) out.2 L) := by
  unfold FX12_cutBy at hf
  refine tq_K_of (by decide) (Nat.le_of_ble_eq_true rfl) (ls := [.ref a0, .int a1, .int a2]) rfl ?_
  refine tq_aload_n rX12_cutBy_0 rfl ?_
  refine tq_iconst (0 : Int32) rX12_cutBy_1 (by decide) ?_
  refine tq_iload_n rX12_cutBy_2 rfl ?_
  obtain ⟨p1, e1, hf⟩ := Option.bind_eq_some_iff.mp hf
  refine ty_callVV ([.int (0 : Int32), .int a1]) ([]) rX12_cutBy_3 l_X12_274 moX12_reaches mvX12_reaches h0 rfl rfl (Nat.le_of_ble_eq_true rfl) ⟨rfl, rfl⟩ (CX12_reaches h0 e1) ?_
  refine tq_aload_n rX12_cutBy_6 rfl ?_
  refine tq_iconst (0 : Int32) rX12_cutBy_7 (by decide) ?_
  refine tq_iload_n rX12_cutBy_8 rfl ?_
  refine tq_iload_n rX12_cutBy_9 rfl ?_
  obtain ⟨p2, e2, hf⟩ := Option.bind_eq_some_iff.mp hf
  refine ty_callVI (tq_b p2) ([.int (0 : Int32), .int a1, .int a2]) ([]) rX12_cutBy_10 l_X12_277 moX12_isCut mvX12_isCut h0 rfl rfl (Nat.le_of_ble_eq_true rfl) ⟨rfl, rfl⟩ (CX12_isCut h0 e2) ?_
  refine tq_if_ne rX12_cutBy_13 (fun c3 => ?_) (fun c3 => ?_)
  · rw [if_neg c3] at hf
    refine tq_aload_n rX12_cutBy_18 rfl ?_
    refine ty_getR rX12_cutBy_19 f_X12_32 rfl h0 (hp_12_20 h0).1 ?_
    refine tq_iload_n rX12_cutBy_22 rfl ?_
    refine tq_dup2 rX12_cutBy_23 rfl rfl ?_
    obtain ⟨g4, hf⟩ := tq_chk hf
    refine ty_iald (v := 2) rX12_cutBy_24 (hp_12_20 h0).2.1 (hp_12_20 h0).2.2 rfl (by decide) g4 ?_
    refine tq_aload_n rX12_cutBy_25 rfl ?_
    refine ty_getR rX12_cutBy_26 f_X12_20 rfl h0 (hp_12_15 h0).1 ?_
    refine tq_iload_n rX12_cutBy_29 rfl ?_
    obtain ⟨g5, hf⟩ := tq_chk hf
    refine ty_iald (v := 192) rX12_cutBy_30 (hp_12_15 h0).2.1 (hp_12_15 h0).2.2 rfl (by decide) g5 ?_
    obtain ⟨p6, e6, hf⟩ := tq_let_elim hf
    refine ty_callSI p6 ([.int (p1 (tq_rg a0 15) a2.toNatClampNeg)]) ([.int (p1 (tq_rg a0 20) a1.toNatClampNeg), .int a1, .ref (tq_rg a0 20)]) rX12_cutBy_31 l_X12_230 moX12_worthOf msX12_worthOf rfl rfl (Nat.le_of_ble_eq_true rfl) ⟨rfl, rfl⟩ (CX12_worthOf  e6) ?_
    refine tq_iadd rX12_cutBy_34 ?_
    obtain ⟨g7, hf⟩ := tq_chk hf
    refine ty_iast (v := 2) rX12_cutBy_35 (hp_12_20 h0).2.1 (hp_12_20 h0).2.2 rfl (by decide) g7 ?_
    refine tq_aload_n rX12_cutBy_36 rfl ?_
    refine ty_getR rX12_cutBy_37 f_X12_35 rfl h0 (hp_12_21 h0).1 ?_
    refine tq_iload_n rX12_cutBy_40 rfl ?_
    refine tq_dup2 rX12_cutBy_41 rfl rfl ?_
    obtain ⟨g8, hf⟩ := tq_chk hf
    refine ty_iald (v := 2) rX12_cutBy_42 (hp_12_21 h0).2.1 (hp_12_21 h0).2.2 rfl (by decide) g8 ?_
    refine tq_aload_n rX12_cutBy_43 rfl ?_
    refine ty_getR rX12_cutBy_44 f_X12_20 rfl h0 (hp_12_15 h0).1 ?_
    refine tq_iload_n rX12_cutBy_47 rfl ?_
    obtain ⟨g9, hf⟩ := tq_chk hf
    refine ty_iald (v := 192) rX12_cutBy_48 (hp_12_15 h0).2.1 (hp_12_15 h0).2.2 rfl (by decide) g9 ?_
    obtain ⟨p10, e10, hf⟩ := tq_let_elim hf
    refine ty_callSI p10 ([.int (((tq_up2 p1 (tq_rg a0 20) a1.toNatClampNeg ((p1 (tq_rg a0 20) a1.toNatClampNeg) + p6))) (tq_rg a0 15) a2.toNatClampNeg)]) ([.int (((tq_up2 p1 (tq_rg a0 20) a1.toNatClampNeg ((p1 (tq_rg a0 20) a1.toNatClampNeg) + p6))) (tq_rg a0 21) a1.toNatClampNeg), .int a1, .ref (tq_rg a0 21)]) rX12_cutBy_49 l_X12_280 moX12_blowsOf msX12_blowsOf rfl rfl (Nat.le_of_ble_eq_true rfl) ⟨rfl, rfl⟩ (CX12_blowsOf  e10) ?_
    refine tq_iadd rX12_cutBy_52 ?_
    obtain ⟨g11, hf⟩ := tq_chk hf
    refine ty_iast (v := 2) rX12_cutBy_53 (hp_12_21 h0).2.1 (hp_12_21 h0).2.2 rfl (by decide) g11 ?_
    refine tq_aload_n rX12_cutBy_54 rfl ?_
    refine ty_getR rX12_cutBy_55 f_X12_20 rfl h0 (hp_12_15 h0).1 ?_
    refine tq_iload_n rX12_cutBy_58 rfl ?_
    refine tq_iconst (0 : Int32) rX12_cutBy_59 (by decide) ?_
    obtain ⟨g12, hf⟩ := tq_chk hf
    refine ty_iast (v := 192) rX12_cutBy_60 (hp_12_15 h0).2.1 (hp_12_15 h0).2.2 rfl (by decide) g12 ?_
    refine tq_aload_n rX12_cutBy_61 rfl ?_
    refine tq_dup rX12_cutBy_62 rfl ?_
    refine ty_getI rX12_cutBy_63 f_X12_265 rfl h0 ?_
    refine tq_aload_n rX12_cutBy_66 rfl ?_
    refine tq_iconst (0 : Int32) rX12_cutBy_67 (by decide) ?_
    obtain ⟨p13, e13, hf⟩ := Option.bind_eq_some_iff.mp hf
    refine ty_callVI p13.1 ([.int (0 : Int32)]) ([.int (((tq_up2 (tq_up2 (tq_up2 p1 (tq_rg a0 20) a1.toNatClampNeg ((p1 (tq_rg a0 20) a1.toNatClampNeg) + p6)) (tq_rg a0 21) a1.toNatClampNeg ((((tq_up2 p1 (tq_rg a0 20) a1.toNatClampNeg ((p1 (tq_rg a0 20) a1.toNatClampNeg) + p6))) (tq_rg a0 21) a1.toNatClampNeg) + p10)) (tq_rg a0 15) a2.toNatClampNeg (0 : Int32))) a0 22), .ref a0]) rX12_cutBy_68 l_X12_199 moX12_falls mvX12_falls h0 rfl rfl (Nat.le_of_ble_eq_true rfl) ⟨rfl, rfl⟩ (CX12_falls h0 e13) ?_
    refine tq_iadd rX12_cutBy_71 ?_
    refine ty_putI rX12_cutBy_72 f_X12_265 rfl h0 rfl ?_
    refine tq_iconst (1 : Int32) rX12_cutBy_75 (by decide) ?_
    refine ty_zret (ty := .boolean) rX12_cutBy_76 rfl rfl rfl ?_
    have hf := Option.some.inj hf
    subst hf
    exact ⟨rfl, rfl, rfl⟩
  · rw [if_pos c3] at hf
    refine tq_iconst (0 : Int32) rX12_cutBy_16 (by decide) ?_
    refine ty_zret (ty := .boolean) rX12_cutBy_17 rfl rfl rfl ?_
    have hf := Option.some.inj hf
    subst hf
    exact ⟨rfl, rfl, rfl⟩

abbrev mX12_does : tq_M := (yX12_does, cX12_does, 5, (Option.some Jvm.ClassFile.FieldType.boolean), 0, 0)
theorem moX12_cutBy : tq_mok mX12_cutBy 2 := ⟨tq_sg1 _ (List.mem_of_getElem? (i := 13) rfl), tq_sg7 _ (List.mem_of_getElem? (i := 199) rfl), ⟨by decide, by decide, by decide +kernel⟩, by decide⟩
theorem mvX12_cutBy : 12 < 13 ∧ (tq_cl 12).1 = mX12_cutBy.1.cls ∧ Cond.instanceMethod mX12_cutBy.1 ∈ lw_tbl ∧ Cond.selects mX12_cutBy.1.cls mX12_cutBy.1 mX12_cutBy.1 ∈ lw_tbl := ⟨by decide, rfl, tq_sg7 _ (List.mem_of_getElem? (i := 198) rfl), List.mem_append_left _ (List.mem_map.mpr ⟨_, List.mem_of_getElem? (i := 80) rfl, rfl⟩)⟩
theorem l_X12_283 : tq_lok RX12 283 mX12_cutBy.1 := Or.inl (tq_sg7 _ (List.mem_of_getElem? (i := 196) rfl))
theorem rX12_does_0 : tq_D cX12_does 0 (.iload_n 1) 1 1 := ⟨by decide +kernel, rfl⟩
theorem rX12_does_1 : tq_D cX12_does 1 (.iconst 3) 1 2 := ⟨by decide +kernel, rfl⟩
theorem rX12_does_2 : tq_J cX12_does 2 (.if_icmp .ne) 40 5 := ⟨38, by decide +kernel, by decide, rfl⟩
theorem rX12_does_5 : tq_D cX12_does 5 (.aload_n 0) 1 6 := ⟨by decide +kernel, rfl⟩
theorem rX12_does_6 : tq_D cX12_does 6 (.iconst 0) 1 7 := ⟨by decide +kernel, rfl⟩
theorem rX12_does_7 : tq_D cX12_does 7 (.invokevirtual 256) 3 10 := ⟨by decide +kernel, rfl⟩
theorem rX12_does_10 : tq_D cX12_does 10 (.istore 4) 2 12 := ⟨by decide +kernel, rfl⟩
theorem rX12_does_12 : tq_D cX12_does 12 (.aload_n 0) 1 13 := ⟨by decide +kernel, rfl⟩
theorem rX12_does_13 : tq_D cX12_does 13 (.dup) 1 14 := ⟨by decide +kernel, rfl⟩
theorem rX12_does_14 : tq_D cX12_does 14 (.getfield 268) 3 17 := ⟨by decide +kernel, rfl⟩
theorem rX12_does_17 : tq_D cX12_does 17 (.iload 4) 2 19 := ⟨by decide +kernel, rfl⟩
theorem rX12_does_19 : tq_D cX12_does 19 (.iconst (-1)) 1 20 := ⟨by decide +kernel, rfl⟩
theorem rX12_does_20 : tq_J cX12_does 20 (.if_icmp .eq) 33 23 := ⟨13, by decide +kernel, by decide, rfl⟩
theorem rX12_does_23 : tq_D cX12_does 23 (.iload 4) 2 25 := ⟨by decide +kernel, rfl⟩
theorem rX12_does_25 : tq_D cX12_does 25 (.iload_n 3) 1 26 := ⟨by decide +kernel, rfl⟩
theorem rX12_does_26 : tq_J cX12_does 26 (.if_icmp .gt) 33 29 := ⟨7, by decide +kernel, by decide, rfl⟩
theorem rX12_does_29 : tq_D cX12_does 29 (.iconst 1) 1 30 := ⟨by decide +kernel, rfl⟩
theorem rX12_does_30 : tq_J cX12_does 30 .goto 34 33 := ⟨4, by decide +kernel, by decide, rfl⟩
theorem rX12_does_33 : tq_D cX12_does 33 (.iconst 0) 1 34 := ⟨by decide +kernel, rfl⟩
theorem rX12_does_34 : tq_D cX12_does 34 (.iadd) 1 35 := ⟨by decide +kernel, rfl⟩
theorem rX12_does_35 : tq_D cX12_does 35 (.putfield 268) 3 38 := ⟨by decide +kernel, rfl⟩
theorem rX12_does_38 : tq_D cX12_does 38 (.iconst 1) 1 39 := ⟨by decide +kernel, rfl⟩
theorem rX12_does_39 : decode cX12_does 39 = .ok (.ireturn, 1) := by decide +kernel
theorem rX12_does_40 : tq_D cX12_does 40 (.iload_n 1) 1 41 := ⟨by decide +kernel, rfl⟩
theorem rX12_does_41 : tq_D cX12_does 41 (.iconst 2) 1 42 := ⟨by decide +kernel, rfl⟩
theorem rX12_does_42 : tq_J cX12_does 42 (.if_icmp .ge) 52 45 := ⟨10, by decide +kernel, by decide, rfl⟩
theorem rX12_does_45 : tq_D cX12_does 45 (.aload_n 0) 1 46 := ⟨by decide +kernel, rfl⟩
theorem rX12_does_46 : tq_D cX12_does 46 (.iload_n 1) 1 47 := ⟨by decide +kernel, rfl⟩
theorem rX12_does_47 : tq_D cX12_does 47 (.iload_n 2) 1 48 := ⟨by decide +kernel, rfl⟩
theorem rX12_does_48 : tq_D cX12_does 48 (.invokevirtual 283) 3 51 := ⟨by decide +kernel, rfl⟩
theorem rX12_does_51 : decode cX12_does 51 = .ok (.ireturn, 1) := by decide +kernel
theorem rX12_does_52 : tq_D cX12_does 52 (.aload_n 0) 1 53 := ⟨by decide +kernel, rfl⟩
theorem rX12_does_53 : tq_D cX12_does 53 (.iconst 0) 1 54 := ⟨by decide +kernel, rfl⟩
theorem rX12_does_54 : tq_D cX12_does 54 (.iload_n 2) 1 55 := ⟨by decide +kernel, rfl⟩
theorem rX12_does_55 : tq_D cX12_does 55 (.invokevirtual 193) 3 58 := ⟨by decide +kernel, rfl⟩
theorem rX12_does_58 : tq_J cX12_does 58 (.ifCond .eq) 63 61 := ⟨5, by decide +kernel, by decide, rfl⟩
theorem rX12_does_61 : tq_D cX12_does 61 (.iconst 0) 1 62 := ⟨by decide +kernel, rfl⟩
theorem rX12_does_62 : decode cX12_does 62 = .ok (.ireturn, 1) := by decide +kernel
theorem rX12_does_63 : tq_D cX12_does 63 (.aload_n 0) 1 64 := ⟨by decide +kernel, rfl⟩
theorem rX12_does_64 : tq_D cX12_does 64 (.getfield 20) 3 67 := ⟨by decide +kernel, rfl⟩
theorem rX12_does_67 : tq_D cX12_does 67 (.iload_n 2) 1 68 := ⟨by decide +kernel, rfl⟩
theorem rX12_does_68 : tq_D cX12_does 68 (.iconst 4) 1 69 := ⟨by decide +kernel, rfl⟩
theorem rX12_does_69 : tq_D cX12_does 69 (.iastore) 1 70 := ⟨by decide +kernel, rfl⟩
theorem rX12_does_70 : tq_D cX12_does 70 (.iconst 1) 1 71 := ⟨by decide +kernel, rfl⟩
theorem rX12_does_71 : decode cX12_does 71 = .ok (.ireturn, 1) := by decide +kernel
noncomputable def FX12_does_j34 (I : tq_PI) (L : tq_PL) (b0 : Int32) (b1 : Int32) (b2 : Nat) : Option (Bool × tq_PI) :=
  some (true, (tq_up2 I b2 23 (b1 + b0)))
noncomputable def FX12_does_j33 (I : tq_PI) (L : tq_PL) (b0 : Int32) (b1 : Nat) : Option (Bool × tq_PI) :=
  (FX12_does_j34 I L ((0 : Int32)) b0 b1)
noncomputable def FX12_does (I : tq_PI) (L : tq_PL) (a0 : Nat) (a1 : Int32) (a2 : Int32) (a3 : Int32) : Option (Bool × tq_PI) :=
  (if a1 = (3 : Int32) then ((FX12_thickOf I L a0 ((0 : Int32))).bind fun p7 => (if p7.1 = (-1 : Int32) then (FX12_does_j33 p7.2 L ((p7.2 a0 23)) a0) else (if a3 < p7.1 then (FX12_does_j33 p7.2 L ((p7.2 a0 23)) a0) else (FX12_does_j34 p7.2 L ((1 : Int32)) ((p7.2 a0 23)) a0)))) else (if (2 : Int32) ≤ a1 then ((FX12_kindOf I L a0 ((0 : Int32)) a2).bind fun p3 => (if p3 = 0 then (if 0 ≤ a2 ∧ a2 < 192 then some (true, (tq_up2 I (tq_rg a0 15) a2.toNatClampNeg (4 : Int32))) else none) else some (false, I))) else ((FX12_cutBy I L a0 a1 a2).bind fun p6 => some (p6.1, p6.2))))
set_option maxRecDepth 100000 in
set_option maxHeartbeats 4000000 in
theorem FX12_does_j34_x {S : Nat × (Nat → Int32)} {d : Nat} {I : tq_PI} {L : tq_PL} {b0 : Int32} {b1 : Int32} {b2 : Nat} (k2 : tq_sh0 b2 = 12) {q0 : Option Value → tq_PI → tq_PL → Prop} {out : Bool × tq_PI} (hf : FX12_does_j34 I L b0 b1 b2 = some out) (hk : q0 (some (.int (tq_b out.1))) out.2 L) : tq_X S mX12_does (d + 5) tq_k0 34 ([tq_u, tq_u, tq_u, tq_u, tq_u]) ([.int b0, .int b1, .ref b2]) (tq_st I L) (tq_Q q0) := by
  unfold FX12_does_j34 at hf
  refine tq_iadd rX12_does_34 ?_
  refine ty_putI rX12_does_35 f_X12_268 rfl k2 rfl ?_
  refine tq_iconst (1 : Int32) rX12_does_38 (by decide) ?_
  refine ty_zret (ty := .boolean) rX12_does_39 rfl rfl rfl ?_
  have hf := Option.some.inj hf
  subst hf
  exact hk

set_option maxRecDepth 100000 in
set_option maxHeartbeats 4000000 in
theorem FX12_does_j33_x {S : Nat × (Nat → Int32)} {d : Nat} {I : tq_PI} {L : tq_PL} {b0 : Int32} {b1 : Nat} (k1 : tq_sh0 b1 = 12) {q0 : Option Value → tq_PI → tq_PL → Prop} {out : Bool × tq_PI} (hf : FX12_does_j33 I L b0 b1 = some out) (hk : q0 (some (.int (tq_b out.1))) out.2 L) : tq_X S mX12_does (d + 5) tq_k0 33 ([tq_u, tq_u, tq_u, tq_u, tq_u]) ([.int b0, .ref b1]) (tq_st I L) (tq_Q q0) := by
  unfold FX12_does_j33 at hf
  refine tq_iconst (0 : Int32) rX12_does_33 (by decide) ?_
  exact tq_forget _ (tq_le_u (tq_le_u (tq_le_u (tq_le_u (tq_le_u tq_le_n))))) (FX12_does_j34_x  k1 hf hk)

set_option maxRecDepth 100000 in
set_option maxHeartbeats 4000000 in
theorem CX12_does {S : Nat × (Nat → Int32)} {d : Nat} {I : tq_PI} {L : tq_PL} {a0 : Nat} {a1 : Int32} {a2 : Int32} {a3 : Int32} (h0 : tq_sh0 a0 = 12) {out : Bool × tq_PI} (hf : FX12_does I L a0 a1 a2 a3 = some out) : tq_K S mX12_does (d + 5) [.ref a0, .int a1, .int a2, .int a3] I L (tq_one2 (some (.int (tq_b out.1))) out.2 L) := by
  unfold FX12_does at hf
  refine tq_K_of (by decide) (Nat.le_of_ble_eq_true rfl) (ls := [.ref a0, .int a1, .int a2, .int a3, tq_u]) rfl ?_
  refine tq_iload_n rX12_does_0 rfl ?_
  refine tq_iconst (3 : Int32) rX12_does_1 (by decide) ?_
  refine tq_icmp_ne rX12_does_2 (fun c1 => ?_) (fun c1 => ?_)
  · rw [if_neg c1] at hf
    refine tq_iload_n rX12_does_40 rfl ?_
    refine tq_iconst (2 : Int32) rX12_does_41 (by decide) ?_
    refine tq_icmp_ge rX12_does_42 (fun c2 => ?_) (fun c2 => ?_)
    · rw [if_pos c2] at hf
      refine tq_aload_n rX12_does_52 rfl ?_
      refine tq_iconst (0 : Int32) rX12_does_53 (by decide) ?_
      refine tq_iload_n rX12_does_54 rfl ?_
      obtain ⟨p3, e3, hf⟩ := Option.bind_eq_some_iff.mp hf
      refine ty_callVI p3 ([.int (0 : Int32), .int a2]) ([]) rX12_does_55 l_X12_193 moX12_kindOf mvX12_kindOf h0 rfl rfl (Nat.le_of_ble_eq_true rfl) ⟨rfl, rfl⟩ (CX12_kindOf h0 e3) ?_
      refine tq_if_eq rX12_does_58 (fun c4 => ?_) (fun c4 => ?_)
      · rw [if_pos c4] at hf
        refine tq_aload_n rX12_does_63 rfl ?_
        refine ty_getR rX12_does_64 f_X12_20 rfl h0 (hp_12_15 h0).1 ?_
        refine tq_iload_n rX12_does_67 rfl ?_
        refine tq_iconst (4 : Int32) rX12_does_68 (by decide) ?_
        obtain ⟨g5, hf⟩ := tq_chk hf
        refine ty_iast (v := 192) rX12_does_69 (hp_12_15 h0).2.1 (hp_12_15 h0).2.2 rfl (by decide) g5 ?_
        refine tq_iconst (1 : Int32) rX12_does_70 (by decide) ?_
        refine ty_zret (ty := .boolean) rX12_does_71 rfl rfl rfl ?_
        have hf := Option.some.inj hf
        subst hf
        exact ⟨rfl, rfl, rfl⟩
      · rw [if_neg c4] at hf
        refine tq_iconst (0 : Int32) rX12_does_61 (by decide) ?_
        refine ty_zret (ty := .boolean) rX12_does_62 rfl rfl rfl ?_
        have hf := Option.some.inj hf
        subst hf
        exact ⟨rfl, rfl, rfl⟩
    · rw [if_neg c2] at hf
      refine tq_aload_n rX12_does_45 rfl ?_
      refine tq_iload_n rX12_does_46 rfl ?_
      refine tq_iload_n rX12_does_47 rfl ?_
      obtain ⟨p6, e6, hf⟩ := Option.bind_eq_some_iff.mp hf
      refine ty_callVI (tq_b p6.1) ([.int a1, .int a2]) ([]) rX12_does_48 l_X12_283 moX12_cutBy mvX12_cutBy h0 rfl rfl (Nat.le_of_ble_eq_true rfl) ⟨rfl, rfl⟩ (CX12_cutBy h0 e6) ?_
      refine ty_zret (ty := .boolean) rX12_does_51 rfl (tq_fitZ (tq_b01 _)).1 rfl ?_
      have hf := Option.some.inj hf
      subst hf
      exact ⟨rfl, rfl, rfl⟩
  · rw [if_pos c1] at hf
    refine tq_aload_n rX12_does_5 rfl ?_
    refine tq_iconst (0 : Int32) rX12_does_6 (by decide) ?_
    obtain ⟨p7, e7, hf⟩ := Option.bind_eq_some_iff.mp hf
    refine ty_callVI p7.1 ([.int (0 : Int32)]) ([]) rX12_does_7 l_X12_256 moX12_thickOf mvX12_thickOf h0 rfl rfl (Nat.le_of_ble_eq_true rfl) ⟨rfl, rfl⟩ (CX12_thickOf h0 e7) ?_
    refine tq_istore ([.ref a0, .int a1, .int a2, .int a3, .int p7.1]) rX12_does_10 (Nat.le_of_ble_eq_true rfl) rfl ?_
    refine tq_aload_n rX12_does_12 rfl ?_
    refine tq_dup rX12_does_13 rfl ?_
    refine ty_getI rX12_does_14 f_X12_268 rfl h0 ?_
    refine tq_iload rX12_does_17 rfl ?_
    refine tq_iconst (-1 : Int32) rX12_does_19 (by decide) ?_
    refine tq_icmp_eq rX12_does_20 (fun c8 => ?_) (fun c8 => ?_)
    · rw [if_pos c8] at hf
      exact tq_forget _ (tq_le_u (tq_le_u (tq_le_u (tq_le_u (tq_le_u tq_le_n))))) (FX12_does_j33_x  h0 hf ⟨rfl, rfl, rfl⟩)
    · rw [if_neg c8] at hf
      refine tq_iload rX12_does_23 rfl ?_
      refine tq_iload_n rX12_does_25 rfl ?_
      refine tq_icmp_gt rX12_does_26 (fun c9 => ?_) (fun c9 => ?_)
      · rw [if_pos c9] at hf
        exact tq_forget _ (tq_le_u (tq_le_u (tq_le_u (tq_le_u (tq_le_u tq_le_n))))) (FX12_does_j33_x  h0 hf ⟨rfl, rfl, rfl⟩)
      · rw [if_neg c9] at hf
        refine tq_iconst (1 : Int32) rX12_does_29 (by decide) ?_
        refine tq_goto rX12_does_30 ?_
        exact tq_forget _ (tq_le_u (tq_le_u (tq_le_u (tq_le_u (tq_le_u tq_le_n))))) (FX12_does_j34_x  h0 hf ⟨rfl, rfl, rfl⟩)

abbrev mX12_doesTold : tq_M := (yX12_doesTold, cX12_doesTold, 5, (Option.some Jvm.ClassFile.FieldType.boolean), 0, 0)
theorem moX12_does : tq_mok mX12_does 3 := ⟨tq_sg1 _ (List.mem_of_getElem? (i := 13) rfl), tq_sg7 _ (List.mem_of_getElem? (i := 195) rfl), ⟨by decide, by decide, by decide +kernel⟩, by decide⟩
theorem mvX12_does : 12 < 13 ∧ (tq_cl 12).1 = mX12_does.1.cls ∧ Cond.instanceMethod mX12_does.1 ∈ lw_tbl ∧ Cond.selects mX12_does.1.cls mX12_does.1 mX12_does.1 ∈ lw_tbl := ⟨by decide, rfl, tq_sg7 _ (List.mem_of_getElem? (i := 194) rfl), List.mem_append_left _ (List.mem_map.mpr ⟨_, List.mem_of_getElem? (i := 79) rfl, rfl⟩)⟩
theorem l_X12_286 : tq_lok RX12 286 mX12_does.1 := Or.inl (tq_sg7 _ (List.mem_of_getElem? (i := 192) rfl))
theorem rX12_doesTold_0 : tq_D cX12_doesTold 0 (.aload_n 0) 1 1 := ⟨by decide +kernel, rfl⟩
theorem rX12_doesTold_1 : tq_D cX12_doesTold 1 (.getfield 7) 3 4 := ⟨by decide +kernel, rfl⟩
theorem rX12_doesTold_4 : tq_D cX12_doesTold 4 (.aload_n 0) 1 5 := ⟨by decide +kernel, rfl⟩
theorem rX12_doesTold_5 : tq_D cX12_doesTold 5 (.getfield 259) 3 8 := ⟨by decide +kernel, rfl⟩
theorem rX12_doesTold_8 : tq_D cX12_doesTold 8 (.iconst 1) 1 9 := ⟨by decide +kernel, rfl⟩
theorem rX12_doesTold_9 : tq_D cX12_doesTold 9 (.iadd) 1 10 := ⟨by decide +kernel, rfl⟩
theorem rX12_doesTold_10 : tq_D cX12_doesTold 10 (.iconst 3) 1 11 := ⟨by decide +kernel, rfl⟩
theorem rX12_doesTold_11 : tq_D cX12_doesTold 11 (.iload_n 1) 1 12 := ⟨by decide +kernel, rfl⟩
theorem rX12_doesTold_12 : tq_D cX12_doesTold 12 (.imul) 1 13 := ⟨by decide +kernel, rfl⟩
theorem rX12_doesTold_13 : tq_D cX12_doesTold 13 (.iadd) 1 14 := ⟨by decide +kernel, rfl⟩
theorem rX12_doesTold_14 : tq_D cX12_doesTold 14 (.iaload) 1 15 := ⟨by decide +kernel, rfl⟩
theorem rX12_doesTold_15 : tq_D cX12_doesTold 15 (.istore_n 2) 1 16 := ⟨by decide +kernel, rfl⟩
theorem rX12_doesTold_16 : tq_D cX12_doesTold 16 (.aload_n 0) 1 17 := ⟨by decide +kernel, rfl⟩
theorem rX12_doesTold_17 : tq_D cX12_doesTold 17 (.getfield 7) 3 20 := ⟨by decide +kernel, rfl⟩
theorem rX12_doesTold_20 : tq_D cX12_doesTold 20 (.aload_n 0) 1 21 := ⟨by decide +kernel, rfl⟩
theorem rX12_doesTold_21 : tq_D cX12_doesTold 21 (.getfield 259) 3 24 := ⟨by decide +kernel, rfl⟩
theorem rX12_doesTold_24 : tq_D cX12_doesTold 24 (.iconst 2) 1 25 := ⟨by decide +kernel, rfl⟩
theorem rX12_doesTold_25 : tq_D cX12_doesTold 25 (.iadd) 1 26 := ⟨by decide +kernel, rfl⟩
theorem rX12_doesTold_26 : tq_D cX12_doesTold 26 (.iconst 3) 1 27 := ⟨by decide +kernel, rfl⟩
theorem rX12_doesTold_27 : tq_D cX12_doesTold 27 (.iload_n 1) 1 28 := ⟨by decide +kernel, rfl⟩
theorem rX12_doesTold_28 : tq_D cX12_doesTold 28 (.imul) 1 29 := ⟨by decide +kernel, rfl⟩
theorem rX12_doesTold_29 : tq_D cX12_doesTold 29 (.iadd) 1 30 := ⟨by decide +kernel, rfl⟩
theorem rX12_doesTold_30 : tq_D cX12_doesTold 30 (.iaload) 1 31 := ⟨by decide +kernel, rfl⟩
theorem rX12_doesTold_31 : tq_D cX12_doesTold 31 (.istore_n 3) 1 32 := ⟨by decide +kernel, rfl⟩
theorem rX12_doesTold_32 : tq_D cX12_doesTold 32 (.aload_n 0) 1 33 := ⟨by decide +kernel, rfl⟩
theorem rX12_doesTold_33 : tq_D cX12_doesTold 33 (.getfield 7) 3 36 := ⟨by decide +kernel, rfl⟩
theorem rX12_doesTold_36 : tq_D cX12_doesTold 36 (.aload_n 0) 1 37 := ⟨by decide +kernel, rfl⟩
theorem rX12_doesTold_37 : tq_D cX12_doesTold 37 (.getfield 259) 3 40 := ⟨by decide +kernel, rfl⟩
theorem rX12_doesTold_40 : tq_D cX12_doesTold 40 (.iconst 3) 1 41 := ⟨by decide +kernel, rfl⟩
theorem rX12_doesTold_41 : tq_D cX12_doesTold 41 (.iadd) 1 42 := ⟨by decide +kernel, rfl⟩
theorem rX12_doesTold_42 : tq_D cX12_doesTold 42 (.iconst 3) 1 43 := ⟨by decide +kernel, rfl⟩
theorem rX12_doesTold_43 : tq_D cX12_doesTold 43 (.iload_n 1) 1 44 := ⟨by decide +kernel, rfl⟩
theorem rX12_doesTold_44 : tq_D cX12_doesTold 44 (.imul) 1 45 := ⟨by decide +kernel, rfl⟩
theorem rX12_doesTold_45 : tq_D cX12_doesTold 45 (.iadd) 1 46 := ⟨by decide +kernel, rfl⟩
theorem rX12_doesTold_46 : tq_D cX12_doesTold 46 (.iaload) 1 47 := ⟨by decide +kernel, rfl⟩
theorem rX12_doesTold_47 : tq_D cX12_doesTold 47 (.istore 4) 2 49 := ⟨by decide +kernel, rfl⟩
theorem rX12_doesTold_49 : tq_D cX12_doesTold 49 (.iload_n 2) 1 50 := ⟨by decide +kernel, rfl⟩
theorem rX12_doesTold_50 : tq_D cX12_doesTold 50 (.iconst 3) 1 51 := ⟨by decide +kernel, rfl⟩
theorem rX12_doesTold_51 : tq_J cX12_doesTold 51 (.if_icmp .eq) 73 54 := ⟨22, by decide +kernel, by decide, rfl⟩
theorem rX12_doesTold_54 : tq_D cX12_doesTold 54 (.iload_n 3) 1 55 := ⟨by decide +kernel, rfl⟩
theorem rX12_doesTold_55 : tq_D cX12_doesTold 55 (.aload_n 0) 1 56 := ⟨by decide +kernel, rfl⟩
theorem rX12_doesTold_56 : tq_D cX12_doesTold 56 (.getfield 148) 3 59 := ⟨by decide +kernel, rfl⟩
theorem rX12_doesTold_59 : tq_J cX12_doesTold 59 (.if_icmp .ge) 71 62 := ⟨12, by decide +kernel, by decide, rfl⟩
theorem rX12_doesTold_62 : tq_D cX12_doesTold 62 (.iload 4) 2 64 := ⟨by decide +kernel, rfl⟩
theorem rX12_doesTold_64 : tq_D cX12_doesTold 64 (.aload_n 0) 1 65 := ⟨by decide +kernel, rfl⟩
theorem rX12_doesTold_65 : tq_D cX12_doesTold 65 (.getfield 151) 3 68 := ⟨by decide +kernel, rfl⟩
theorem rX12_doesTold_68 : tq_J cX12_doesTold 68 (.if_icmp .lt) 73 71 := ⟨5, by decide +kernel, by decide, rfl⟩
theorem rX12_doesTold_71 : tq_D cX12_doesTold 71 (.iconst 0) 1 72 := ⟨by decide +kernel, rfl⟩
theorem rX12_doesTold_72 : decode cX12_doesTold 72 = .ok (.ireturn, 1) := by decide +kernel
theorem rX12_doesTold_73 : tq_D cX12_doesTold 73 (.aload_n 0) 1 74 := ⟨by decide +kernel, rfl⟩
theorem rX12_doesTold_74 : tq_D cX12_doesTold 74 (.iload_n 2) 1 75 := ⟨by decide +kernel, rfl⟩
theorem rX12_doesTold_75 : tq_D cX12_doesTold 75 (.aload_n 0) 1 76 := ⟨by decide +kernel, rfl⟩
theorem rX12_doesTold_76 : tq_D cX12_doesTold 76 (.getfield 148) 3 79 := ⟨by decide +kernel, rfl⟩
theorem rX12_doesTold_79 : tq_D cX12_doesTold 79 (.iload 4) 2 81 := ⟨by decide +kernel, rfl⟩
theorem rX12_doesTold_81 : tq_D cX12_doesTold 81 (.imul) 1 82 := ⟨by decide +kernel, rfl⟩
theorem rX12_doesTold_82 : tq_D cX12_doesTold 82 (.iload_n 3) 1 83 := ⟨by decide +kernel, rfl⟩
theorem rX12_doesTold_83 : tq_D cX12_doesTold 83 (.iadd) 1 84 := ⟨by decide +kernel, rfl⟩
theorem rX12_doesTold_84 : tq_D cX12_doesTold 84 (.iload_n 3) 1 85 := ⟨by decide +kernel, rfl⟩
theorem rX12_doesTold_85 : tq_D cX12_doesTold 85 (.invokevirtual 286) 3 88 := ⟨by decide +kernel, rfl⟩
theorem rX12_doesTold_88 : decode cX12_doesTold 88 = .ok (.ireturn, 1) := by decide +kernel
noncomputable def FX12_doesTold_j73 (I : tq_PI) (L : tq_PL) (a0 : Nat) (a2 : Int32) (a3 : Int32) (a4 : Int32) : Option (Bool × tq_PI) :=
  ((FX12_does I L a0 a2 ((((I a0 13) * a4) + a3)) a3).bind fun p5 => some (p5.1, p5.2))
noncomputable def FX12_doesTold_j71 (I : tq_PI) (L : tq_PL)  : Option (Bool × tq_PI) :=
  some (false, I)
noncomputable def FX12_doesTold (I : tq_PI) (L : tq_PL) (a0 : Nat) (a1 : Int32) : Option (Bool × tq_PI) :=
  (if 0 ≤ (((I a0 19) + (1 : Int32)) + ((3 : Int32) * a1)) ∧ (((I a0 19) + (1 : Int32)) + ((3 : Int32) * a1)) < 4016 then (if 0 ≤ (((I a0 19) + (2 : Int32)) + ((3 : Int32) * a1)) ∧ (((I a0 19) + (2 : Int32)) + ((3 : Int32) * a1)) < 4016 then (if 0 ≤ (((I a0 19) + (3 : Int32)) + ((3 : Int32) * a1)) ∧ (((I a0 19) + (3 : Int32)) + ((3 : Int32) * a1)) < 4016 then (if (I (tq_rg a0 0) ((((I a0 19) + (1 : Int32)) + ((3 : Int32) * a1))).toNatClampNeg) = (3 : Int32) then (FX12_doesTold_j73 I L a0 ((I (tq_rg a0 0) ((((I a0 19) + (1 : Int32)) + ((3 : Int32) * a1))).toNatClampNeg)) ((I (tq_rg a0 0) ((((I a0 19) + (2 : Int32)) + ((3 : Int32) * a1))).toNatClampNeg)) ((I (tq_rg a0 0) ((((I a0 19) + (3 : Int32)) + ((3 : Int32) * a1))).toNatClampNeg))) else (if (I a0 13) ≤ (I (tq_rg a0 0) ((((I a0 19) + (2 : Int32)) + ((3 : Int32) * a1))).toNatClampNeg) then (FX12_doesTold_j71 I L ) else (if (I (tq_rg a0 0) ((((I a0 19) + (3 : Int32)) + ((3 : Int32) * a1))).toNatClampNeg) < (I a0 14) then (FX12_doesTold_j73 I L a0 ((I (tq_rg a0 0) ((((I a0 19) + (1 : Int32)) + ((3 : Int32) * a1))).toNatClampNeg)) ((I (tq_rg a0 0) ((((I a0 19) + (2 : Int32)) + ((3 : Int32) * a1))).toNatClampNeg)) ((I (tq_rg a0 0) ((((I a0 19) + (3 : Int32)) + ((3 : Int32) * a1))).toNatClampNeg))) else (FX12_doesTold_j71 I L )))) else none) else none) else none)
set_option maxRecDepth 100000 in
set_option maxHeartbeats 4000000 in
theorem FX12_doesTold_j73_x {S : Nat × (Nat → Int32)} {d : Nat} {I : tq_PI} {L : tq_PL} {a0 : Nat} {a2 : Int32} {a3 : Int32} {a4 : Int32} (h0 : tq_sh0 a0 = 12) {q0 : Option Value → tq_PI → tq_PL → Prop} {out : Bool × tq_PI} (hf : FX12_doesTold_j73 I L a0 a2 a3 a4 = some out) (hk : q0 (some (.int (tq_b out.1))) out.2 L) : tq_X S mX12_doesTold (d + 6) tq_k0 73 ([.ref a0, tq_u, .int a2, .int a3, .int a4]) ([]) (tq_st I L) (tq_Q q0) := by
  unfold FX12_doesTold_j73 at hf
  refine tq_aload_n rX12_doesTold_73 rfl ?_
  refine tq_iload_n rX12_doesTold_74 rfl ?_
  refine tq_aload_n rX12_doesTold_75 rfl ?_
  refine ty_getI rX12_doesTold_76 f_X12_148 rfl h0 ?_
  refine tq_iload rX12_doesTold_79 rfl ?_
  refine tq_imul rX12_doesTold_81 ?_
  refine tq_iload_n rX12_doesTold_82 rfl ?_
  refine tq_iadd rX12_doesTold_83 ?_
  refine tq_iload_n rX12_doesTold_84 rfl ?_
  obtain ⟨p5, e5, hf⟩ := Option.bind_eq_some_iff.mp hf
  refine ty_callVI (tq_b p5.1) ([.int a2, .int (((I a0 13) * a4) + a3), .int a3]) ([]) rX12_doesTold_85 l_X12_286 moX12_does mvX12_does h0 rfl rfl (Nat.le_of_ble_eq_true rfl) ⟨rfl, rfl⟩ (CX12_does h0 e5) ?_
  refine ty_zret (ty := .boolean) rX12_doesTold_88 rfl (tq_fitZ (tq_b01 _)).1 rfl ?_
  have hf := Option.some.inj hf
  subst hf
  exact hk

set_option maxRecDepth 100000 in
set_option maxHeartbeats 4000000 in
theorem FX12_doesTold_j71_x {S : Nat × (Nat → Int32)} {d : Nat} {I : tq_PI} {L : tq_PL}   {q0 : Option Value → tq_PI → tq_PL → Prop} {out : Bool × tq_PI} (hf : FX12_doesTold_j71 I L = some out) (hk : q0 (some (.int (tq_b out.1))) out.2 L) : tq_X S mX12_doesTold (d + 6) tq_k0 71 ([tq_u, tq_u, tq_u, tq_u, tq_u]) ([]) (tq_st I L) (tq_Q q0) := by
  unfold FX12_doesTold_j71 at hf
  refine tq_iconst (0 : Int32) rX12_doesTold_71 (by decide) ?_
  refine ty_zret (ty := .boolean) rX12_doesTold_72 rfl rfl rfl ?_
  have hf := Option.some.inj hf
  subst hf
  exact hk

set_option maxRecDepth 100000 in
set_option maxHeartbeats 4000000 in
theorem CX12_doesTold {S : Nat × (Nat → Int32)} {d : Nat} {I : tq_PI} {L : tq_PL} {a0 : Nat} {a1 : Int32} (h0 : tq_sh0 a0 = 12) {out : Bool × tq_PI} (hf : FX12_doesTold I L a0 a1 = some out) : tq_K S mX12_doesTold (d + 6) [.ref a0, .int a1] I L (tq_one2 (some (.int (tq_b out.1))) out.2 L) := by
  unfold FX12_doesTold at hf
  refine tq_K_of (by decide) (Nat.le_of_ble_eq_true rfl) (ls := [.ref a0, .int a1, tq_u, tq_u, tq_u]) rfl ?_
  refine tq_aload_n rX12_doesTold_0 rfl ?_
  refine ty_getR rX12_doesTold_1 f_X12_7 rfl h0 (hp_12_0 h0).1 ?_
  refine tq_aload_n rX12_doesTold_4 rfl ?_
  refine ty_getI rX12_doesTold_5 f_X12_259 rfl h0 ?_
  refine tq_iconst (1 : Int32) rX12_doesTold_8 (by decide) ?_
  refine tq_iadd rX12_doesTold_9 ?_
  refine tq_iconst (3 : Int32) rX12_doesTold_10 (by decide) ?_
  refine tq_iload_n rX12_doesTold_11 rfl ?_
  refine tq_imul rX12_doesTold_12 ?_
  refine tq_iadd rX12_doesTold_13 ?_
  obtain ⟨g1, hf⟩ := tq_chk hf
  refine ty_iald (v := 4016) rX12_doesTold_14 (hp_12_0 h0).2.1 (hp_12_0 h0).2.2 rfl (by decide) g1 ?_
  refine tq_istore_n ([.ref a0, .int a1, .int (I (tq_rg a0 0) ((((I a0 19) + (1 : Int32)) + ((3 : Int32) * a1))).toNatClampNeg), tq_u, tq_u]) rX12_doesTold_15 (Nat.le_of_ble_eq_true rfl) rfl ?_
  refine tq_aload_n rX12_doesTold_16 rfl ?_
  refine ty_getR rX12_doesTold_17 f_X12_7 rfl h0 (hp_12_0 h0).1 ?_
  refine tq_aload_n rX12_doesTold_20 rfl ?_
  refine ty_getI rX12_doesTold_21 f_X12_259 rfl h0 ?_
  refine tq_iconst (2 : Int32) rX12_doesTold_24 (by decide) ?_
  refine tq_iadd rX12_doesTold_25 ?_
  refine tq_iconst (3 : Int32) rX12_doesTold_26 (by decide) ?_
  refine tq_iload_n rX12_doesTold_27 rfl ?_
  refine tq_imul rX12_doesTold_28 ?_
  refine tq_iadd rX12_doesTold_29 ?_
  obtain ⟨g2, hf⟩ := tq_chk hf
  refine ty_iald (v := 4016) rX12_doesTold_30 (hp_12_0 h0).2.1 (hp_12_0 h0).2.2 rfl (by decide) g2 ?_
  refine tq_istore_n ([.ref a0, .int a1, .int (I (tq_rg a0 0) ((((I a0 19) + (1 : Int32)) + ((3 : Int32) * a1))).toNatClampNeg), .int (I (tq_rg a0 0) ((((I a0 19) + (2 : Int32)) + ((3 : Int32) * a1))).toNatClampNeg), tq_u]) rX12_doesTold_31 (Nat.le_of_ble_eq_true rfl) rfl ?_
  refine tq_aload_n rX12_doesTold_32 rfl ?_
  refine ty_getR rX12_doesTold_33 f_X12_7 rfl h0 (hp_12_0 h0).1 ?_
  refine tq_aload_n rX12_doesTold_36 rfl ?_
  refine ty_getI rX12_doesTold_37 f_X12_259 rfl h0 ?_
  refine tq_iconst (3 : Int32) rX12_doesTold_40 (by decide) ?_
  refine tq_iadd rX12_doesTold_41 ?_
  refine tq_iconst (3 : Int32) rX12_doesTold_42 (by decide) ?_
  refine tq_iload_n rX12_doesTold_43 rfl ?_
  refine tq_imul rX12_doesTold_44 ?_
  refine tq_iadd rX12_doesTold_45 ?_
  obtain ⟨g3, hf⟩ := tq_chk hf
  refine ty_iald (v := 4016) rX12_doesTold_46 (hp_12_0 h0).2.1 (hp_12_0 h0).2.2 rfl (by decide) g3 ?_
  refine tq_istore ([.ref a0, .int a1, .int (I (tq_rg a0 0) ((((I a0 19) + (1 : Int32)) + ((3 : Int32) * a1))).toNatClampNeg), .int (I (tq_rg a0 0) ((((I a0 19) + (2 : Int32)) + ((3 : Int32) * a1))).toNatClampNeg), .int (I (tq_rg a0 0) ((((I a0 19) + (3 : Int32)) + ((3 : Int32) * a1))).toNatClampNeg)]) rX12_doesTold_47 (Nat.le_of_ble_eq_true rfl) rfl ?_
  refine tq_iload_n rX12_doesTold_49 rfl ?_
  refine tq_iconst (3 : Int32) rX12_doesTold_50 (by decide) ?_
  refine tq_icmp_eq rX12_doesTold_51 (fun c4 => ?_) (fun c4 => ?_)
  · rw [if_pos c4] at hf
    exact tq_forget _ (tq_le_s (tq_le_u (tq_le_s (tq_le_s (tq_le_s tq_le_n))))) (FX12_doesTold_j73_x  h0 hf ⟨rfl, rfl, rfl⟩)
  · rw [if_neg c4] at hf
    refine tq_iload_n rX12_doesTold_54 rfl ?_
    refine tq_aload_n rX12_doesTold_55 rfl ?_
    refine ty_getI rX12_doesTold_56 f_X12_148 rfl h0 ?_
    refine tq_icmp_ge rX12_doesTold_59 (fun c6 => ?_) (fun c6 => ?_)
    · rw [if_pos c6] at hf
      exact tq_forget _ (tq_le_u (tq_le_u (tq_le_u (tq_le_u (tq_le_u tq_le_n))))) (FX12_doesTold_j71_x   hf ⟨rfl, rfl, rfl⟩)
    · rw [if_neg c6] at hf
      refine tq_iload rX12_doesTold_62 rfl ?_
      refine tq_aload_n rX12_doesTold_64 rfl ?_
      refine ty_getI rX12_doesTold_65 f_X12_151 rfl h0 ?_
      refine tq_icmp_lt rX12_doesTold_68 (fun c7 => ?_) (fun c7 => ?_)
      · rw [if_pos c7] at hf
        exact tq_forget _ (tq_le_s (tq_le_u (tq_le_s (tq_le_s (tq_le_s tq_le_n))))) (FX12_doesTold_j73_x  h0 hf ⟨rfl, rfl, rfl⟩)
      · rw [if_neg c7] at hf
        exact tq_forget _ (tq_le_u (tq_le_u (tq_le_u (tq_le_u (tq_le_u tq_le_n))))) (FX12_doesTold_j71_x   hf ⟨rfl, rfl, rfl⟩)

abbrev mX12_runs : tq_M := (yX12_runs, cX12_runs, 2, (Option.none : Option Jvm.ClassFile.FieldType), 0, 0)
theorem moX12_begins : tq_mok mX12_begins 0 := ⟨tq_sg1 _ (List.mem_of_getElem? (i := 13) rfl), tq_sg7 _ (List.mem_of_getElem? (i := 187) rfl), ⟨by decide, by decide, by decide +kernel⟩, by decide⟩
theorem mvX12_begins : 12 < 13 ∧ (tq_cl 12).1 = mX12_begins.1.cls ∧ Cond.instanceMethod mX12_begins.1 ∈ lw_tbl ∧ Cond.selects mX12_begins.1.cls mX12_begins.1 mX12_begins.1 ∈ lw_tbl := ⟨by decide, rfl, tq_sg7 _ (List.mem_of_getElem? (i := 186) rfl), List.mem_append_left _ (List.mem_map.mpr ⟨_, List.mem_of_getElem? (i := 77) rfl, rfl⟩)⟩
theorem moX12_doesTold : tq_mok mX12_doesTold 1 := ⟨tq_sg1 _ (List.mem_of_getElem? (i := 13) rfl), tq_sg7 _ (List.mem_of_getElem? (i := 191) rfl), ⟨by decide, by decide, by decide +kernel⟩, by decide⟩
theorem mvX12_doesTold : 12 < 13 ∧ (tq_cl 12).1 = mX12_doesTold.1.cls ∧ Cond.instanceMethod mX12_doesTold.1 ∈ lw_tbl ∧ Cond.selects mX12_doesTold.1.cls mX12_doesTold.1 mX12_doesTold.1 ∈ lw_tbl := ⟨by decide, rfl, tq_sg7 _ (List.mem_of_getElem? (i := 190) rfl), List.mem_append_left _ (List.mem_map.mpr ⟨_, List.mem_of_getElem? (i := 78) rfl, rfl⟩)⟩
theorem l_X12_289 : tq_lok RX12 289 mX12_begins.1 := Or.inl (tq_sg7 _ (List.mem_of_getElem? (i := 184) rfl))
theorem l_X12_292 : tq_lok RX12 292 mX12_doesTold.1 := Or.inl (tq_sg7 _ (List.mem_of_getElem? (i := 188) rfl))
theorem rX12_runs_0 : tq_D cX12_runs 0 (.aload_n 0) 1 1 := ⟨by decide +kernel, rfl⟩
theorem rX12_runs_1 : tq_D cX12_runs 1 (.invokevirtual 289) 3 4 := ⟨by decide +kernel, rfl⟩
theorem rX12_runs_4 : tq_D cX12_runs 4 (.aload_n 0) 1 5 := ⟨by decide +kernel, rfl⟩
theorem rX12_runs_5 : tq_D cX12_runs 5 (.getfield 271) 3 8 := ⟨by decide +kernel, rfl⟩
theorem rX12_runs_8 : tq_D cX12_runs 8 (.iload_n 1) 1 9 := ⟨by decide +kernel, rfl⟩
theorem rX12_runs_9 : tq_J cX12_runs 9 (.if_icmp .ge) 52 12 := ⟨43, by decide +kernel, by decide, rfl⟩
theorem rX12_runs_12 : tq_D cX12_runs 12 (.aload_n 0) 1 13 := ⟨by decide +kernel, rfl⟩
theorem rX12_runs_13 : tq_D cX12_runs 13 (.getfield 271) 3 16 := ⟨by decide +kernel, rfl⟩
theorem rX12_runs_16 : tq_D cX12_runs 16 (.aload_n 0) 1 17 := ⟨by decide +kernel, rfl⟩
theorem rX12_runs_17 : tq_D cX12_runs 17 (.getfield 7) 3 20 := ⟨by decide +kernel, rfl⟩
theorem rX12_runs_20 : tq_D cX12_runs 20 (.aload_n 0) 1 21 := ⟨by decide +kernel, rfl⟩
theorem rX12_runs_21 : tq_D cX12_runs 21 (.getfield 259) 3 24 := ⟨by decide +kernel, rfl⟩
theorem rX12_runs_24 : tq_D cX12_runs 24 (.iaload) 1 25 := ⟨by decide +kernel, rfl⟩
theorem rX12_runs_25 : tq_J cX12_runs 25 (.if_icmp .ge) 52 28 := ⟨27, by decide +kernel, by decide, rfl⟩
theorem rX12_runs_28 : tq_D cX12_runs 28 (.aload_n 0) 1 29 := ⟨by decide +kernel, rfl⟩
theorem rX12_runs_29 : tq_D cX12_runs 29 (.aload_n 0) 1 30 := ⟨by decide +kernel, rfl⟩
theorem rX12_runs_30 : tq_D cX12_runs 30 (.getfield 271) 3 33 := ⟨by decide +kernel, rfl⟩
theorem rX12_runs_33 : tq_D cX12_runs 33 (.invokevirtual 292) 3 36 := ⟨by decide +kernel, rfl⟩
theorem rX12_runs_36 : tq_J cX12_runs 36 (.ifCond .eq) 52 39 := ⟨16, by decide +kernel, by decide, rfl⟩
theorem rX12_runs_39 : tq_D cX12_runs 39 (.aload_n 0) 1 40 := ⟨by decide +kernel, rfl⟩
theorem rX12_runs_40 : tq_D cX12_runs 40 (.dup) 1 41 := ⟨by decide +kernel, rfl⟩
theorem rX12_runs_41 : tq_D cX12_runs 41 (.getfield 271) 3 44 := ⟨by decide +kernel, rfl⟩
theorem rX12_runs_44 : tq_D cX12_runs 44 (.iconst 1) 1 45 := ⟨by decide +kernel, rfl⟩
theorem rX12_runs_45 : tq_D cX12_runs 45 (.iadd) 1 46 := ⟨by decide +kernel, rfl⟩
theorem rX12_runs_46 : tq_D cX12_runs 46 (.putfield 271) 3 49 := ⟨by decide +kernel, rfl⟩
theorem rX12_runs_49 : tq_J cX12_runs 49 .goto 4 52 := ⟨(-45), by decide +kernel, by decide, rfl⟩
theorem rX12_runs_52 : decode cX12_runs 52 = .ok (.return_, 1) := by decide +kernel
noncomputable def FX12_runs_s4 (I : tq_PI) (L : tq_PL) (a0 : Nat) (a1 : Int32) : Option ((tq_PI) ⊕ (tq_PI)) :=
  (if a1 ≤ (I a0 24) then some (.inr I) else (if 0 ≤ (I a0 19) ∧ (I a0 19) < 4016 then (if (I (tq_rg a0 0) ((I a0 19)).toNatClampNeg) ≤ (I a0 24) then some (.inr I) else ((FX12_doesTold I L a0 ((I a0 24))).bind fun p5 => (if (tq_b p5.1) = 0 then some (.inr p5.2) else some (.inl (tq_up2 p5.2 a0 24 ((p5.2 a0 24) + (1 : Int32))))))) else none))
noncomputable def FX12_runs (I : tq_PI) (L : tq_PL) (a0 : Nat) (a1 : Int32) : Option (tq_PI) :=
  ((FX12_begins I L a0).bind fun p1 => ((tq_it (fun p : tq_PI => FX12_runs_s4 p L a0 a1 ) tq_N p1).bind fun p7 => some p7))
set_option maxRecDepth 100000 in
set_option maxHeartbeats 4000000 in
theorem FX12_runs_s4_x {S : Nat × (Nat → Int32)} {d : Nat} {I : tq_PI} {L : tq_PL} {a0 : Nat} {a1 : Int32} (h0 : tq_sh0 a0 = 12) {q0 : Option Value → tq_PI → tq_PL → Prop} {out : (tq_PI) ⊕ (tq_PI)} (hf : FX12_runs_s4 I L a0 a1 = some out) (hk : Sum.elim (fun p : tq_PI => tq_X S mX12_runs (d + 7) tq_k0 4 ([.ref a0, .int a1]) [] (tq_st p L) (tq_Q q0)) (fun p : tq_PI => tq_X S mX12_runs (d + 7) tq_k0 52 ([tq_u, tq_u]) [] (tq_st p L) (tq_Q q0)) out) : tq_X S mX12_runs (d + 7) tq_k0 4 ([.ref a0, .int a1]) [] (tq_st I L) (tq_Q q0) := by
  unfold FX12_runs_s4 at hf
  refine tq_aload_n rX12_runs_4 rfl ?_
  refine ty_getI rX12_runs_5 f_X12_271 rfl h0 ?_
  refine tq_iload_n rX12_runs_8 rfl ?_
  refine tq_icmp_ge rX12_runs_9 (fun c2 => ?_) (fun c2 => ?_)
  · rw [if_pos c2] at hf
    have hf := Option.some.inj hf
    subst hf
    exact tq_forget _ (tq_le_u (tq_le_u tq_le_n)) hk
  · rw [if_neg c2] at hf
    refine tq_aload_n rX12_runs_12 rfl ?_
    refine ty_getI rX12_runs_13 f_X12_271 rfl h0 ?_
    refine tq_aload_n rX12_runs_16 rfl ?_
    refine ty_getR rX12_runs_17 f_X12_7 rfl h0 (hp_12_0 h0).1 ?_
    refine tq_aload_n rX12_runs_20 rfl ?_
    refine ty_getI rX12_runs_21 f_X12_259 rfl h0 ?_
    obtain ⟨g3, hf⟩ := tq_chk hf
    refine ty_iald (v := 4016) rX12_runs_24 (hp_12_0 h0).2.1 (hp_12_0 h0).2.2 rfl (by decide) g3 ?_
    refine tq_icmp_ge rX12_runs_25 (fun c4 => ?_) (fun c4 => ?_)
    · rw [if_pos c4] at hf
      have hf := Option.some.inj hf
      subst hf
      exact tq_forget _ (tq_le_u (tq_le_u tq_le_n)) hk
    · rw [if_neg c4] at hf
      refine tq_aload_n rX12_runs_28 rfl ?_
      refine tq_aload_n rX12_runs_29 rfl ?_
      refine ty_getI rX12_runs_30 f_X12_271 rfl h0 ?_
      obtain ⟨p5, e5, hf⟩ := Option.bind_eq_some_iff.mp hf
      refine ty_callVI (tq_b p5.1) ([.int (I a0 24)]) ([]) rX12_runs_33 l_X12_292 moX12_doesTold mvX12_doesTold h0 rfl rfl (Nat.le_of_ble_eq_true rfl) ⟨rfl, rfl⟩ (CX12_doesTold h0 e5) ?_
      refine tq_if_eq rX12_runs_36 (fun c6 => ?_) (fun c6 => ?_)
      · rw [if_pos c6] at hf
        have hf := Option.some.inj hf
        subst hf
        exact tq_forget _ (tq_le_u (tq_le_u tq_le_n)) hk
      · rw [if_neg c6] at hf
        refine tq_aload_n rX12_runs_39 rfl ?_
        refine tq_dup rX12_runs_40 rfl ?_
        refine ty_getI rX12_runs_41 f_X12_271 rfl h0 ?_
        refine tq_iconst (1 : Int32) rX12_runs_44 (by decide) ?_
        refine tq_iadd rX12_runs_45 ?_
        refine ty_putI rX12_runs_46 f_X12_271 rfl h0 rfl ?_
        refine tq_goto rX12_runs_49 ?_
        have hf := Option.some.inj hf
        subst hf
        exact tq_forget _ (tq_le_s (tq_le_s tq_le_n)) hk

set_option maxRecDepth 100000 in
set_option maxHeartbeats 4000000 in
theorem CX12_runs {S : Nat × (Nat → Int32)} {d : Nat} {I : tq_PI} {L : tq_PL} {a0 : Nat} {a1 : Int32} (h0 : tq_sh0 a0 = 12) {out : tq_PI} (hf : FX12_runs I L a0 a1 = some out) : tq_K S mX12_runs (d + 7) [.ref a0, .int a1] I L (tq_one2 (none) out L) := by
  unfold FX12_runs at hf
  refine tq_K_of (by decide) (Nat.le_of_ble_eq_true rfl) (ls := [.ref a0, .int a1]) rfl ?_
  refine tq_aload_n rX12_runs_0 rfl ?_
  obtain ⟨p1, e1, hf⟩ := Option.bind_eq_some_iff.mp hf
  refine ty_callVV ([]) ([]) rX12_runs_1 l_X12_289 moX12_begins mvX12_begins h0 rfl rfl (Nat.le_of_ble_eq_true rfl) ⟨rfl, rfl⟩ (CX12_begins h0 e1) ?_
  obtain ⟨p7, e7, hf⟩ := Option.bind_eq_some_iff.mp hf
  refine tq_forget _ (tq_le_s (tq_le_s tq_le_n)) ?_
  refine tq_it_elim (P := fun p : tq_PI => tq_X S mX12_runs (d + 7) tq_k0 4 ([.ref a0, .int a1]) [] (tq_st p L) (tq_Q (tq_one2 (none) out L))) (R := fun p : tq_PI => tq_X S mX12_runs (d + 7) tq_k0 52 ([tq_u, tq_u]) [] (tq_st p L) (tq_Q (tq_one2 (none) out L))) (fun p o hp hk => FX12_runs_s4_x  h0 hp hk) _ (p1) _ e7 ?_
  show tq_X _ _ _ _ _ _ _ _ _
  refine ty_vret rX12_runs_52 rfl rfl ?_
  have hf := Option.some.inj hf
  subst hf
  exact ⟨rfl, rfl, rfl⟩

abbrev mX12_stop : tq_M := (yX12_stop, cX12_stop, 3, (Option.some Jvm.ClassFile.FieldType.int), 0, 0)
theorem moX12_runs : tq_mok mX12_runs 1 := ⟨tq_sg1 _ (List.mem_of_getElem? (i := 13) rfl), tq_sg7 _ (List.mem_of_getElem? (i := 183) rfl), ⟨by decide, by decide, by decide +kernel⟩, by decide⟩
theorem mvX12_runs : 12 < 13 ∧ (tq_cl 12).1 = mX12_runs.1.cls ∧ Cond.instanceMethod mX12_runs.1 ∈ lw_tbl ∧ Cond.selects mX12_runs.1.cls mX12_runs.1 mX12_runs.1 ∈ lw_tbl := ⟨by decide, rfl, tq_sg7 _ (List.mem_of_getElem? (i := 182) rfl), List.mem_append_left _ (List.mem_map.mpr ⟨_, List.mem_of_getElem? (i := 76) rfl, rfl⟩)⟩
theorem l_X12_295 : tq_lok RX12 295 mX12_runs.1 := Or.inl (tq_sg7 _ (List.mem_of_getElem? (i := 180) rfl))
theorem rX12_stop_0 : tq_D cX12_stop 0 (.aload_n 0) 1 1 := ⟨by decide +kernel, rfl⟩
theorem rX12_stop_1 : tq_D cX12_stop 1 (.iload_n 1) 1 2 := ⟨by decide +kernel, rfl⟩
theorem rX12_stop_2 : tq_D cX12_stop 2 (.invokevirtual 221) 3 5 := ⟨by decide +kernel, rfl⟩
theorem rX12_stop_5 : tq_J cX12_stop 5 (.ifCond .eq) 16 8 := ⟨11, by decide +kernel, by decide, rfl⟩
theorem rX12_stop_8 : tq_D cX12_stop 8 (.aload_n 0) 1 9 := ⟨by decide +kernel, rfl⟩
theorem rX12_stop_9 : tq_D cX12_stop 9 (.iload_n 2) 1 10 := ⟨by decide +kernel, rfl⟩
theorem rX12_stop_10 : tq_D cX12_stop 10 (.invokevirtual 262) 3 13 := ⟨by decide +kernel, rfl⟩
theorem rX12_stop_13 : tq_J cX12_stop 13 (.ifCond .ne) 18 16 := ⟨5, by decide +kernel, by decide, rfl⟩
theorem rX12_stop_16 : tq_D cX12_stop 16 (.iconst (-1)) 1 17 := ⟨by decide +kernel, rfl⟩
theorem rX12_stop_17 : decode cX12_stop 17 = .ok (.ireturn, 1) := by decide +kernel
theorem rX12_stop_18 : tq_D cX12_stop 18 (.aload_n 0) 1 19 := ⟨by decide +kernel, rfl⟩
theorem rX12_stop_19 : tq_D cX12_stop 19 (.bipush 40) 2 21 := ⟨by decide +kernel, rfl⟩
theorem rX12_stop_21 : tq_D cX12_stop 21 (.invokevirtual 295) 3 24 := ⟨by decide +kernel, rfl⟩
theorem rX12_stop_24 : tq_D cX12_stop 24 (.aload_n 0) 1 25 := ⟨by decide +kernel, rfl⟩
theorem rX12_stop_25 : tq_D cX12_stop 25 (.getfield 271) 3 28 := ⟨by decide +kernel, rfl⟩
theorem rX12_stop_28 : decode cX12_stop 28 = .ok (.ireturn, 1) := by decide +kernel
noncomputable def FX12_stop_j16 (I : tq_PI) (L : tq_PL)  : Option (Int32 × tq_PI) :=
  some ((-1 : Int32), I)
noncomputable def FX12_stop (I : tq_PI) (L : tq_PL) (a0 : Nat) (a1 : Int32) (a2 : Int32) : Option (Int32 × tq_PI) :=
  ((FX12_isHill I L a0 a1).bind fun p1 => (if (tq_b p1.1) = 0 then (FX12_stop_j16 p1.2 L ) else ((FX12_isYear p1.2 L a0 a2).bind fun p3 => (if (tq_b p3.1) = 0 then (FX12_stop_j16 p3.2 L ) else ((FX12_runs p3.2 L a0 ((40 : Int32))).bind fun p5 => some ((p5 a0 24), p5))))))
set_option maxRecDepth 100000 in
set_option maxHeartbeats 4000000 in
theorem FX12_stop_j16_x {S : Nat × (Nat → Int32)} {d : Nat} {I : tq_PI} {L : tq_PL}   {q0 : Option Value → tq_PI → tq_PL → Prop} {out : Int32 × tq_PI} (hf : FX12_stop_j16 I L = some out) (hk : q0 (some (.int out.1)) out.2 L) : tq_X S mX12_stop (d + 8) tq_k0 16 ([tq_u, tq_u, tq_u]) ([]) (tq_st I L) (tq_Q q0) := by
  unfold FX12_stop_j16 at hf
  refine tq_iconst (-1 : Int32) rX12_stop_16 (by decide) ?_
  refine ty_iret rX12_stop_17 rfl rfl ?_
  have hf := Option.some.inj hf
  subst hf
  exact hk

set_option maxRecDepth 100000 in
set_option maxHeartbeats 4000000 in
theorem CX12_stop {S : Nat × (Nat → Int32)} {d : Nat} {I : tq_PI} {L : tq_PL} {a0 : Nat} {a1 : Int32} {a2 : Int32} (h0 : tq_sh0 a0 = 12) {out : Int32 × tq_PI} (hf : FX12_stop I L a0 a1 a2 = some out) : tq_K S mX12_stop (d + 8) [.ref a0, .int a1, .int a2] I L (tq_one2 (some (.int out.1)) out.2 L) := by
  unfold FX12_stop at hf
  refine tq_K_of (by decide) (Nat.le_of_ble_eq_true rfl) (ls := [.ref a0, .int a1, .int a2]) rfl ?_
  refine tq_aload_n rX12_stop_0 rfl ?_
  refine tq_iload_n rX12_stop_1 rfl ?_
  obtain ⟨p1, e1, hf⟩ := Option.bind_eq_some_iff.mp hf
  refine ty_callVI (tq_b p1.1) ([.int a1]) ([]) rX12_stop_2 l_X12_221 moX12_isHill mvX12_isHill h0 rfl rfl (Nat.le_of_ble_eq_true rfl) ⟨rfl, rfl⟩ (CX12_isHill h0 e1) ?_
  refine tq_if_eq rX12_stop_5 (fun c2 => ?_) (fun c2 => ?_)
  · rw [if_pos c2] at hf
    exact tq_forget _ (tq_le_u (tq_le_u (tq_le_u tq_le_n))) (FX12_stop_j16_x   hf ⟨rfl, rfl, rfl⟩)
  · rw [if_neg c2] at hf
    refine tq_aload_n rX12_stop_8 rfl ?_
    refine tq_iload_n rX12_stop_9 rfl ?_
    obtain ⟨p3, e3, hf⟩ := Option.bind_eq_some_iff.mp hf
    refine ty_callVI (tq_b p3.1) ([.int a2]) ([]) rX12_stop_10 l_X12_262 moX12_isYear mvX12_isYear h0 rfl rfl (Nat.le_of_ble_eq_true rfl) ⟨rfl, rfl⟩ (CX12_isYear h0 e3) ?_
    refine tq_if_ne rX12_stop_13 (fun c4 => ?_) (fun c4 => ?_)
    · rw [if_neg c4] at hf
      refine tq_aload_n rX12_stop_18 rfl ?_
      refine tq_bipush (40 : Int32) rX12_stop_19 (by decide) ?_
      obtain ⟨p5, e5, hf⟩ := Option.bind_eq_some_iff.mp hf
      refine ty_callVV ([.int (40 : Int32)]) ([]) rX12_stop_21 l_X12_295 moX12_runs mvX12_runs h0 rfl rfl (Nat.le_of_ble_eq_true rfl) ⟨rfl, rfl⟩ (CX12_runs h0 e5) ?_
      refine tq_aload_n rX12_stop_24 rfl ?_
      refine ty_getI rX12_stop_25 f_X12_271 rfl h0 ?_
      refine ty_iret rX12_stop_28 rfl rfl ?_
      have hf := Option.some.inj hf
      subst hf
      exact ⟨rfl, rfl, rfl⟩
    · rw [if_pos c4] at hf
      exact tq_forget _ (tq_le_u (tq_le_u (tq_le_u tq_le_n))) (FX12_stop_j16_x   hf ⟨rfl, rfl, rfl⟩)

abbrev mX12_nowOf : tq_M := (yX12_nowOf, cX12_nowOf, 2, (Option.some Jvm.ClassFile.FieldType.int), 0, 0)
theorem rX12_nowOf_0 : tq_D cX12_nowOf 0 (.iload_n 1) 1 1 := ⟨by decide +kernel, rfl⟩
theorem rX12_nowOf_1 : decode cX12_nowOf 1 = .ok (.tableswitch 86 0 7 #[47, 47, 54, 54, 63, 68, 74, 79], 47) := by decide +kernel
theorem rX12_nowOf_48 : tq_D cX12_nowOf 48 (.aload_n 0) 1 49 := ⟨by decide +kernel, rfl⟩
theorem rX12_nowOf_49 : tq_D cX12_nowOf 49 (.getfield 32) 3 52 := ⟨by decide +kernel, rfl⟩
theorem rX12_nowOf_52 : tq_D cX12_nowOf 52 (.iload_n 1) 1 53 := ⟨by decide +kernel, rfl⟩
theorem rX12_nowOf_53 : tq_D cX12_nowOf 53 (.iaload) 1 54 := ⟨by decide +kernel, rfl⟩
theorem rX12_nowOf_54 : decode cX12_nowOf 54 = .ok (.ireturn, 1) := by decide +kernel
theorem rX12_nowOf_55 : tq_D cX12_nowOf 55 (.aload_n 0) 1 56 := ⟨by decide +kernel, rfl⟩
theorem rX12_nowOf_56 : tq_D cX12_nowOf 56 (.getfield 35) 3 59 := ⟨by decide +kernel, rfl⟩
theorem rX12_nowOf_59 : tq_D cX12_nowOf 59 (.iload_n 1) 1 60 := ⟨by decide +kernel, rfl⟩
theorem rX12_nowOf_60 : tq_D cX12_nowOf 60 (.iconst 2) 1 61 := ⟨by decide +kernel, rfl⟩
theorem rX12_nowOf_61 : tq_D cX12_nowOf 61 (.isub) 1 62 := ⟨by decide +kernel, rfl⟩
theorem rX12_nowOf_62 : tq_D cX12_nowOf 62 (.iaload) 1 63 := ⟨by decide +kernel, rfl⟩
theorem rX12_nowOf_63 : decode cX12_nowOf 63 = .ok (.ireturn, 1) := by decide +kernel
theorem rX12_nowOf_64 : tq_D cX12_nowOf 64 (.aload_n 0) 1 65 := ⟨by decide +kernel, rfl⟩
theorem rX12_nowOf_65 : tq_D cX12_nowOf 65 (.getfield 265) 3 68 := ⟨by decide +kernel, rfl⟩
theorem rX12_nowOf_68 : decode cX12_nowOf 68 = .ok (.ireturn, 1) := by decide +kernel
theorem rX12_nowOf_69 : tq_D cX12_nowOf 69 (.aload_n 0) 1 70 := ⟨by decide +kernel, rfl⟩
theorem rX12_nowOf_70 : tq_D cX12_nowOf 70 (.iconst 0) 1 71 := ⟨by decide +kernel, rfl⟩
theorem rX12_nowOf_71 : tq_D cX12_nowOf 71 (.invokevirtual 256) 3 74 := ⟨by decide +kernel, rfl⟩
theorem rX12_nowOf_74 : decode cX12_nowOf 74 = .ok (.ireturn, 1) := by decide +kernel
theorem rX12_nowOf_75 : tq_D cX12_nowOf 75 (.aload_n 0) 1 76 := ⟨by decide +kernel, rfl⟩
theorem rX12_nowOf_76 : tq_D cX12_nowOf 76 (.getfield 268) 3 79 := ⟨by decide +kernel, rfl⟩
theorem rX12_nowOf_79 : decode cX12_nowOf 79 = .ok (.ireturn, 1) := by decide +kernel
theorem rX12_nowOf_80 : tq_D cX12_nowOf 80 (.aload_n 0) 1 81 := ⟨by decide +kernel, rfl⟩
theorem rX12_nowOf_81 : tq_D cX12_nowOf 81 (.iconst 0) 1 82 := ⟨by decide +kernel, rfl⟩
theorem rX12_nowOf_82 : tq_D cX12_nowOf 82 (.iconst 0) 1 83 := ⟨by decide +kernel, rfl⟩
theorem rX12_nowOf_83 : tq_D cX12_nowOf 83 (.invokevirtual 252) 3 86 := ⟨by decide +kernel, rfl⟩
theorem rX12_nowOf_86 : decode cX12_nowOf 86 = .ok (.ireturn, 1) := by decide +kernel
theorem rX12_nowOf_87 : tq_D cX12_nowOf 87 (.iload_n 1) 1 88 := ⟨by decide +kernel, rfl⟩
theorem rX12_nowOf_88 : tq_D cX12_nowOf 88 (.bipush 100) 2 90 := ⟨by decide +kernel, rfl⟩
theorem rX12_nowOf_90 : tq_J cX12_nowOf 90 (.if_icmp .lt) 116 93 := ⟨26, by decide +kernel, by decide, rfl⟩
theorem rX12_nowOf_93 : tq_D cX12_nowOf 93 (.aload_n 0) 1 94 := ⟨by decide +kernel, rfl⟩
theorem rX12_nowOf_94 : tq_D cX12_nowOf 94 (.iload_n 1) 1 95 := ⟨by decide +kernel, rfl⟩
theorem rX12_nowOf_95 : tq_D cX12_nowOf 95 (.bipush 100) 2 97 := ⟨by decide +kernel, rfl⟩
theorem rX12_nowOf_97 : tq_D cX12_nowOf 97 (.isub) 1 98 := ⟨by decide +kernel, rfl⟩
theorem rX12_nowOf_98 : tq_D cX12_nowOf 98 (.invokevirtual 233) 3 101 := ⟨by decide +kernel, rfl⟩
theorem rX12_nowOf_101 : tq_J cX12_nowOf 101 (.ifCond .eq) 116 104 := ⟨15, by decide +kernel, by decide, rfl⟩
theorem rX12_nowOf_104 : tq_D cX12_nowOf 104 (.aload_n 0) 1 105 := ⟨by decide +kernel, rfl⟩
theorem rX12_nowOf_105 : tq_D cX12_nowOf 105 (.iconst 0) 1 106 := ⟨by decide +kernel, rfl⟩
theorem rX12_nowOf_106 : tq_D cX12_nowOf 106 (.iload_n 1) 1 107 := ⟨by decide +kernel, rfl⟩
theorem rX12_nowOf_107 : tq_D cX12_nowOf 107 (.bipush 100) 2 109 := ⟨by decide +kernel, rfl⟩
theorem rX12_nowOf_109 : tq_D cX12_nowOf 109 (.isub) 1 110 := ⟨by decide +kernel, rfl⟩
theorem rX12_nowOf_110 : tq_D cX12_nowOf 110 (.invokevirtual 193) 3 113 := ⟨by decide +kernel, rfl⟩
theorem rX12_nowOf_113 : tq_J cX12_nowOf 113 .goto 118 116 := ⟨5, by decide +kernel, by decide, rfl⟩
theorem rX12_nowOf_116 : tq_D cX12_nowOf 116 (.bipush (-2)) 2 118 := ⟨by decide +kernel, rfl⟩
theorem rX12_nowOf_118 : decode cX12_nowOf 118 = .ok (.ireturn, 1) := by decide +kernel
noncomputable def FX12_nowOf_j116 (I : tq_PI) (L : tq_PL)  : Option (Int32 × tq_PI) :=
  some ((-2 : Int32), I)
noncomputable def FX12_nowOf (I : tq_PI) (L : tq_PL) (a0 : Nat) (a1 : Int32) : Option (Int32 × tq_PI) :=
  (if a1 = 0 then (if 0 ≤ a1 ∧ a1 < 2 then some ((I (tq_rg a0 20) a1.toNatClampNeg), I) else none) else (if a1 = 1 then (if 0 ≤ a1 ∧ a1 < 2 then some ((I (tq_rg a0 20) a1.toNatClampNeg), I) else none) else (if a1 = 2 then (if 0 ≤ (a1 - (2 : Int32)) ∧ (a1 - (2 : Int32)) < 2 then some ((I (tq_rg a0 21) ((a1 - (2 : Int32))).toNatClampNeg), I) else none) else (if a1 = 3 then (if 0 ≤ (a1 - (2 : Int32)) ∧ (a1 - (2 : Int32)) < 2 then some ((I (tq_rg a0 21) ((a1 - (2 : Int32))).toNatClampNeg), I) else none) else (if a1 = 4 then some ((I a0 22), I) else (if a1 = 5 then ((FX12_thickOf I L a0 ((0 : Int32))).bind fun p11 => some (p11.1, p11.2)) else (if a1 = 6 then some ((I a0 23), I) else (if a1 = 7 then ((FX12_stones I L a0 ((0 : Int32)) ((0 : Int32))).bind fun p14 => some (p14, I)) else (if a1 < (100 : Int32) then (FX12_nowOf_j116 I L ) else (tq_let (FX12_isCell I L a0 ((a1 - (100 : Int32)))) fun p16 => (if (tq_b p16) = 0 then (FX12_nowOf_j116 I L ) else ((FX12_kindOf I L a0 ((0 : Int32)) ((a1 - (100 : Int32)))).bind fun p18 => some (p18, I)))))))))))))
set_option maxRecDepth 100000 in
set_option maxHeartbeats 4000000 in
theorem FX12_nowOf_j116_x {S : Nat × (Nat → Int32)} {d : Nat} {I : tq_PI} {L : tq_PL}   {q0 : Option Value → tq_PI → tq_PL → Prop} {out : Int32 × tq_PI} (hf : FX12_nowOf_j116 I L = some out) (hk : q0 (some (.int out.1)) out.2 L) : tq_X S mX12_nowOf (d + 5) tq_k0 116 ([tq_u, tq_u]) ([]) (tq_st I L) (tq_Q q0) := by
  unfold FX12_nowOf_j116 at hf
  refine tq_bipush (-2 : Int32) rX12_nowOf_116 (by decide) ?_
  refine ty_iret rX12_nowOf_118 rfl rfl ?_
  have hf := Option.some.inj hf
  subst hf
  exact hk

set_option maxRecDepth 100000 in
set_option maxHeartbeats 4000000 in
theorem CX12_nowOf {S : Nat × (Nat → Int32)} {d : Nat} {I : tq_PI} {L : tq_PL} {a0 : Nat} {a1 : Int32} (h0 : tq_sh0 a0 = 12) {out : Int32 × tq_PI} (hf : FX12_nowOf I L a0 a1 = some out) : tq_K S mX12_nowOf (d + 5) [.ref a0, .int a1] I L (tq_one2 (some (.int out.1)) out.2 L) := by
  unfold FX12_nowOf at hf
  refine tq_K_of (by decide) (Nat.le_of_ble_eq_true rfl) (ls := [.ref a0, .int a1]) rfl ?_
  refine tq_iload_n rX12_nowOf_0 rfl ?_
  by_cases c1 : a1 = 0
  · rw [if_pos c1] at hf
    refine tq_swIn (tgt := 48) 47 rX12_nowOf_1 (by rw [c1]; decide) (by rw [c1]; decide) (by rw [c1]; rfl) (by decide) ?_
    refine tq_aload_n rX12_nowOf_48 rfl ?_
    refine ty_getR rX12_nowOf_49 f_X12_32 rfl h0 (hp_12_20 h0).1 ?_
    refine tq_iload_n rX12_nowOf_52 rfl ?_
    obtain ⟨g2, hf⟩ := tq_chk hf
    refine ty_iald (v := 2) rX12_nowOf_53 (hp_12_20 h0).2.1 (hp_12_20 h0).2.2 rfl (by decide) g2 ?_
    refine ty_iret rX12_nowOf_54 rfl rfl ?_
    have hf := Option.some.inj hf
    subst hf
    exact ⟨rfl, rfl, rfl⟩
  · rw [if_neg c1] at hf
    by_cases c3 : a1 = 1
    · rw [if_pos c3] at hf
      refine tq_swIn (tgt := 48) 47 rX12_nowOf_1 (by rw [c3]; decide) (by rw [c3]; decide) (by rw [c3]; rfl) (by decide) ?_
      refine tq_aload_n rX12_nowOf_48 rfl ?_
      refine ty_getR rX12_nowOf_49 f_X12_32 rfl h0 (hp_12_20 h0).1 ?_
      refine tq_iload_n rX12_nowOf_52 rfl ?_
      obtain ⟨g4, hf⟩ := tq_chk hf
      refine ty_iald (v := 2) rX12_nowOf_53 (hp_12_20 h0).2.1 (hp_12_20 h0).2.2 rfl (by decide) g4 ?_
      refine ty_iret rX12_nowOf_54 rfl rfl ?_
      have hf := Option.some.inj hf
      subst hf
      exact ⟨rfl, rfl, rfl⟩
    · rw [if_neg c3] at hf
      by_cases c5 : a1 = 2
      · rw [if_pos c5] at hf
        refine tq_swIn (tgt := 55) 54 rX12_nowOf_1 (by rw [c5]; decide) (by rw [c5]; decide) (by rw [c5]; rfl) (by decide) ?_
        refine tq_aload_n rX12_nowOf_55 rfl ?_
        refine ty_getR rX12_nowOf_56 f_X12_35 rfl h0 (hp_12_21 h0).1 ?_
        refine tq_iload_n rX12_nowOf_59 rfl ?_
        refine tq_iconst (2 : Int32) rX12_nowOf_60 (by decide) ?_
        refine tq_isub rX12_nowOf_61 ?_
        obtain ⟨g6, hf⟩ := tq_chk hf
        refine ty_iald (v := 2) rX12_nowOf_62 (hp_12_21 h0).2.1 (hp_12_21 h0).2.2 rfl (by decide) g6 ?_
        refine ty_iret rX12_nowOf_63 rfl rfl ?_
        have hf := Option.some.inj hf
        subst hf
        exact ⟨rfl, rfl, rfl⟩
      · rw [if_neg c5] at hf
        by_cases c7 : a1 = 3
        · rw [if_pos c7] at hf
          refine tq_swIn (tgt := 55) 54 rX12_nowOf_1 (by rw [c7]; decide) (by rw [c7]; decide) (by rw [c7]; rfl) (by decide) ?_
          refine tq_aload_n rX12_nowOf_55 rfl ?_
          refine ty_getR rX12_nowOf_56 f_X12_35 rfl h0 (hp_12_21 h0).1 ?_
          refine tq_iload_n rX12_nowOf_59 rfl ?_
          refine tq_iconst (2 : Int32) rX12_nowOf_60 (by decide) ?_
          refine tq_isub rX12_nowOf_61 ?_
          obtain ⟨g8, hf⟩ := tq_chk hf
          refine ty_iald (v := 2) rX12_nowOf_62 (hp_12_21 h0).2.1 (hp_12_21 h0).2.2 rfl (by decide) g8 ?_
          refine ty_iret rX12_nowOf_63 rfl rfl ?_
          have hf := Option.some.inj hf
          subst hf
          exact ⟨rfl, rfl, rfl⟩
        · rw [if_neg c7] at hf
          by_cases c9 : a1 = 4
          · rw [if_pos c9] at hf
            refine tq_swIn (tgt := 64) 63 rX12_nowOf_1 (by rw [c9]; decide) (by rw [c9]; decide) (by rw [c9]; rfl) (by decide) ?_
            refine tq_aload_n rX12_nowOf_64 rfl ?_
            refine ty_getI rX12_nowOf_65 f_X12_265 rfl h0 ?_
            refine ty_iret rX12_nowOf_68 rfl rfl ?_
            have hf := Option.some.inj hf
            subst hf
            exact ⟨rfl, rfl, rfl⟩
          · rw [if_neg c9] at hf
            by_cases c10 : a1 = 5
            · rw [if_pos c10] at hf
              refine tq_swIn (tgt := 69) 68 rX12_nowOf_1 (by rw [c10]; decide) (by rw [c10]; decide) (by rw [c10]; rfl) (by decide) ?_
              refine tq_aload_n rX12_nowOf_69 rfl ?_
              refine tq_iconst (0 : Int32) rX12_nowOf_70 (by decide) ?_
              obtain ⟨p11, e11, hf⟩ := Option.bind_eq_some_iff.mp hf
              refine ty_callVI p11.1 ([.int (0 : Int32)]) ([]) rX12_nowOf_71 l_X12_256 moX12_thickOf mvX12_thickOf h0 rfl rfl (Nat.le_of_ble_eq_true rfl) ⟨rfl, rfl⟩ (CX12_thickOf h0 e11) ?_
              refine ty_iret rX12_nowOf_74 rfl rfl ?_
              have hf := Option.some.inj hf
              subst hf
              exact ⟨rfl, rfl, rfl⟩
            · rw [if_neg c10] at hf
              by_cases c12 : a1 = 6
              · rw [if_pos c12] at hf
                refine tq_swIn (tgt := 75) 74 rX12_nowOf_1 (by rw [c12]; decide) (by rw [c12]; decide) (by rw [c12]; rfl) (by decide) ?_
                refine tq_aload_n rX12_nowOf_75 rfl ?_
                refine ty_getI rX12_nowOf_76 f_X12_268 rfl h0 ?_
                refine ty_iret rX12_nowOf_79 rfl rfl ?_
                have hf := Option.some.inj hf
                subst hf
                exact ⟨rfl, rfl, rfl⟩
              · rw [if_neg c12] at hf
                by_cases c13 : a1 = 7
                · rw [if_pos c13] at hf
                  refine tq_swIn (tgt := 80) 79 rX12_nowOf_1 (by rw [c13]; decide) (by rw [c13]; decide) (by rw [c13]; rfl) (by decide) ?_
                  refine tq_aload_n rX12_nowOf_80 rfl ?_
                  refine tq_iconst (0 : Int32) rX12_nowOf_81 (by decide) ?_
                  refine tq_iconst (0 : Int32) rX12_nowOf_82 (by decide) ?_
                  obtain ⟨p14, e14, hf⟩ := Option.bind_eq_some_iff.mp hf
                  refine ty_callVI p14 ([.int (0 : Int32), .int (0 : Int32)]) ([]) rX12_nowOf_83 l_X12_252 moX12_stones mvX12_stones h0 rfl rfl (Nat.le_of_ble_eq_true rfl) ⟨rfl, rfl⟩ (CX12_stones h0 e14) ?_
                  refine ty_iret rX12_nowOf_86 rfl rfl ?_
                  have hf := Option.some.inj hf
                  subst hf
                  exact ⟨rfl, rfl, rfl⟩
                · rw [if_neg c13] at hf
                  have c1o := tq_ni (c := 0) c1 (by decide)
                  have c3o := tq_ni (c := 1) c3 (by decide)
                  have c5o := tq_ni (c := 2) c5 (by decide)
                  have c7o := tq_ni (c := 3) c7 (by decide)
                  have c9o := tq_ni (c := 4) c9 (by decide)
                  have c10o := tq_ni (c := 5) c10 (by decide)
                  have c12o := tq_ni (c := 6) c12 (by decide)
                  have c13o := tq_ni (c := 7) c13 (by decide)
                  refine tq_swOut (tgt := 87) rX12_nowOf_1 (by omega) (by decide) ?_
                  refine tq_iload_n rX12_nowOf_87 rfl ?_
                  refine tq_bipush (100 : Int32) rX12_nowOf_88 (by decide) ?_
                  refine tq_icmp_lt rX12_nowOf_90 (fun c15 => ?_) (fun c15 => ?_)
                  · rw [if_pos c15] at hf
                    exact tq_forget _ (tq_le_u (tq_le_u tq_le_n)) (FX12_nowOf_j116_x   hf ⟨rfl, rfl, rfl⟩)
                  · rw [if_neg c15] at hf
                    refine tq_aload_n rX12_nowOf_93 rfl ?_
                    refine tq_iload_n rX12_nowOf_94 rfl ?_
                    refine tq_bipush (100 : Int32) rX12_nowOf_95 (by decide) ?_
                    refine tq_isub rX12_nowOf_97 ?_
                    obtain ⟨p16, e16, hf⟩ := tq_let_elim hf
                    refine ty_callVI (tq_b p16) ([.int (a1 - (100 : Int32))]) ([]) rX12_nowOf_98 l_X12_233 moX12_isCell mvX12_isCell h0 rfl rfl (Nat.le_of_ble_eq_true rfl) ⟨rfl, rfl⟩ (CX12_isCell h0 e16) ?_
                    refine tq_if_eq rX12_nowOf_101 (fun c17 => ?_) (fun c17 => ?_)
                    · rw [if_pos c17] at hf
                      exact tq_forget _ (tq_le_u (tq_le_u tq_le_n)) (FX12_nowOf_j116_x   hf ⟨rfl, rfl, rfl⟩)
                    · rw [if_neg c17] at hf
                      refine tq_aload_n rX12_nowOf_104 rfl ?_
                      refine tq_iconst (0 : Int32) rX12_nowOf_105 (by decide) ?_
                      refine tq_iload_n rX12_nowOf_106 rfl ?_
                      refine tq_bipush (100 : Int32) rX12_nowOf_107 (by decide) ?_
                      refine tq_isub rX12_nowOf_109 ?_
                      obtain ⟨p18, e18, hf⟩ := Option.bind_eq_some_iff.mp hf
                      refine ty_callVI p18 ([.int (0 : Int32), .int (a1 - (100 : Int32))]) ([]) rX12_nowOf_110 l_X12_193 moX12_kindOf mvX12_kindOf h0 rfl rfl (Nat.le_of_ble_eq_true rfl) ⟨rfl, rfl⟩ (CX12_kindOf h0 e18) ?_
                      refine tq_goto rX12_nowOf_113 ?_
                      refine ty_iret rX12_nowOf_118 rfl rfl ?_
                      have hf := Option.some.inj hf
                      subst hf
                      exact ⟨rfl, rfl, rfl⟩

abbrev mX12_state : tq_M := (yX12_state, cX12_state, 5, (Option.some Jvm.ClassFile.FieldType.int), 0, 0)
theorem moX12_nowOf : tq_mok mX12_nowOf 1 := ⟨tq_sg1 _ (List.mem_of_getElem? (i := 13) rfl), tq_sg7 _ (List.mem_of_getElem? (i := 222) rfl), ⟨by decide, by decide, by decide +kernel⟩, by decide⟩
theorem mvX12_nowOf : 12 < 13 ∧ (tq_cl 12).1 = mX12_nowOf.1.cls ∧ Cond.instanceMethod mX12_nowOf.1 ∈ lw_tbl ∧ Cond.selects mX12_nowOf.1.cls mX12_nowOf.1 mX12_nowOf.1 ∈ lw_tbl := ⟨by decide, rfl, tq_sg7 _ (List.mem_of_getElem? (i := 221) rfl), List.mem_append_left _ (List.mem_map.mpr ⟨_, List.mem_of_getElem? (i := 84) rfl, rfl⟩)⟩
theorem l_X12_298 : tq_lok RX12 298 mX12_nowOf.1 := Or.inl (tq_sg7 _ (List.mem_of_getElem? (i := 219) rfl))
theorem rX12_state_0 : tq_D cX12_state 0 (.aload_n 0) 1 1 := ⟨by decide +kernel, rfl⟩
theorem rX12_state_1 : tq_D cX12_state 1 (.iload_n 1) 1 2 := ⟨by decide +kernel, rfl⟩
theorem rX12_state_2 : tq_D cX12_state 2 (.invokevirtual 221) 3 5 := ⟨by decide +kernel, rfl⟩
theorem rX12_state_5 : tq_J cX12_state 5 (.ifCond .eq) 25 8 := ⟨20, by decide +kernel, by decide, rfl⟩
theorem rX12_state_8 : tq_D cX12_state 8 (.aload_n 0) 1 9 := ⟨by decide +kernel, rfl⟩
theorem rX12_state_9 : tq_D cX12_state 9 (.iload_n 2) 1 10 := ⟨by decide +kernel, rfl⟩
theorem rX12_state_10 : tq_D cX12_state 10 (.invokevirtual 262) 3 13 := ⟨by decide +kernel, rfl⟩
theorem rX12_state_13 : tq_J cX12_state 13 (.ifCond .eq) 25 16 := ⟨12, by decide +kernel, by decide, rfl⟩
theorem rX12_state_16 : tq_D cX12_state 16 (.iload_n 3) 1 17 := ⟨by decide +kernel, rfl⟩
theorem rX12_state_17 : tq_J cX12_state 17 (.ifCond .lt) 25 20 := ⟨8, by decide +kernel, by decide, rfl⟩
theorem rX12_state_20 : tq_D cX12_state 20 (.iload 4) 2 22 := ⟨by decide +kernel, rfl⟩
theorem rX12_state_22 : tq_J cX12_state 22 (.ifCond .ge) 28 25 := ⟨6, by decide +kernel, by decide, rfl⟩
theorem rX12_state_25 : tq_D cX12_state 25 (.bipush (-2)) 2 27 := ⟨by decide +kernel, rfl⟩
theorem rX12_state_27 : decode cX12_state 27 = .ok (.ireturn, 1) := by decide +kernel
theorem rX12_state_28 : tq_D cX12_state 28 (.aload_n 0) 1 29 := ⟨by decide +kernel, rfl⟩
theorem rX12_state_29 : tq_D cX12_state 29 (.iload_n 3) 1 30 := ⟨by decide +kernel, rfl⟩
theorem rX12_state_30 : tq_D cX12_state 30 (.invokevirtual 295) 3 33 := ⟨by decide +kernel, rfl⟩
theorem rX12_state_33 : tq_D cX12_state 33 (.aload_n 0) 1 34 := ⟨by decide +kernel, rfl⟩
theorem rX12_state_34 : tq_D cX12_state 34 (.getfield 271) 3 37 := ⟨by decide +kernel, rfl⟩
theorem rX12_state_37 : tq_D cX12_state 37 (.iload_n 3) 1 38 := ⟨by decide +kernel, rfl⟩
theorem rX12_state_38 : tq_J cX12_state 38 (.if_icmp .ne) 50 41 := ⟨12, by decide +kernel, by decide, rfl⟩
theorem rX12_state_41 : tq_D cX12_state 41 (.aload_n 0) 1 42 := ⟨by decide +kernel, rfl⟩
theorem rX12_state_42 : tq_D cX12_state 42 (.iload 4) 2 44 := ⟨by decide +kernel, rfl⟩
theorem rX12_state_44 : tq_D cX12_state 44 (.invokevirtual 298) 3 47 := ⟨by decide +kernel, rfl⟩
theorem rX12_state_47 : tq_J cX12_state 47 .goto 52 50 := ⟨5, by decide +kernel, by decide, rfl⟩
theorem rX12_state_50 : tq_D cX12_state 50 (.bipush (-2)) 2 52 := ⟨by decide +kernel, rfl⟩
theorem rX12_state_52 : decode cX12_state 52 = .ok (.ireturn, 1) := by decide +kernel
noncomputable def FX12_state_j25 (I : tq_PI) (L : tq_PL)  : Option (Int32 × tq_PI) :=
  some ((-2 : Int32), I)
noncomputable def FX12_state (I : tq_PI) (L : tq_PL) (a0 : Nat) (a1 : Int32) (a2 : Int32) (a3 : Int32) (a4 : Int32) : Option (Int32 × tq_PI) :=
  ((FX12_isHill I L a0 a1).bind fun p1 => (if (tq_b p1.1) = 0 then (FX12_state_j25 p1.2 L ) else ((FX12_isYear p1.2 L a0 a2).bind fun p3 => (if (tq_b p3.1) = 0 then (FX12_state_j25 p3.2 L ) else (if a3 < 0 then (FX12_state_j25 p3.2 L ) else (if 0 ≤ a4 then ((FX12_runs p3.2 L a0 a3).bind fun p7 => (if (p7 a0 24) = a3 then ((FX12_nowOf p7 L a0 a4).bind fun p9 => some (p9.1, p9.2)) else some ((-2 : Int32), p7))) else (FX12_state_j25 p3.2 L )))))))
set_option maxRecDepth 100000 in
set_option maxHeartbeats 4000000 in
theorem FX12_state_j25_x {S : Nat × (Nat → Int32)} {d : Nat} {I : tq_PI} {L : tq_PL}   {q0 : Option Value → tq_PI → tq_PL → Prop} {out : Int32 × tq_PI} (hf : FX12_state_j25 I L = some out) (hk : q0 (some (.int out.1)) out.2 L) : tq_X S mX12_state (d + 8) tq_k0 25 ([tq_u, tq_u, tq_u, tq_u, tq_u]) ([]) (tq_st I L) (tq_Q q0) := by
  unfold FX12_state_j25 at hf
  refine tq_bipush (-2 : Int32) rX12_state_25 (by decide) ?_
  refine ty_iret rX12_state_27 rfl rfl ?_
  have hf := Option.some.inj hf
  subst hf
  exact hk

set_option maxRecDepth 100000 in
set_option maxHeartbeats 4000000 in
theorem CX12_state {S : Nat × (Nat → Int32)} {d : Nat} {I : tq_PI} {L : tq_PL} {a0 : Nat} {a1 : Int32} {a2 : Int32} {a3 : Int32} {a4 : Int32} (h0 : tq_sh0 a0 = 12) {out : Int32 × tq_PI} (hf : FX12_state I L a0 a1 a2 a3 a4 = some out) : tq_K S mX12_state (d + 8) [.ref a0, .int a1, .int a2, .int a3, .int a4] I L (tq_one2 (some (.int out.1)) out.2 L) := by
  unfold FX12_state at hf
  refine tq_K_of (by decide) (Nat.le_of_ble_eq_true rfl) (ls := [.ref a0, .int a1, .int a2, .int a3, .int a4]) rfl ?_
  refine tq_aload_n rX12_state_0 rfl ?_
  refine tq_iload_n rX12_state_1 rfl ?_
  obtain ⟨p1, e1, hf⟩ := Option.bind_eq_some_iff.mp hf
  refine ty_callVI (tq_b p1.1) ([.int a1]) ([]) rX12_state_2 l_X12_221 moX12_isHill mvX12_isHill h0 rfl rfl (Nat.le_of_ble_eq_true rfl) ⟨rfl, rfl⟩ (CX12_isHill h0 e1) ?_
  refine tq_if_eq rX12_state_5 (fun c2 => ?_) (fun c2 => ?_)
  · rw [if_pos c2] at hf
    exact tq_forget _ (tq_le_u (tq_le_u (tq_le_u (tq_le_u (tq_le_u tq_le_n))))) (FX12_state_j25_x   hf ⟨rfl, rfl, rfl⟩)
  · rw [if_neg c2] at hf
    refine tq_aload_n rX12_state_8 rfl ?_
    refine tq_iload_n rX12_state_9 rfl ?_
    obtain ⟨p3, e3, hf⟩ := Option.bind_eq_some_iff.mp hf
    refine ty_callVI (tq_b p3.1) ([.int a2]) ([]) rX12_state_10 l_X12_262 moX12_isYear mvX12_isYear h0 rfl rfl (Nat.le_of_ble_eq_true rfl) ⟨rfl, rfl⟩ (CX12_isYear h0 e3) ?_
    refine tq_if_eq rX12_state_13 (fun c4 => ?_) (fun c4 => ?_)
    · rw [if_pos c4] at hf
      exact tq_forget _ (tq_le_u (tq_le_u (tq_le_u (tq_le_u (tq_le_u tq_le_n))))) (FX12_state_j25_x   hf ⟨rfl, rfl, rfl⟩)
    · rw [if_neg c4] at hf
      refine tq_iload_n rX12_state_16 rfl ?_
      refine tq_if_lt rX12_state_17 (fun c5 => ?_) (fun c5 => ?_)
      · rw [if_pos c5] at hf
        exact tq_forget _ (tq_le_u (tq_le_u (tq_le_u (tq_le_u (tq_le_u tq_le_n))))) (FX12_state_j25_x   hf ⟨rfl, rfl, rfl⟩)
      · rw [if_neg c5] at hf
        refine tq_iload rX12_state_20 rfl ?_
        refine tq_if_ge rX12_state_22 (fun c6 => ?_) (fun c6 => ?_)
        · rw [if_pos c6] at hf
          refine tq_aload_n rX12_state_28 rfl ?_
          refine tq_iload_n rX12_state_29 rfl ?_
          obtain ⟨p7, e7, hf⟩ := Option.bind_eq_some_iff.mp hf
          refine ty_callVV ([.int a3]) ([]) rX12_state_30 l_X12_295 moX12_runs mvX12_runs h0 rfl rfl (Nat.le_of_ble_eq_true rfl) ⟨rfl, rfl⟩ (CX12_runs h0 e7) ?_
          refine tq_aload_n rX12_state_33 rfl ?_
          refine ty_getI rX12_state_34 f_X12_271 rfl h0 ?_
          refine tq_iload_n rX12_state_37 rfl ?_
          refine tq_icmp_ne rX12_state_38 (fun c8 => ?_) (fun c8 => ?_)
          · rw [if_neg c8] at hf
            refine tq_bipush (-2 : Int32) rX12_state_50 (by decide) ?_
            refine ty_iret rX12_state_52 rfl rfl ?_
            have hf := Option.some.inj hf
            subst hf
            exact ⟨rfl, rfl, rfl⟩
          · rw [if_pos c8] at hf
            refine tq_aload_n rX12_state_41 rfl ?_
            refine tq_iload rX12_state_42 rfl ?_
            obtain ⟨p9, e9, hf⟩ := Option.bind_eq_some_iff.mp hf
            refine ty_callVI p9.1 ([.int a4]) ([]) rX12_state_44 l_X12_298 moX12_nowOf mvX12_nowOf h0 rfl rfl (Nat.le_of_ble_eq_true rfl) ⟨rfl, rfl⟩ (CX12_nowOf h0 e9) ?_
            refine tq_goto rX12_state_47 ?_
            refine ty_iret rX12_state_52 rfl rfl ?_
            have hf := Option.some.inj hf
            subst hf
            exact ⟨rfl, rfl, rfl⟩
        · rw [if_neg c6] at hf
          exact tq_forget _ (tq_le_u (tq_le_u (tq_le_u (tq_le_u (tq_le_u tq_le_n))))) (FX12_state_j25_x   hf ⟨rfl, rfl, rfl⟩)

abbrev mX12_after : tq_M := (yX12_after, cX12_after, 9, (Option.some Jvm.ClassFile.FieldType.int), 0, 0)
theorem rX12_after_0 : tq_D cX12_after 0 (.aload_n 0) 1 1 := ⟨by decide +kernel, rfl⟩
theorem rX12_after_1 : tq_D cX12_after 1 (.iload_n 1) 1 2 := ⟨by decide +kernel, rfl⟩
theorem rX12_after_2 : tq_D cX12_after 2 (.invokevirtual 221) 3 5 := ⟨by decide +kernel, rfl⟩
theorem rX12_after_5 : tq_J cX12_after 5 (.ifCond .eq) 25 8 := ⟨20, by decide +kernel, by decide, rfl⟩
theorem rX12_after_8 : tq_D cX12_after 8 (.aload_n 0) 1 9 := ⟨by decide +kernel, rfl⟩
theorem rX12_after_9 : tq_D cX12_after 9 (.iload_n 2) 1 10 := ⟨by decide +kernel, rfl⟩
theorem rX12_after_10 : tq_D cX12_after 10 (.invokevirtual 262) 3 13 := ⟨by decide +kernel, rfl⟩
theorem rX12_after_13 : tq_J cX12_after 13 (.ifCond .eq) 25 16 := ⟨12, by decide +kernel, by decide, rfl⟩
theorem rX12_after_16 : tq_D cX12_after 16 (.iload_n 3) 1 17 := ⟨by decide +kernel, rfl⟩
theorem rX12_after_17 : tq_D cX12_after 17 (.iconst 0) 1 18 := ⟨by decide +kernel, rfl⟩
theorem rX12_after_18 : tq_D cX12_after 18 (.iconst 2) 1 19 := ⟨by decide +kernel, rfl⟩
theorem rX12_after_19 : tq_D cX12_after 19 (.invokestatic 118) 3 22 := ⟨by decide +kernel, rfl⟩
theorem rX12_after_22 : tq_J cX12_after 22 (.ifCond .ne) 28 25 := ⟨6, by decide +kernel, by decide, rfl⟩
theorem rX12_after_25 : tq_D cX12_after 25 (.bipush (-2)) 2 27 := ⟨by decide +kernel, rfl⟩
theorem rX12_after_27 : decode cX12_after 27 = .ok (.ireturn, 1) := by decide +kernel
theorem rX12_after_28 : tq_D cX12_after 28 (.aload_n 0) 1 29 := ⟨by decide +kernel, rfl⟩
theorem rX12_after_29 : tq_D cX12_after 29 (.invokevirtual 289) 3 32 := ⟨by decide +kernel, rfl⟩
theorem rX12_after_32 : tq_D cX12_after 32 (.aload_n 0) 1 33 := ⟨by decide +kernel, rfl⟩
theorem rX12_after_33 : tq_D cX12_after 33 (.iconst 0) 1 34 := ⟨by decide +kernel, rfl⟩
theorem rX12_after_34 : tq_D cX12_after 34 (.invokevirtual 256) 3 37 := ⟨by decide +kernel, rfl⟩
theorem rX12_after_37 : tq_J cX12_after 37 (.ifCond .ne) 44 40 := ⟨7, by decide +kernel, by decide, rfl⟩
theorem rX12_after_40 : tq_D cX12_after 40 (.iconst 0) 1 41 := ⟨by decide +kernel, rfl⟩
theorem rX12_after_41 : tq_J cX12_after 41 .goto 45 44 := ⟨4, by decide +kernel, by decide, rfl⟩
theorem rX12_after_44 : tq_D cX12_after 44 (.iconst (-1)) 1 45 := ⟨by decide +kernel, rfl⟩
theorem rX12_after_45 : tq_D cX12_after 45 (.istore 4) 2 47 := ⟨by decide +kernel, rfl⟩
theorem rX12_after_47 : tq_D cX12_after 47 (.iconst (-1)) 1 48 := ⟨by decide +kernel, rfl⟩
theorem rX12_after_48 : tq_D cX12_after 48 (.istore 5) 2 50 := ⟨by decide +kernel, rfl⟩
theorem rX12_after_50 : tq_D cX12_after 50 (.iconst 0) 1 51 := ⟨by decide +kernel, rfl⟩
theorem rX12_after_51 : tq_D cX12_after 51 (.istore 6) 2 53 := ⟨by decide +kernel, rfl⟩
theorem rX12_after_53 : tq_D cX12_after 53 (.iconst 0) 1 54 := ⟨by decide +kernel, rfl⟩
theorem rX12_after_54 : tq_D cX12_after 54 (.istore 7) 2 56 := ⟨by decide +kernel, rfl⟩
theorem rX12_after_56 : tq_D cX12_after 56 (.iload 7) 2 58 := ⟨by decide +kernel, rfl⟩
theorem rX12_after_58 : tq_D cX12_after 58 (.aload_n 0) 1 59 := ⟨by decide +kernel, rfl⟩
theorem rX12_after_59 : tq_D cX12_after 59 (.getfield 7) 3 62 := ⟨by decide +kernel, rfl⟩
theorem rX12_after_62 : tq_D cX12_after 62 (.aload_n 0) 1 63 := ⟨by decide +kernel, rfl⟩
theorem rX12_after_63 : tq_D cX12_after 63 (.getfield 259) 3 66 := ⟨by decide +kernel, rfl⟩
theorem rX12_after_66 : tq_D cX12_after 66 (.iaload) 1 67 := ⟨by decide +kernel, rfl⟩
theorem rX12_after_67 : tq_J cX12_after 67 (.if_icmp .ge) 142 70 := ⟨75, by decide +kernel, by decide, rfl⟩
theorem rX12_after_70 : tq_D cX12_after 70 (.aload_n 0) 1 71 := ⟨by decide +kernel, rfl⟩
theorem rX12_after_71 : tq_D cX12_after 71 (.getfield 265) 3 74 := ⟨by decide +kernel, rfl⟩
theorem rX12_after_74 : tq_D cX12_after 74 (.istore 8) 2 76 := ⟨by decide +kernel, rfl⟩
theorem rX12_after_76 : tq_D cX12_after 76 (.aload_n 0) 1 77 := ⟨by decide +kernel, rfl⟩
theorem rX12_after_77 : tq_D cX12_after 77 (.iload 7) 2 79 := ⟨by decide +kernel, rfl⟩
theorem rX12_after_79 : tq_D cX12_after 79 (.invokevirtual 292) 3 82 := ⟨by decide +kernel, rfl⟩
theorem rX12_after_82 : tq_J cX12_after 82 (.ifCond .ne) 88 85 := ⟨6, by decide +kernel, by decide, rfl⟩
theorem rX12_after_85 : tq_J cX12_after 85 .goto 142 88 := ⟨57, by decide +kernel, by decide, rfl⟩
theorem rX12_after_88 : tq_D cX12_after 88 (.iload 4) 2 90 := ⟨by decide +kernel, rfl⟩
theorem rX12_after_90 : tq_D cX12_after 90 (.iconst (-1)) 1 91 := ⟨by decide +kernel, rfl⟩
theorem rX12_after_91 : tq_J cX12_after 91 (.if_icmp .ne) 108 94 := ⟨17, by decide +kernel, by decide, rfl⟩
theorem rX12_after_94 : tq_D cX12_after 94 (.aload_n 0) 1 95 := ⟨by decide +kernel, rfl⟩
theorem rX12_after_95 : tq_D cX12_after 95 (.iconst 0) 1 96 := ⟨by decide +kernel, rfl⟩
theorem rX12_after_96 : tq_D cX12_after 96 (.invokevirtual 256) 3 99 := ⟨by decide +kernel, rfl⟩
theorem rX12_after_99 : tq_J cX12_after 99 (.ifCond .ne) 108 102 := ⟨9, by decide +kernel, by decide, rfl⟩
theorem rX12_after_102 : tq_D cX12_after 102 (.iload 7) 2 104 := ⟨by decide +kernel, rfl⟩
theorem rX12_after_104 : tq_D cX12_after 104 (.iconst 1) 1 105 := ⟨by decide +kernel, rfl⟩
theorem rX12_after_105 : tq_D cX12_after 105 (.iadd) 1 106 := ⟨by decide +kernel, rfl⟩
theorem rX12_after_106 : tq_D cX12_after 106 (.istore 4) 2 108 := ⟨by decide +kernel, rfl⟩
theorem rX12_after_108 : tq_D cX12_after 108 (.aload_n 0) 1 109 := ⟨by decide +kernel, rfl⟩
theorem rX12_after_109 : tq_D cX12_after 109 (.getfield 265) 3 112 := ⟨by decide +kernel, rfl⟩
theorem rX12_after_112 : tq_D cX12_after 112 (.iload 8) 2 114 := ⟨by decide +kernel, rfl⟩
theorem rX12_after_114 : tq_D cX12_after 114 (.isub) 1 115 := ⟨by decide +kernel, rfl⟩
theorem rX12_after_115 : tq_D cX12_after 115 (.iload 6) 2 117 := ⟨by decide +kernel, rfl⟩
theorem rX12_after_117 : tq_J cX12_after 117 (.if_icmp .gt) 123 120 := ⟨6, by decide +kernel, by decide, rfl⟩
theorem rX12_after_120 : tq_J cX12_after 120 .goto 136 123 := ⟨16, by decide +kernel, by decide, rfl⟩
theorem rX12_after_123 : tq_D cX12_after 123 (.aload_n 0) 1 124 := ⟨by decide +kernel, rfl⟩
theorem rX12_after_124 : tq_D cX12_after 124 (.getfield 265) 3 127 := ⟨by decide +kernel, rfl⟩
theorem rX12_after_127 : tq_D cX12_after 127 (.iload 8) 2 129 := ⟨by decide +kernel, rfl⟩
theorem rX12_after_129 : tq_D cX12_after 129 (.isub) 1 130 := ⟨by decide +kernel, rfl⟩
theorem rX12_after_130 : tq_D cX12_after 130 (.istore 6) 2 132 := ⟨by decide +kernel, rfl⟩
theorem rX12_after_132 : tq_D cX12_after 132 (.iload 7) 2 134 := ⟨by decide +kernel, rfl⟩
theorem rX12_after_134 : tq_D cX12_after 134 (.istore 5) 2 136 := ⟨by decide +kernel, rfl⟩
theorem rX12_after_136 : tq_D cX12_after 136 (.iinc 7 1) 3 139 := ⟨by decide +kernel, rfl⟩
theorem rX12_after_139 : tq_J cX12_after 139 .goto 56 142 := ⟨(-83), by decide +kernel, by decide, rfl⟩
theorem rX12_after_142 : tq_D cX12_after 142 (.iload_n 3) 1 143 := ⟨by decide +kernel, rfl⟩
theorem rX12_after_143 : tq_J cX12_after 143 (.ifCond .ne) 151 146 := ⟨8, by decide +kernel, by decide, rfl⟩
theorem rX12_after_146 : tq_D cX12_after 146 (.iload 4) 2 148 := ⟨by decide +kernel, rfl⟩
theorem rX12_after_148 : tq_J cX12_after 148 .goto 163 151 := ⟨15, by decide +kernel, by decide, rfl⟩
theorem rX12_after_151 : tq_D cX12_after 151 (.iload_n 3) 1 152 := ⟨by decide +kernel, rfl⟩
theorem rX12_after_152 : tq_D cX12_after 152 (.iconst 1) 1 153 := ⟨by decide +kernel, rfl⟩
theorem rX12_after_153 : tq_J cX12_after 153 (.if_icmp .ne) 161 156 := ⟨8, by decide +kernel, by decide, rfl⟩
theorem rX12_after_156 : tq_D cX12_after 156 (.iload 5) 2 158 := ⟨by decide +kernel, rfl⟩
theorem rX12_after_158 : tq_J cX12_after 158 .goto 163 161 := ⟨5, by decide +kernel, by decide, rfl⟩
theorem rX12_after_161 : tq_D cX12_after 161 (.iload 6) 2 163 := ⟨by decide +kernel, rfl⟩
theorem rX12_after_163 : decode cX12_after 163 = .ok (.ireturn, 1) := by decide +kernel
noncomputable def FX12_after_j25 (I : tq_PI) (L : tq_PL)  : Option (Int32 × tq_PI) :=
  some ((-2 : Int32), I)
noncomputable def FX12_after_j136L56 (I : tq_PI) (L : tq_PL) (a0 : Nat) (a3 : Int32) (a4 : Int32) (a5 : Int32) (a6 : Int32) (a7 : Int32) : Option ((Int32 × Int32 × Int32 × Int32 × tq_PI) ⊕ (Int32 × Int32 × Int32 × tq_PI)) :=
  some (.inl (a4, a5, a6, (a7 + 1), I))
noncomputable def FX12_after_j108L56 (I : tq_PI) (L : tq_PL) (a0 : Nat) (a3 : Int32) (a4 : Int32) (a5 : Int32) (a6 : Int32) (a7 : Int32) (a8 : Int32) : Option ((Int32 × Int32 × Int32 × Int32 × tq_PI) ⊕ (Int32 × Int32 × Int32 × tq_PI)) :=
  (if a6 < ((I a0 22) - a8) then (FX12_after_j136L56 I L a0 a3 a4 a7 (((I a0 22) - a8)) a7) else (FX12_after_j136L56 I L a0 a3 a4 a5 a6 a7))
noncomputable def FX12_after_s56 (I : tq_PI) (L : tq_PL) (a0 : Nat) (a3 : Int32) (a4 : Int32) (a5 : Int32) (a6 : Int32) (a7 : Int32) : Option ((Int32 × Int32 × Int32 × Int32 × tq_PI) ⊕ (Int32 × Int32 × Int32 × tq_PI)) :=
  (if 0 ≤ (I a0 19) ∧ (I a0 19) < 4016 then (if (I (tq_rg a0 0) ((I a0 19)).toNatClampNeg) ≤ a7 then some (.inr (a4, a5, a6, I)) else ((FX12_doesTold I L a0 a7).bind fun p12 => (if (tq_b p12.1) = 0 then some (.inr (a4, a5, a6, p12.2)) else (if a4 = (-1 : Int32) then ((FX12_thickOf p12.2 L a0 ((0 : Int32))).bind fun p16 => (if p16.1 = 0 then (FX12_after_j108L56 p16.2 L a0 a3 ((a7 + (1 : Int32))) a5 a6 a7 ((I a0 22))) else (FX12_after_j108L56 p16.2 L a0 a3 a4 a5 a6 a7 ((I a0 22))))) else (FX12_after_j108L56 p12.2 L a0 a3 a4 a5 a6 a7 ((I a0 22))))))) else none)
noncomputable def FX12_after_j45 (I : tq_PI) (L : tq_PL) (a0 : Nat) (a3 : Int32) (b0 : Int32) : Option (Int32 × tq_PI) :=
  ((tq_it (fun p : Int32 × Int32 × Int32 × Int32 × tq_PI => FX12_after_s56 p.2.2.2.2 L a0 a3 p.1 p.2.1 p.2.2.1 p.2.2.2.1) tq_N (b0, (-1 : Int32), (0 : Int32), (0 : Int32), I)).bind fun p18 => (if a3 = 0 then some (p18.1, p18.2.2.2) else (if a3 = (1 : Int32) then some (p18.2.1, p18.2.2.2) else some (p18.2.2.1, p18.2.2.2))))
noncomputable def FX12_after (I : tq_PI) (L : tq_PL) (a0 : Nat) (a1 : Int32) (a2 : Int32) (a3 : Int32) : Option (Int32 × tq_PI) :=
  ((FX12_isHill I L a0 a1).bind fun p1 => (if (tq_b p1.1) = 0 then (FX12_after_j25 p1.2 L ) else ((FX12_isYear p1.2 L a0 a2).bind fun p3 => (if (tq_b p3.1) = 0 then (FX12_after_j25 p3.2 L ) else (tq_let (FX12_isIn p3.2 L a3 ((0 : Int32)) ((2 : Int32))) fun p5 => (if (tq_b p5) = 0 then (FX12_after_j25 p3.2 L ) else ((FX12_begins p3.2 L a0).bind fun p7 => ((FX12_thickOf p7 L a0 ((0 : Int32))).bind fun p8 => (if p8.1 = 0 then (FX12_after_j45 p8.2 L a0 a3 ((0 : Int32))) else (FX12_after_j45 p8.2 L a0 a3 ((-1 : Int32))))))))))))
set_option maxRecDepth 100000 in
set_option maxHeartbeats 4000000 in
theorem FX12_after_j25_x {S : Nat × (Nat → Int32)} {d : Nat} {I : tq_PI} {L : tq_PL}   {q0 : Option Value → tq_PI → tq_PL → Prop} {out : Int32 × tq_PI} (hf : FX12_after_j25 I L = some out) (hk : q0 (some (.int out.1)) out.2 L) : tq_X S mX12_after (d + 7) tq_k0 25 ([tq_u, tq_u, tq_u, tq_u, tq_u, tq_u, tq_u, tq_u, tq_u]) ([]) (tq_st I L) (tq_Q q0) := by
  unfold FX12_after_j25 at hf
  refine tq_bipush (-2 : Int32) rX12_after_25 (by decide) ?_
  refine ty_iret rX12_after_27 rfl rfl ?_
  have hf := Option.some.inj hf
  subst hf
  exact hk

set_option maxRecDepth 100000 in
set_option maxHeartbeats 4000000 in
theorem FX12_after_j136L56_x {S : Nat × (Nat → Int32)} {d : Nat} {I : tq_PI} {L : tq_PL} {a0 : Nat} {a3 : Int32} {a4 : Int32} {a5 : Int32} {a6 : Int32} {a7 : Int32} (h0 : tq_sh0 a0 = 12) {q0 : Option Value → tq_PI → tq_PL → Prop} {out : (Int32 × Int32 × Int32 × Int32 × tq_PI) ⊕ (Int32 × Int32 × Int32 × tq_PI)} (hf : FX12_after_j136L56 I L a0 a3 a4 a5 a6 a7 = some out) (hk : Sum.elim (fun p : Int32 × Int32 × Int32 × Int32 × tq_PI => tq_X S mX12_after (d + 7) tq_k0 56 ([.ref a0, tq_u, tq_u, .int a3, .int p.1, .int p.2.1, .int p.2.2.1, .int p.2.2.2.1, tq_u]) [] (tq_st p.2.2.2.2 L) (tq_Q q0)) (fun p : Int32 × Int32 × Int32 × tq_PI => tq_X S mX12_after (d + 7) tq_k0 142 ([tq_u, tq_u, tq_u, .int a3, .int p.1, .int p.2.1, .int p.2.2.1, tq_u, tq_u]) [] (tq_st p.2.2.2 L) (tq_Q q0)) out) : tq_X S mX12_after (d + 7) tq_k0 136 ([.ref a0, tq_u, tq_u, .int a3, .int a4, .int a5, .int a6, .int a7, tq_u]) ([]) (tq_st I L) (tq_Q q0) := by
  unfold FX12_after_j136L56 at hf
  refine tq_iinc (a7 + 1) ([.ref a0, tq_u, tq_u, .int a3, .int a4, .int a5, .int a6, .int (a7 + 1), tq_u]) rX12_after_136 rfl (tq_inc (by decide)) (Nat.le_of_ble_eq_true rfl) rfl ?_
  refine tq_goto rX12_after_139 ?_
  have hf := Option.some.inj hf
  subst hf
  exact tq_forget _ (tq_le_s (tq_le_u (tq_le_u (tq_le_s (tq_le_s (tq_le_s (tq_le_s (tq_le_s (tq_le_u tq_le_n))))))))) hk

set_option maxRecDepth 100000 in
set_option maxHeartbeats 4000000 in
theorem FX12_after_j108L56_x {S : Nat × (Nat → Int32)} {d : Nat} {I : tq_PI} {L : tq_PL} {a0 : Nat} {a3 : Int32} {a4 : Int32} {a5 : Int32} {a6 : Int32} {a7 : Int32} {a8 : Int32} (h0 : tq_sh0 a0 = 12) {q0 : Option Value → tq_PI → tq_PL → Prop} {out : (Int32 × Int32 × Int32 × Int32 × tq_PI) ⊕ (Int32 × Int32 × Int32 × tq_PI)} (hf : FX12_after_j108L56 I L a0 a3 a4 a5 a6 a7 a8 = some out) (hk : Sum.elim (fun p : Int32 × Int32 × Int32 × Int32 × tq_PI => tq_X S mX12_after (d + 7) tq_k0 56 ([.ref a0, tq_u, tq_u, .int a3, .int p.1, .int p.2.1, .int p.2.2.1, .int p.2.2.2.1, tq_u]) [] (tq_st p.2.2.2.2 L) (tq_Q q0)) (fun p : Int32 × Int32 × Int32 × tq_PI => tq_X S mX12_after (d + 7) tq_k0 142 ([tq_u, tq_u, tq_u, .int a3, .int p.1, .int p.2.1, .int p.2.2.1, tq_u, tq_u]) [] (tq_st p.2.2.2 L) (tq_Q q0)) out) : tq_X S mX12_after (d + 7) tq_k0 108 ([.ref a0, tq_u, tq_u, .int a3, .int a4, .int a5, .int a6, .int a7, .int a8]) ([]) (tq_st I L) (tq_Q q0) := by
  unfold FX12_after_j108L56 at hf
  refine tq_aload_n rX12_after_108 rfl ?_
  refine ty_getI rX12_after_109 f_X12_265 rfl h0 ?_
  refine tq_iload rX12_after_112 rfl ?_
  refine tq_isub rX12_after_114 ?_
  refine tq_iload rX12_after_115 rfl ?_
  refine tq_icmp_gt rX12_after_117 (fun c15 => ?_) (fun c15 => ?_)
  · rw [if_pos c15] at hf
    refine tq_aload_n rX12_after_123 rfl ?_
    refine ty_getI rX12_after_124 f_X12_265 rfl h0 ?_
    refine tq_iload rX12_after_127 rfl ?_
    refine tq_isub rX12_after_129 ?_
    refine tq_istore ([.ref a0, tq_u, tq_u, .int a3, .int a4, .int a5, .int ((I a0 22) - a8), .int a7, .int a8]) rX12_after_130 (Nat.le_of_ble_eq_true rfl) rfl ?_
    refine tq_iload rX12_after_132 rfl ?_
    refine tq_istore ([.ref a0, tq_u, tq_u, .int a3, .int a4, .int a7, .int ((I a0 22) - a8), .int a7, .int a8]) rX12_after_134 (Nat.le_of_ble_eq_true rfl) rfl ?_
    exact tq_forget _ (tq_le_s (tq_le_u (tq_le_u (tq_le_s (tq_le_s (tq_le_s (tq_le_s (tq_le_s (tq_le_u tq_le_n))))))))) (FX12_after_j136L56_x  h0 hf hk)
  · rw [if_neg c15] at hf
    refine tq_goto rX12_after_120 ?_
    exact tq_forget _ (tq_le_s (tq_le_u (tq_le_u (tq_le_s (tq_le_s (tq_le_s (tq_le_s (tq_le_s (tq_le_u tq_le_n))))))))) (FX12_after_j136L56_x  h0 hf hk)

set_option maxRecDepth 100000 in
set_option maxHeartbeats 4000000 in
theorem FX12_after_s56_x {S : Nat × (Nat → Int32)} {d : Nat} {I : tq_PI} {L : tq_PL} {a0 : Nat} {a3 : Int32} {a4 : Int32} {a5 : Int32} {a6 : Int32} {a7 : Int32} (h0 : tq_sh0 a0 = 12) {q0 : Option Value → tq_PI → tq_PL → Prop} {out : (Int32 × Int32 × Int32 × Int32 × tq_PI) ⊕ (Int32 × Int32 × Int32 × tq_PI)} (hf : FX12_after_s56 I L a0 a3 a4 a5 a6 a7 = some out) (hk : Sum.elim (fun p : Int32 × Int32 × Int32 × Int32 × tq_PI => tq_X S mX12_after (d + 7) tq_k0 56 ([.ref a0, tq_u, tq_u, .int a3, .int p.1, .int p.2.1, .int p.2.2.1, .int p.2.2.2.1, tq_u]) [] (tq_st p.2.2.2.2 L) (tq_Q q0)) (fun p : Int32 × Int32 × Int32 × tq_PI => tq_X S mX12_after (d + 7) tq_k0 142 ([tq_u, tq_u, tq_u, .int a3, .int p.1, .int p.2.1, .int p.2.2.1, tq_u, tq_u]) [] (tq_st p.2.2.2 L) (tq_Q q0)) out) : tq_X S mX12_after (d + 7) tq_k0 56 ([.ref a0, tq_u, tq_u, .int a3, .int a4, .int a5, .int a6, .int a7, tq_u]) [] (tq_st I L) (tq_Q q0) := by
  unfold FX12_after_s56 at hf
  refine tq_iload rX12_after_56 rfl ?_
  refine tq_aload_n rX12_after_58 rfl ?_
  refine ty_getR rX12_after_59 f_X12_7 rfl h0 (hp_12_0 h0).1 ?_
  refine tq_aload_n rX12_after_62 rfl ?_
  refine ty_getI rX12_after_63 f_X12_259 rfl h0 ?_
  obtain ⟨g10, hf⟩ := tq_chk hf
  refine ty_iald (v := 4016) rX12_after_66 (hp_12_0 h0).2.1 (hp_12_0 h0).2.2 rfl (by decide) g10 ?_
  refine tq_icmp_ge rX12_after_67 (fun c11 => ?_) (fun c11 => ?_)
  · rw [if_pos c11] at hf
    have hf := Option.some.inj hf
    subst hf
    exact tq_forget _ (tq_le_u (tq_le_u (tq_le_u (tq_le_s (tq_le_s (tq_le_s (tq_le_s (tq_le_u (tq_le_u tq_le_n))))))))) hk
  · rw [if_neg c11] at hf
    refine tq_aload_n rX12_after_70 rfl ?_
    refine ty_getI rX12_after_71 f_X12_265 rfl h0 ?_
    refine tq_istore ([.ref a0, tq_u, tq_u, .int a3, .int a4, .int a5, .int a6, .int a7, .int (I a0 22)]) rX12_after_74 (Nat.le_of_ble_eq_true rfl) rfl ?_
    refine tq_aload_n rX12_after_76 rfl ?_
    refine tq_iload rX12_after_77 rfl ?_
    obtain ⟨p12, e12, hf⟩ := Option.bind_eq_some_iff.mp hf
    refine ty_callVI (tq_b p12.1) ([.int a7]) ([]) rX12_after_79 l_X12_292 moX12_doesTold mvX12_doesTold h0 rfl rfl (Nat.le_of_ble_eq_true rfl) ⟨rfl, rfl⟩ (CX12_doesTold h0 e12) ?_
    refine tq_if_ne rX12_after_82 (fun c13 => ?_) (fun c13 => ?_)
    · rw [if_neg c13] at hf
      refine tq_iload rX12_after_88 rfl ?_
      refine tq_iconst (-1 : Int32) rX12_after_90 (by decide) ?_
      refine tq_icmp_ne rX12_after_91 (fun c14 => ?_) (fun c14 => ?_)
      · rw [if_neg c14] at hf
        exact tq_forget _ (tq_le_s (tq_le_u (tq_le_u (tq_le_s (tq_le_s (tq_le_s (tq_le_s (tq_le_s (tq_le_s tq_le_n))))))))) (FX12_after_j108L56_x  h0 hf hk)
      · rw [if_pos c14] at hf
        refine tq_aload_n rX12_after_94 rfl ?_
        refine tq_iconst (0 : Int32) rX12_after_95 (by decide) ?_
        obtain ⟨p16, e16, hf⟩ := Option.bind_eq_some_iff.mp hf
        refine ty_callVI p16.1 ([.int (0 : Int32)]) ([]) rX12_after_96 l_X12_256 moX12_thickOf mvX12_thickOf h0 rfl rfl (Nat.le_of_ble_eq_true rfl) ⟨rfl, rfl⟩ (CX12_thickOf h0 e16) ?_
        refine tq_if_ne rX12_after_99 (fun c17 => ?_) (fun c17 => ?_)
        · rw [if_neg c17] at hf
          exact tq_forget _ (tq_le_s (tq_le_u (tq_le_u (tq_le_s (tq_le_s (tq_le_s (tq_le_s (tq_le_s (tq_le_s tq_le_n))))))))) (FX12_after_j108L56_x  h0 hf hk)
        · rw [if_pos c17] at hf
          refine tq_iload rX12_after_102 rfl ?_
          refine tq_iconst (1 : Int32) rX12_after_104 (by decide) ?_
          refine tq_iadd rX12_after_105 ?_
          refine tq_istore ([.ref a0, tq_u, tq_u, .int a3, .int (a7 + (1 : Int32)), .int a5, .int a6, .int a7, .int (I a0 22)]) rX12_after_106 (Nat.le_of_ble_eq_true rfl) rfl ?_
          exact tq_forget _ (tq_le_s (tq_le_u (tq_le_u (tq_le_s (tq_le_s (tq_le_s (tq_le_s (tq_le_s (tq_le_s tq_le_n))))))))) (FX12_after_j108L56_x  h0 hf hk)
    · rw [if_pos c13] at hf
      refine tq_goto rX12_after_85 ?_
      have hf := Option.some.inj hf
      subst hf
      exact tq_forget _ (tq_le_u (tq_le_u (tq_le_u (tq_le_s (tq_le_s (tq_le_s (tq_le_s (tq_le_u (tq_le_u tq_le_n))))))))) hk

set_option maxRecDepth 100000 in
set_option maxHeartbeats 4000000 in
theorem FX12_after_j45_x {S : Nat × (Nat → Int32)} {d : Nat} {I : tq_PI} {L : tq_PL} {a0 : Nat} {a3 : Int32} {b0 : Int32} (h0 : tq_sh0 a0 = 12) {q0 : Option Value → tq_PI → tq_PL → Prop} {out : Int32 × tq_PI} (hf : FX12_after_j45 I L a0 a3 b0 = some out) (hk : q0 (some (.int out.1)) out.2 L) : tq_X S mX12_after (d + 7) tq_k0 45 ([.ref a0, tq_u, tq_u, .int a3, tq_u, tq_u, tq_u, tq_u, tq_u]) ([.int b0]) (tq_st I L) (tq_Q q0) := by
  unfold FX12_after_j45 at hf
  refine tq_istore ([.ref a0, tq_u, tq_u, .int a3, .int b0, tq_u, tq_u, tq_u, tq_u]) rX12_after_45 (Nat.le_of_ble_eq_true rfl) rfl ?_
  refine tq_iconst (-1 : Int32) rX12_after_47 (by decide) ?_
  refine tq_istore ([.ref a0, tq_u, tq_u, .int a3, .int b0, .int (-1 : Int32), tq_u, tq_u, tq_u]) rX12_after_48 (Nat.le_of_ble_eq_true rfl) rfl ?_
  refine tq_iconst (0 : Int32) rX12_after_50 (by decide) ?_
  refine tq_istore ([.ref a0, tq_u, tq_u, .int a3, .int b0, .int (-1 : Int32), .int (0 : Int32), tq_u, tq_u]) rX12_after_51 (Nat.le_of_ble_eq_true rfl) rfl ?_
  refine tq_iconst (0 : Int32) rX12_after_53 (by decide) ?_
  refine tq_istore ([.ref a0, tq_u, tq_u, .int a3, .int b0, .int (-1 : Int32), .int (0 : Int32), .int (0 : Int32), tq_u]) rX12_after_54 (Nat.le_of_ble_eq_true rfl) rfl ?_
  obtain ⟨p18, e18, hf⟩ := Option.bind_eq_some_iff.mp hf
  refine tq_forget _ (tq_le_s (tq_le_u (tq_le_u (tq_le_s (tq_le_s (tq_le_s (tq_le_s (tq_le_s (tq_le_u tq_le_n))))))))) ?_
  refine tq_it_elim (P := fun p : Int32 × Int32 × Int32 × Int32 × tq_PI => tq_X S mX12_after (d + 7) tq_k0 56 ([.ref a0, tq_u, tq_u, .int a3, .int p.1, .int p.2.1, .int p.2.2.1, .int p.2.2.2.1, tq_u]) [] (tq_st p.2.2.2.2 L) (tq_Q q0)) (R := fun p : Int32 × Int32 × Int32 × tq_PI => tq_X S mX12_after (d + 7) tq_k0 142 ([tq_u, tq_u, tq_u, .int a3, .int p.1, .int p.2.1, .int p.2.2.1, tq_u, tq_u]) [] (tq_st p.2.2.2 L) (tq_Q q0)) (fun p o hp hk => FX12_after_s56_x  h0 hp hk) _ ((b0, (-1 : Int32), (0 : Int32), (0 : Int32), I)) _ e18 ?_
  show tq_X _ _ _ _ _ _ _ _ _
  refine tq_iload_n rX12_after_142 rfl ?_
  refine tq_if_ne rX12_after_143 (fun c19 => ?_) (fun c19 => ?_)
  · rw [if_neg c19] at hf
    refine tq_iload_n rX12_after_151 rfl ?_
    refine tq_iconst (1 : Int32) rX12_after_152 (by decide) ?_
    refine tq_icmp_ne rX12_after_153 (fun c20 => ?_) (fun c20 => ?_)
    · rw [if_neg c20] at hf
      refine tq_iload rX12_after_161 rfl ?_
      refine ty_iret rX12_after_163 rfl rfl ?_
      have hf := Option.some.inj hf
      subst hf
      exact hk
    · rw [if_pos c20] at hf
      refine tq_iload rX12_after_156 rfl ?_
      refine tq_goto rX12_after_158 ?_
      refine ty_iret rX12_after_163 rfl rfl ?_
      have hf := Option.some.inj hf
      subst hf
      exact hk
  · rw [if_pos c19] at hf
    refine tq_iload rX12_after_146 rfl ?_
    refine tq_goto rX12_after_148 ?_
    refine ty_iret rX12_after_163 rfl rfl ?_
    have hf := Option.some.inj hf
    subst hf
    exact hk

set_option maxRecDepth 100000 in
set_option maxHeartbeats 4000000 in
theorem CX12_after {S : Nat × (Nat → Int32)} {d : Nat} {I : tq_PI} {L : tq_PL} {a0 : Nat} {a1 : Int32} {a2 : Int32} {a3 : Int32} (h0 : tq_sh0 a0 = 12) {out : Int32 × tq_PI} (hf : FX12_after I L a0 a1 a2 a3 = some out) : tq_K S mX12_after (d + 7) [.ref a0, .int a1, .int a2, .int a3] I L (tq_one2 (some (.int out.1)) out.2 L) := by
  unfold FX12_after at hf
  refine tq_K_of (by decide) (Nat.le_of_ble_eq_true rfl) (ls := [.ref a0, .int a1, .int a2, .int a3, tq_u, tq_u, tq_u, tq_u, tq_u]) rfl ?_
  refine tq_aload_n rX12_after_0 rfl ?_
  refine tq_iload_n rX12_after_1 rfl ?_
  obtain ⟨p1, e1, hf⟩ := Option.bind_eq_some_iff.mp hf
  refine ty_callVI (tq_b p1.1) ([.int a1]) ([]) rX12_after_2 l_X12_221 moX12_isHill mvX12_isHill h0 rfl rfl (Nat.le_of_ble_eq_true rfl) ⟨rfl, rfl⟩ (CX12_isHill h0 e1) ?_
  refine tq_if_eq rX12_after_5 (fun c2 => ?_) (fun c2 => ?_)
  · rw [if_pos c2] at hf
    exact tq_forget _ (tq_le_u (tq_le_u (tq_le_u (tq_le_u (tq_le_u (tq_le_u (tq_le_u (tq_le_u (tq_le_u tq_le_n))))))))) (FX12_after_j25_x   hf ⟨rfl, rfl, rfl⟩)
  · rw [if_neg c2] at hf
    refine tq_aload_n rX12_after_8 rfl ?_
    refine tq_iload_n rX12_after_9 rfl ?_
    obtain ⟨p3, e3, hf⟩ := Option.bind_eq_some_iff.mp hf
    refine ty_callVI (tq_b p3.1) ([.int a2]) ([]) rX12_after_10 l_X12_262 moX12_isYear mvX12_isYear h0 rfl rfl (Nat.le_of_ble_eq_true rfl) ⟨rfl, rfl⟩ (CX12_isYear h0 e3) ?_
    refine tq_if_eq rX12_after_13 (fun c4 => ?_) (fun c4 => ?_)
    · rw [if_pos c4] at hf
      exact tq_forget _ (tq_le_u (tq_le_u (tq_le_u (tq_le_u (tq_le_u (tq_le_u (tq_le_u (tq_le_u (tq_le_u tq_le_n))))))))) (FX12_after_j25_x   hf ⟨rfl, rfl, rfl⟩)
    · rw [if_neg c4] at hf
      refine tq_iload_n rX12_after_16 rfl ?_
      refine tq_iconst (0 : Int32) rX12_after_17 (by decide) ?_
      refine tq_iconst (2 : Int32) rX12_after_18 (by decide) ?_
      obtain ⟨p5, e5, hf⟩ := tq_let_elim hf
      refine ty_callSI (tq_b p5) ([.int a3, .int (0 : Int32), .int (2 : Int32)]) ([]) rX12_after_19 l_X12_118 moX12_isIn msX12_isIn rfl rfl (Nat.le_of_ble_eq_true rfl) ⟨rfl, rfl⟩ (CX12_isIn  e5) ?_
      refine tq_if_ne rX12_after_22 (fun c6 => ?_) (fun c6 => ?_)
      · rw [if_neg c6] at hf
        refine tq_aload_n rX12_after_28 rfl ?_
        obtain ⟨p7, e7, hf⟩ := Option.bind_eq_some_iff.mp hf
        refine ty_callVV ([]) ([]) rX12_after_29 l_X12_289 moX12_begins mvX12_begins h0 rfl rfl (Nat.le_of_ble_eq_true rfl) ⟨rfl, rfl⟩ (CX12_begins h0 e7) ?_
        refine tq_aload_n rX12_after_32 rfl ?_
        refine tq_iconst (0 : Int32) rX12_after_33 (by decide) ?_
        obtain ⟨p8, e8, hf⟩ := Option.bind_eq_some_iff.mp hf
        refine ty_callVI p8.1 ([.int (0 : Int32)]) ([]) rX12_after_34 l_X12_256 moX12_thickOf mvX12_thickOf h0 rfl rfl (Nat.le_of_ble_eq_true rfl) ⟨rfl, rfl⟩ (CX12_thickOf h0 e8) ?_
        refine tq_if_ne rX12_after_37 (fun c9 => ?_) (fun c9 => ?_)
        · rw [if_neg c9] at hf
          refine tq_iconst (-1 : Int32) rX12_after_44 (by decide) ?_
          exact tq_forget _ (tq_le_s (tq_le_u (tq_le_u (tq_le_s (tq_le_u (tq_le_u (tq_le_u (tq_le_u (tq_le_u tq_le_n))))))))) (FX12_after_j45_x  h0 hf ⟨rfl, rfl, rfl⟩)
        · rw [if_pos c9] at hf
          refine tq_iconst (0 : Int32) rX12_after_40 (by decide) ?_
          refine tq_goto rX12_after_41 ?_
          exact tq_forget _ (tq_le_s (tq_le_u (tq_le_u (tq_le_s (tq_le_u (tq_le_u (tq_le_u (tq_le_u (tq_le_u tq_le_n))))))))) (FX12_after_j45_x  h0 hf ⟨rfl, rfl, rfl⟩)
      · rw [if_pos c6] at hf
        exact tq_forget _ (tq_le_u (tq_le_u (tq_le_u (tq_le_u (tq_le_u (tq_le_u (tq_le_u (tq_le_u (tq_le_u tq_le_n))))))))) (FX12_after_j25_x   hf ⟨rfl, rfl, rfl⟩)

abbrev mX12_cuts : tq_M := (yX12_cuts, cX12_cuts, 7, (Option.some Jvm.ClassFile.FieldType.int), 0, 0)
theorem moX12_taken : tq_mok mX12_taken 2 := ⟨tq_sg1 _ (List.mem_of_getElem? (i := 13) rfl), tq_sg7 _ (List.mem_of_getElem? (i := 234) rfl), ⟨by decide, by decide, by decide +kernel⟩, by decide⟩
theorem mvX12_taken : 12 < 13 ∧ (tq_cl 12).1 = mX12_taken.1.cls ∧ Cond.instanceMethod mX12_taken.1 ∈ lw_tbl ∧ Cond.selects mX12_taken.1.cls mX12_taken.1 mX12_taken.1 ∈ lw_tbl := ⟨by decide, rfl, tq_sg7 _ (List.mem_of_getElem? (i := 233) rfl), List.mem_append_left _ (List.mem_map.mpr ⟨_, List.mem_of_getElem? (i := 85) rfl, rfl⟩)⟩
theorem l_X12_301 : tq_lok RX12 301 mX12_taken.1 := Or.inl (tq_sg7 _ (List.mem_of_getElem? (i := 231) rfl))
theorem rX12_cuts_0 : tq_D cX12_cuts 0 (.aload_n 0) 1 1 := ⟨by decide +kernel, rfl⟩
theorem rX12_cuts_1 : tq_D cX12_cuts 1 (.iload_n 1) 1 2 := ⟨by decide +kernel, rfl⟩
theorem rX12_cuts_2 : tq_D cX12_cuts 2 (.invokevirtual 221) 3 5 := ⟨by decide +kernel, rfl⟩
theorem rX12_cuts_5 : tq_J cX12_cuts 5 (.ifCond .eq) 21 8 := ⟨16, by decide +kernel, by decide, rfl⟩
theorem rX12_cuts_8 : tq_D cX12_cuts 8 (.iload_n 2) 1 9 := ⟨by decide +kernel, rfl⟩
theorem rX12_cuts_9 : tq_D cX12_cuts 9 (.invokestatic 227) 3 12 := ⟨by decide +kernel, rfl⟩
theorem rX12_cuts_12 : tq_J cX12_cuts 12 (.ifCond .eq) 21 15 := ⟨9, by decide +kernel, by decide, rfl⟩
theorem rX12_cuts_15 : tq_D cX12_cuts 15 (.iload 4) 2 17 := ⟨by decide +kernel, rfl⟩
theorem rX12_cuts_17 : tq_D cX12_cuts 17 (.iconst (-1)) 1 18 := ⟨by decide +kernel, rfl⟩
theorem rX12_cuts_18 : tq_J cX12_cuts 18 (.if_icmp .ge) 23 21 := ⟨5, by decide +kernel, by decide, rfl⟩
theorem rX12_cuts_21 : tq_D cX12_cuts 21 (.iconst (-1)) 1 22 := ⟨by decide +kernel, rfl⟩
theorem rX12_cuts_22 : decode cX12_cuts 22 = .ok (.ireturn, 1) := by decide +kernel
theorem rX12_cuts_23 : tq_D cX12_cuts 23 (.aload_n 0) 1 24 := ⟨by decide +kernel, rfl⟩
theorem rX12_cuts_24 : tq_D cX12_cuts 24 (.invokevirtual 224) 3 27 := ⟨by decide +kernel, rfl⟩
theorem rX12_cuts_27 : tq_D cX12_cuts 27 (.aload_n 0) 1 28 := ⟨by decide +kernel, rfl⟩
theorem rX12_cuts_28 : tq_D cX12_cuts 28 (.iconst 0) 1 29 := ⟨by decide +kernel, rfl⟩
theorem rX12_cuts_29 : tq_D cX12_cuts 29 (.iload_n 2) 1 30 := ⟨by decide +kernel, rfl⟩
theorem rX12_cuts_30 : tq_D cX12_cuts 30 (.invokevirtual 274) 3 33 := ⟨by decide +kernel, rfl⟩
theorem rX12_cuts_33 : tq_D cX12_cuts 33 (.iconst 0) 1 34 := ⟨by decide +kernel, rfl⟩
theorem rX12_cuts_34 : tq_D cX12_cuts 34 (.istore 5) 2 36 := ⟨by decide +kernel, rfl⟩
theorem rX12_cuts_36 : tq_D cX12_cuts 36 (.iconst 0) 1 37 := ⟨by decide +kernel, rfl⟩
theorem rX12_cuts_37 : tq_D cX12_cuts 37 (.istore 6) 2 39 := ⟨by decide +kernel, rfl⟩
theorem rX12_cuts_39 : tq_D cX12_cuts 39 (.iload 6) 2 41 := ⟨by decide +kernel, rfl⟩
theorem rX12_cuts_41 : tq_D cX12_cuts 41 (.aload_n 0) 1 42 := ⟨by decide +kernel, rfl⟩
theorem rX12_cuts_42 : tq_D cX12_cuts 42 (.invokevirtual 190) 3 45 := ⟨by decide +kernel, rfl⟩
theorem rX12_cuts_45 : tq_J cX12_cuts 45 (.if_icmp .ge) 95 48 := ⟨50, by decide +kernel, by decide, rfl⟩
theorem rX12_cuts_48 : tq_D cX12_cuts 48 (.aload_n 0) 1 49 := ⟨by decide +kernel, rfl⟩
theorem rX12_cuts_49 : tq_D cX12_cuts 49 (.iconst 0) 1 50 := ⟨by decide +kernel, rfl⟩
theorem rX12_cuts_50 : tq_D cX12_cuts 50 (.iload_n 2) 1 51 := ⟨by decide +kernel, rfl⟩
theorem rX12_cuts_51 : tq_D cX12_cuts 51 (.iload 6) 2 53 := ⟨by decide +kernel, rfl⟩
theorem rX12_cuts_53 : tq_D cX12_cuts 53 (.invokevirtual 277) 3 56 := ⟨by decide +kernel, rfl⟩
theorem rX12_cuts_56 : tq_J cX12_cuts 56 (.ifCond .eq) 89 59 := ⟨33, by decide +kernel, by decide, rfl⟩
theorem rX12_cuts_59 : tq_D cX12_cuts 59 (.iload_n 3) 1 60 := ⟨by decide +kernel, rfl⟩
theorem rX12_cuts_60 : tq_J cX12_cuts 60 (.ifCond .eq) 76 63 := ⟨16, by decide +kernel, by decide, rfl⟩
theorem rX12_cuts_63 : tq_D cX12_cuts 63 (.aload_n 0) 1 64 := ⟨by decide +kernel, rfl⟩
theorem rX12_cuts_64 : tq_D cX12_cuts 64 (.iconst 0) 1 65 := ⟨by decide +kernel, rfl⟩
theorem rX12_cuts_65 : tq_D cX12_cuts 65 (.iload 6) 2 67 := ⟨by decide +kernel, rfl⟩
theorem rX12_cuts_67 : tq_D cX12_cuts 67 (.invokevirtual 301) 3 70 := ⟨by decide +kernel, rfl⟩
theorem rX12_cuts_70 : tq_J cX12_cuts 70 (.ifCond .le) 76 73 := ⟨6, by decide +kernel, by decide, rfl⟩
theorem rX12_cuts_73 : tq_J cX12_cuts 73 .goto 89 76 := ⟨16, by decide +kernel, by decide, rfl⟩
theorem rX12_cuts_76 : tq_D cX12_cuts 76 (.iload 5) 2 78 := ⟨by decide +kernel, rfl⟩
theorem rX12_cuts_78 : tq_D cX12_cuts 78 (.iload 4) 2 80 := ⟨by decide +kernel, rfl⟩
theorem rX12_cuts_80 : tq_J cX12_cuts 80 (.if_icmp .ne) 86 83 := ⟨6, by decide +kernel, by decide, rfl⟩
theorem rX12_cuts_83 : tq_D cX12_cuts 83 (.iload 6) 2 85 := ⟨by decide +kernel, rfl⟩
theorem rX12_cuts_85 : decode cX12_cuts 85 = .ok (.ireturn, 1) := by decide +kernel
theorem rX12_cuts_86 : tq_D cX12_cuts 86 (.iinc 5 1) 3 89 := ⟨by decide +kernel, rfl⟩
theorem rX12_cuts_89 : tq_D cX12_cuts 89 (.iinc 6 1) 3 92 := ⟨by decide +kernel, rfl⟩
theorem rX12_cuts_92 : tq_J cX12_cuts 92 .goto 39 95 := ⟨(-53), by decide +kernel, by decide, rfl⟩
theorem rX12_cuts_95 : tq_D cX12_cuts 95 (.iload 4) 2 97 := ⟨by decide +kernel, rfl⟩
theorem rX12_cuts_97 : tq_D cX12_cuts 97 (.iconst (-1)) 1 98 := ⟨by decide +kernel, rfl⟩
theorem rX12_cuts_98 : tq_J cX12_cuts 98 (.if_icmp .ne) 106 101 := ⟨8, by decide +kernel, by decide, rfl⟩
theorem rX12_cuts_101 : tq_D cX12_cuts 101 (.iload 5) 2 103 := ⟨by decide +kernel, rfl⟩
theorem rX12_cuts_103 : tq_J cX12_cuts 103 .goto 107 106 := ⟨4, by decide +kernel, by decide, rfl⟩
theorem rX12_cuts_106 : tq_D cX12_cuts 106 (.iconst (-1)) 1 107 := ⟨by decide +kernel, rfl⟩
theorem rX12_cuts_107 : decode cX12_cuts 107 = .ok (.ireturn, 1) := by decide +kernel
noncomputable def FX12_cuts_j21 (I : tq_PI) (L : tq_PL)  : Option (Int32 × tq_PI) :=
  some ((-1 : Int32), I)
noncomputable def FX12_cuts_j89L39 (I : tq_PI) (L : tq_PL) (a0 : Nat) (a2 : Int32) (a3 : Int32) (a4 : Int32) (a5 : Int32) (a6 : Int32) : Option ((Int32 × Int32 × tq_PI) ⊕ ((Int32 × tq_PI) ⊕ (Int32 × tq_PI))) :=
  some (.inl (a5, (a6 + 1), I))
noncomputable def FX12_cuts_j76L39 (I : tq_PI) (L : tq_PL) (a0 : Nat) (a2 : Int32) (a3 : Int32) (a4 : Int32) (a5 : Int32) (a6 : Int32) : Option ((Int32 × Int32 × tq_PI) ⊕ ((Int32 × tq_PI) ⊕ (Int32 × tq_PI))) :=
  (if a5 = a4 then some (.inr (.inr (a6, I))) else (FX12_cuts_j89L39 I L a0 a2 a3 a4 ((a5 + 1)) a6))
noncomputable def FX12_cuts_s39 (I : tq_PI) (L : tq_PL) (a0 : Nat) (a2 : Int32) (a3 : Int32) (a4 : Int32) (a5 : Int32) (a6 : Int32) : Option ((Int32 × Int32 × tq_PI) ⊕ ((Int32 × tq_PI) ⊕ (Int32 × tq_PI))) :=
  (tq_let (FX12_many I L a0) fun p8 => (if p8 ≤ a6 then some (.inr (.inl (a5, I))) else ((FX12_isCut I L a0 ((0 : Int32)) a2 a6).bind fun p10 => (if (tq_b p10) = 0 then (FX12_cuts_j89L39 I L a0 a2 a3 a4 a5 a6) else (if a3 = 0 then (FX12_cuts_j76L39 I L a0 a2 a3 a4 a5 a6) else ((FX12_taken I L a0 ((0 : Int32)) a6).bind fun p14 => (if p14.1 ≤ 0 then (FX12_cuts_j76L39 p14.2 L a0 a2 a3 a4 a5 a6) else (FX12_cuts_j89L39 p14.2 L a0 a2 a3 a4 a5 a6))))))))
noncomputable def FX12_cuts (I : tq_PI) (L : tq_PL) (a0 : Nat) (a1 : Int32) (a2 : Int32) (a3 : Int32) (a4 : Int32) : Option (Int32 × tq_PI) :=
  ((FX12_isHill I L a0 a1).bind fun p1 => (if (tq_b p1.1) = 0 then (FX12_cuts_j21 p1.2 L ) else (tq_let (FX12_isSide p1.2 L a2) fun p3 => (if (tq_b p3) = 0 then (FX12_cuts_j21 p1.2 L ) else (if (-1 : Int32) ≤ a4 then ((FX12_asTold p1.2 L a0).bind fun p6 => ((FX12_reaches p6 L a0 ((0 : Int32)) a2).bind fun p7 => ((tq_it (fun p : Int32 × Int32 × tq_PI => FX12_cuts_s39 p.2.2 L a0 a2 a3 a4 p.1 p.2.1) tq_N ((0 : Int32), (0 : Int32), p7)).bind fun p16 => p16.elim (fun t17 => (if a4 = (-1 : Int32) then some (t17.1, t17.2) else some ((-1 : Int32), t17.2))) (fun t17 => some t17)))) else (FX12_cuts_j21 p1.2 L ))))))
set_option maxRecDepth 100000 in
set_option maxHeartbeats 4000000 in
theorem FX12_cuts_j21_x {S : Nat × (Nat → Int32)} {d : Nat} {I : tq_PI} {L : tq_PL}   {q0 : Option Value → tq_PI → tq_PL → Prop} {out : Int32 × tq_PI} (hf : FX12_cuts_j21 I L = some out) (hk : q0 (some (.int out.1)) out.2 L) : tq_X S mX12_cuts (d + 5) tq_k0 21 ([tq_u, tq_u, tq_u, tq_u, tq_u, tq_u, tq_u]) ([]) (tq_st I L) (tq_Q q0) := by
  unfold FX12_cuts_j21 at hf
  refine tq_iconst (-1 : Int32) rX12_cuts_21 (by decide) ?_
  refine ty_iret rX12_cuts_22 rfl rfl ?_
  have hf := Option.some.inj hf
  subst hf
  exact hk

set_option maxRecDepth 100000 in
set_option maxHeartbeats 4000000 in
theorem FX12_cuts_j89L39_x {S : Nat × (Nat → Int32)} {d : Nat} {I : tq_PI} {L : tq_PL} {a0 : Nat} {a2 : Int32} {a3 : Int32} {a4 : Int32} {a5 : Int32} {a6 : Int32} (h0 : tq_sh0 a0 = 12) {q0 : Option Value → tq_PI → tq_PL → Prop} {out : (Int32 × Int32 × tq_PI) ⊕ ((Int32 × tq_PI) ⊕ (Int32 × tq_PI))} (hf : FX12_cuts_j89L39 I L a0 a2 a3 a4 a5 a6 = some out) (hk : Sum.elim (fun p : Int32 × Int32 × tq_PI => tq_X S mX12_cuts (d + 5) tq_k0 39 ([.ref a0, tq_u, .int a2, .int a3, .int a4, .int p.1, .int p.2.1]) [] (tq_st p.2.2 L) (tq_Q q0)) (Sum.elim (fun p : Int32 × tq_PI => tq_X S mX12_cuts (d + 5) tq_k0 95 ([tq_u, tq_u, tq_u, tq_u, .int a4, .int p.1, tq_u]) [] (tq_st p.2 L) (tq_Q q0)) (fun p : Int32 × tq_PI => q0 (some (.int p.1)) p.2 L)) out) : tq_X S mX12_cuts (d + 5) tq_k0 89 ([.ref a0, tq_u, .int a2, .int a3, .int a4, .int a5, .int a6]) ([]) (tq_st I L) (tq_Q q0) := by
  unfold FX12_cuts_j89L39 at hf
  refine tq_iinc (a6 + 1) ([.ref a0, tq_u, .int a2, .int a3, .int a4, .int a5, .int (a6 + 1)]) rX12_cuts_89 rfl (tq_inc (by decide)) (Nat.le_of_ble_eq_true rfl) rfl ?_
  refine tq_goto rX12_cuts_92 ?_
  have hf := Option.some.inj hf
  subst hf
  exact tq_forget _ (tq_le_s (tq_le_u (tq_le_s (tq_le_s (tq_le_s (tq_le_s (tq_le_s tq_le_n))))))) hk

set_option maxRecDepth 100000 in
set_option maxHeartbeats 4000000 in
theorem FX12_cuts_j76L39_x {S : Nat × (Nat → Int32)} {d : Nat} {I : tq_PI} {L : tq_PL} {a0 : Nat} {a2 : Int32} {a3 : Int32} {a4 : Int32} {a5 : Int32} {a6 : Int32} (h0 : tq_sh0 a0 = 12) {q0 : Option Value → tq_PI → tq_PL → Prop} {out : (Int32 × Int32 × tq_PI) ⊕ ((Int32 × tq_PI) ⊕ (Int32 × tq_PI))} (hf : FX12_cuts_j76L39 I L a0 a2 a3 a4 a5 a6 = some out) (hk : Sum.elim (fun p : Int32 × Int32 × tq_PI => tq_X S mX12_cuts (d + 5) tq_k0 39 ([.ref a0, tq_u, .int a2, .int a3, .int a4, .int p.1, .int p.2.1]) [] (tq_st p.2.2 L) (tq_Q q0)) (Sum.elim (fun p : Int32 × tq_PI => tq_X S mX12_cuts (d + 5) tq_k0 95 ([tq_u, tq_u, tq_u, tq_u, .int a4, .int p.1, tq_u]) [] (tq_st p.2 L) (tq_Q q0)) (fun p : Int32 × tq_PI => q0 (some (.int p.1)) p.2 L)) out) : tq_X S mX12_cuts (d + 5) tq_k0 76 ([.ref a0, tq_u, .int a2, .int a3, .int a4, .int a5, .int a6]) ([]) (tq_st I L) (tq_Q q0) := by
  unfold FX12_cuts_j76L39 at hf
  refine tq_iload rX12_cuts_76 rfl ?_
  refine tq_iload rX12_cuts_78 rfl ?_
  refine tq_icmp_ne rX12_cuts_80 (fun c13 => ?_) (fun c13 => ?_)
  · rw [if_neg c13] at hf
    refine tq_iinc (a5 + 1) ([.ref a0, tq_u, .int a2, .int a3, .int a4, .int (a5 + 1), .int a6]) rX12_cuts_86 rfl (tq_inc (by decide)) (Nat.le_of_ble_eq_true rfl) rfl ?_
    exact tq_forget _ (tq_le_s (tq_le_u (tq_le_s (tq_le_s (tq_le_s (tq_le_s (tq_le_s tq_le_n))))))) (FX12_cuts_j89L39_x  h0 hf hk)
  · rw [if_pos c13] at hf
    refine tq_iload rX12_cuts_83 rfl ?_
    refine ty_iret rX12_cuts_85 rfl rfl ?_
    have hf := Option.some.inj hf
    subst hf
    exact hk

set_option maxRecDepth 100000 in
set_option maxHeartbeats 4000000 in
theorem FX12_cuts_s39_x {S : Nat × (Nat → Int32)} {d : Nat} {I : tq_PI} {L : tq_PL} {a0 : Nat} {a2 : Int32} {a3 : Int32} {a4 : Int32} {a5 : Int32} {a6 : Int32} (h0 : tq_sh0 a0 = 12) {q0 : Option Value → tq_PI → tq_PL → Prop} {out : (Int32 × Int32 × tq_PI) ⊕ ((Int32 × tq_PI) ⊕ (Int32 × tq_PI))} (hf : FX12_cuts_s39 I L a0 a2 a3 a4 a5 a6 = some out) (hk : Sum.elim (fun p : Int32 × Int32 × tq_PI => tq_X S mX12_cuts (d + 5) tq_k0 39 ([.ref a0, tq_u, .int a2, .int a3, .int a4, .int p.1, .int p.2.1]) [] (tq_st p.2.2 L) (tq_Q q0)) (Sum.elim (fun p : Int32 × tq_PI => tq_X S mX12_cuts (d + 5) tq_k0 95 ([tq_u, tq_u, tq_u, tq_u, .int a4, .int p.1, tq_u]) [] (tq_st p.2 L) (tq_Q q0)) (fun p : Int32 × tq_PI => q0 (some (.int p.1)) p.2 L)) out) : tq_X S mX12_cuts (d + 5) tq_k0 39 ([.ref a0, tq_u, .int a2, .int a3, .int a4, .int a5, .int a6]) [] (tq_st I L) (tq_Q q0) := by
  unfold FX12_cuts_s39 at hf
  refine tq_iload rX12_cuts_39 rfl ?_
  refine tq_aload_n rX12_cuts_41 rfl ?_
  obtain ⟨p8, e8, hf⟩ := tq_let_elim hf
  refine ty_callVI p8 ([]) ([.int a6]) rX12_cuts_42 l_X12_190 moX12_many mvX12_many h0 rfl rfl (Nat.le_of_ble_eq_true rfl) ⟨rfl, rfl⟩ (CX12_many h0 e8) ?_
  refine tq_icmp_ge rX12_cuts_45 (fun c9 => ?_) (fun c9 => ?_)
  · rw [if_pos c9] at hf
    have hf := Option.some.inj hf
    subst hf
    exact tq_forget _ (tq_le_u (tq_le_u (tq_le_u (tq_le_u (tq_le_s (tq_le_s (tq_le_u tq_le_n))))))) hk
  · rw [if_neg c9] at hf
    refine tq_aload_n rX12_cuts_48 rfl ?_
    refine tq_iconst (0 : Int32) rX12_cuts_49 (by decide) ?_
    refine tq_iload_n rX12_cuts_50 rfl ?_
    refine tq_iload rX12_cuts_51 rfl ?_
    obtain ⟨p10, e10, hf⟩ := Option.bind_eq_some_iff.mp hf
    refine ty_callVI (tq_b p10) ([.int (0 : Int32), .int a2, .int a6]) ([]) rX12_cuts_53 l_X12_277 moX12_isCut mvX12_isCut h0 rfl rfl (Nat.le_of_ble_eq_true rfl) ⟨rfl, rfl⟩ (CX12_isCut h0 e10) ?_
    refine tq_if_eq rX12_cuts_56 (fun c11 => ?_) (fun c11 => ?_)
    · rw [if_pos c11] at hf
      exact tq_forget _ (tq_le_s (tq_le_u (tq_le_s (tq_le_s (tq_le_s (tq_le_s (tq_le_s tq_le_n))))))) (FX12_cuts_j89L39_x  h0 hf hk)
    · rw [if_neg c11] at hf
      refine tq_iload_n rX12_cuts_59 rfl ?_
      refine tq_if_eq rX12_cuts_60 (fun c12 => ?_) (fun c12 => ?_)
      · rw [if_pos c12] at hf
        exact tq_forget _ (tq_le_s (tq_le_u (tq_le_s (tq_le_s (tq_le_s (tq_le_s (tq_le_s tq_le_n))))))) (FX12_cuts_j76L39_x  h0 hf hk)
      · rw [if_neg c12] at hf
        refine tq_aload_n rX12_cuts_63 rfl ?_
        refine tq_iconst (0 : Int32) rX12_cuts_64 (by decide) ?_
        refine tq_iload rX12_cuts_65 rfl ?_
        obtain ⟨p14, e14, hf⟩ := Option.bind_eq_some_iff.mp hf
        refine ty_callVI p14.1 ([.int (0 : Int32), .int a6]) ([]) rX12_cuts_67 l_X12_301 moX12_taken mvX12_taken h0 rfl rfl (Nat.le_of_ble_eq_true rfl) ⟨rfl, rfl⟩ (CX12_taken h0 e14) ?_
        refine tq_if_le rX12_cuts_70 (fun c15 => ?_) (fun c15 => ?_)
        · rw [if_pos c15] at hf
          exact tq_forget _ (tq_le_s (tq_le_u (tq_le_s (tq_le_s (tq_le_s (tq_le_s (tq_le_s tq_le_n))))))) (FX12_cuts_j76L39_x  h0 hf hk)
        · rw [if_neg c15] at hf
          refine tq_goto rX12_cuts_73 ?_
          exact tq_forget _ (tq_le_s (tq_le_u (tq_le_s (tq_le_s (tq_le_s (tq_le_s (tq_le_s tq_le_n))))))) (FX12_cuts_j89L39_x  h0 hf hk)

set_option maxRecDepth 100000 in
set_option maxHeartbeats 4000000 in
theorem CX12_cuts {S : Nat × (Nat → Int32)} {d : Nat} {I : tq_PI} {L : tq_PL} {a0 : Nat} {a1 : Int32} {a2 : Int32} {a3 : Int32} {a4 : Int32} (h0 : tq_sh0 a0 = 12) {out : Int32 × tq_PI} (hf : FX12_cuts I L a0 a1 a2 a3 a4 = some out) : tq_K S mX12_cuts (d + 5) [.ref a0, .int a1, .int a2, .int a3, .int a4] I L (tq_one2 (some (.int out.1)) out.2 L) := by
  unfold FX12_cuts at hf
  refine tq_K_of (by decide) (Nat.le_of_ble_eq_true rfl) (ls := [.ref a0, .int a1, .int a2, .int a3, .int a4, tq_u, tq_u]) rfl ?_
  refine tq_aload_n rX12_cuts_0 rfl ?_
  refine tq_iload_n rX12_cuts_1 rfl ?_
  obtain ⟨p1, e1, hf⟩ := Option.bind_eq_some_iff.mp hf
  refine ty_callVI (tq_b p1.1) ([.int a1]) ([]) rX12_cuts_2 l_X12_221 moX12_isHill mvX12_isHill h0 rfl rfl (Nat.le_of_ble_eq_true rfl) ⟨rfl, rfl⟩ (CX12_isHill h0 e1) ?_
  refine tq_if_eq rX12_cuts_5 (fun c2 => ?_) (fun c2 => ?_)
  · rw [if_pos c2] at hf
    exact tq_forget _ (tq_le_u (tq_le_u (tq_le_u (tq_le_u (tq_le_u (tq_le_u (tq_le_u tq_le_n))))))) (FX12_cuts_j21_x   hf ⟨rfl, rfl, rfl⟩)
  · rw [if_neg c2] at hf
    refine tq_iload_n rX12_cuts_8 rfl ?_
    obtain ⟨p3, e3, hf⟩ := tq_let_elim hf
    refine ty_callSI (tq_b p3) ([.int a2]) ([]) rX12_cuts_9 l_X12_227 moX12_isSide msX12_isSide rfl rfl (Nat.le_of_ble_eq_true rfl) ⟨rfl, rfl⟩ (CX12_isSide  e3) ?_
    refine tq_if_eq rX12_cuts_12 (fun c4 => ?_) (fun c4 => ?_)
    · rw [if_pos c4] at hf
      exact tq_forget _ (tq_le_u (tq_le_u (tq_le_u (tq_le_u (tq_le_u (tq_le_u (tq_le_u tq_le_n))))))) (FX12_cuts_j21_x   hf ⟨rfl, rfl, rfl⟩)
    · rw [if_neg c4] at hf
      refine tq_iload rX12_cuts_15 rfl ?_
      refine tq_iconst (-1 : Int32) rX12_cuts_17 (by decide) ?_
      refine tq_icmp_ge rX12_cuts_18 (fun c5 => ?_) (fun c5 => ?_)
      · rw [if_pos c5] at hf
        refine tq_aload_n rX12_cuts_23 rfl ?_
        obtain ⟨p6, e6, hf⟩ := Option.bind_eq_some_iff.mp hf
        refine ty_callVV ([]) ([]) rX12_cuts_24 l_X12_224 moX12_asTold mvX12_asTold h0 rfl rfl (Nat.le_of_ble_eq_true rfl) ⟨rfl, rfl⟩ (CX12_asTold h0 e6) ?_
        refine tq_aload_n rX12_cuts_27 rfl ?_
        refine tq_iconst (0 : Int32) rX12_cuts_28 (by decide) ?_
        refine tq_iload_n rX12_cuts_29 rfl ?_
        obtain ⟨p7, e7, hf⟩ := Option.bind_eq_some_iff.mp hf
        refine ty_callVV ([.int (0 : Int32), .int a2]) ([]) rX12_cuts_30 l_X12_274 moX12_reaches mvX12_reaches h0 rfl rfl (Nat.le_of_ble_eq_true rfl) ⟨rfl, rfl⟩ (CX12_reaches h0 e7) ?_
        refine tq_iconst (0 : Int32) rX12_cuts_33 (by decide) ?_
        refine tq_istore ([.ref a0, .int a1, .int a2, .int a3, .int a4, .int (0 : Int32), tq_u]) rX12_cuts_34 (Nat.le_of_ble_eq_true rfl) rfl ?_
        refine tq_iconst (0 : Int32) rX12_cuts_36 (by decide) ?_
        refine tq_istore ([.ref a0, .int a1, .int a2, .int a3, .int a4, .int (0 : Int32), .int (0 : Int32)]) rX12_cuts_37 (Nat.le_of_ble_eq_true rfl) rfl ?_
        obtain ⟨p16, e16, hf⟩ := Option.bind_eq_some_iff.mp hf
        refine tq_forget _ (tq_le_s (tq_le_u (tq_le_s (tq_le_s (tq_le_s (tq_le_s (tq_le_s tq_le_n))))))) ?_
        refine tq_it_elim (P := fun p : Int32 × Int32 × tq_PI => tq_X S mX12_cuts (d + 5) tq_k0 39 ([.ref a0, tq_u, .int a2, .int a3, .int a4, .int p.1, .int p.2.1]) [] (tq_st p.2.2 L) (tq_Q (tq_one2 (some (.int out.1)) out.2 L))) (R := Sum.elim (fun p : Int32 × tq_PI => tq_X S mX12_cuts (d + 5) tq_k0 95 ([tq_u, tq_u, tq_u, tq_u, .int a4, .int p.1, tq_u]) [] (tq_st p.2 L) (tq_Q (tq_one2 (some (.int out.1)) out.2 L))) (fun p : Int32 × tq_PI => (tq_one2 (some (.int out.1)) out.2 L) (some (.int p.1)) p.2 L)) (fun p o hp hk => FX12_cuts_s39_x  h0 hp hk) _ (((0 : Int32), (0 : Int32), p7)) _ e16 ?_
        rcases tq_selim hf with ⟨t17, t17q, hf⟩ | ⟨t17, t17q, hf⟩
        · rw [t17q]
          show tq_X _ _ _ _ _ _ _ _ _
          refine tq_iload rX12_cuts_95 rfl ?_
          refine tq_iconst (-1 : Int32) rX12_cuts_97 (by decide) ?_
          refine tq_icmp_ne rX12_cuts_98 (fun c18 => ?_) (fun c18 => ?_)
          · rw [if_neg c18] at hf
            refine tq_iconst (-1 : Int32) rX12_cuts_106 (by decide) ?_
            refine ty_iret rX12_cuts_107 rfl rfl ?_
            have hf := Option.some.inj hf
            subst hf
            exact ⟨rfl, rfl, rfl⟩
          · rw [if_pos c18] at hf
            refine tq_iload rX12_cuts_101 rfl ?_
            refine tq_goto rX12_cuts_103 ?_
            refine ty_iret rX12_cuts_107 rfl rfl ?_
            have hf := Option.some.inj hf
            subst hf
            exact ⟨rfl, rfl, rfl⟩
        · rw [t17q]
          have hf := Option.some.inj hf
          subst hf
          exact ⟨rfl, rfl, rfl⟩
      · rw [if_neg c5] at hf
        exact tq_forget _ (tq_le_u (tq_le_u (tq_le_u (tq_le_u (tq_le_u (tq_le_u (tq_le_u tq_le_n))))))) (FX12_cuts_j21_x   hf ⟨rfl, rfl, rfl⟩)

abbrev mX12_weakest : tq_M := (yX12_weakest, cX12_weakest, 5, (Option.some Jvm.ClassFile.FieldType.int), 0, 0)
theorem rX12_weakest_0 : tq_D cX12_weakest 0 (.iconst (-1)) 1 1 := ⟨by decide +kernel, rfl⟩
theorem rX12_weakest_1 : tq_D cX12_weakest 1 (.istore_n 1) 1 2 := ⟨by decide +kernel, rfl⟩
theorem rX12_weakest_2 : tq_D cX12_weakest 2 (.iconst (-1)) 1 3 := ⟨by decide +kernel, rfl⟩
theorem rX12_weakest_3 : tq_D cX12_weakest 3 (.istore_n 2) 1 4 := ⟨by decide +kernel, rfl⟩
theorem rX12_weakest_4 : tq_D cX12_weakest 4 (.iconst 0) 1 5 := ⟨by decide +kernel, rfl⟩
theorem rX12_weakest_5 : tq_D cX12_weakest 5 (.istore_n 3) 1 6 := ⟨by decide +kernel, rfl⟩
theorem rX12_weakest_6 : tq_D cX12_weakest 6 (.iload_n 3) 1 7 := ⟨by decide +kernel, rfl⟩
theorem rX12_weakest_7 : tq_D cX12_weakest 7 (.aload_n 0) 1 8 := ⟨by decide +kernel, rfl⟩
theorem rX12_weakest_8 : tq_D cX12_weakest 8 (.invokevirtual 190) 3 11 := ⟨by decide +kernel, rfl⟩
theorem rX12_weakest_11 : tq_J cX12_weakest 11 (.if_icmp .ge) 58 14 := ⟨47, by decide +kernel, by decide, rfl⟩
theorem rX12_weakest_14 : tq_D cX12_weakest 14 (.aload_n 0) 1 15 := ⟨by decide +kernel, rfl⟩
theorem rX12_weakest_15 : tq_D cX12_weakest 15 (.iconst 0) 1 16 := ⟨by decide +kernel, rfl⟩
theorem rX12_weakest_16 : tq_D cX12_weakest 16 (.iload_n 3) 1 17 := ⟨by decide +kernel, rfl⟩
theorem rX12_weakest_17 : tq_D cX12_weakest 17 (.invokevirtual 193) 3 20 := ⟨by decide +kernel, rfl⟩
theorem rX12_weakest_20 : tq_D cX12_weakest 20 (.invokestatic 208) 3 23 := ⟨by decide +kernel, rfl⟩
theorem rX12_weakest_23 : tq_J cX12_weakest 23 (.ifCond .eq) 35 26 := ⟨12, by decide +kernel, by decide, rfl⟩
theorem rX12_weakest_26 : tq_D cX12_weakest 26 (.aload_n 0) 1 27 := ⟨by decide +kernel, rfl⟩
theorem rX12_weakest_27 : tq_D cX12_weakest 27 (.iconst 0) 1 28 := ⟨by decide +kernel, rfl⟩
theorem rX12_weakest_28 : tq_D cX12_weakest 28 (.iload_n 3) 1 29 := ⟨by decide +kernel, rfl⟩
theorem rX12_weakest_29 : tq_D cX12_weakest 29 (.invokevirtual 301) 3 32 := ⟨by decide +kernel, rfl⟩
theorem rX12_weakest_32 : tq_J cX12_weakest 32 .goto 36 35 := ⟨4, by decide +kernel, by decide, rfl⟩
theorem rX12_weakest_35 : tq_D cX12_weakest 35 (.iconst (-1)) 1 36 := ⟨by decide +kernel, rfl⟩
theorem rX12_weakest_36 : tq_D cX12_weakest 36 (.istore 4) 2 38 := ⟨by decide +kernel, rfl⟩
theorem rX12_weakest_38 : tq_D cX12_weakest 38 (.iload 4) 2 40 := ⟨by decide +kernel, rfl⟩
theorem rX12_weakest_40 : tq_D cX12_weakest 40 (.iload_n 2) 1 41 := ⟨by decide +kernel, rfl⟩
theorem rX12_weakest_41 : tq_J cX12_weakest 41 (.if_icmp .gt) 47 44 := ⟨6, by decide +kernel, by decide, rfl⟩
theorem rX12_weakest_44 : tq_J cX12_weakest 44 .goto 52 47 := ⟨8, by decide +kernel, by decide, rfl⟩
theorem rX12_weakest_47 : tq_D cX12_weakest 47 (.iload_n 3) 1 48 := ⟨by decide +kernel, rfl⟩
theorem rX12_weakest_48 : tq_D cX12_weakest 48 (.istore_n 1) 1 49 := ⟨by decide +kernel, rfl⟩
theorem rX12_weakest_49 : tq_D cX12_weakest 49 (.iload 4) 2 51 := ⟨by decide +kernel, rfl⟩
theorem rX12_weakest_51 : tq_D cX12_weakest 51 (.istore_n 2) 1 52 := ⟨by decide +kernel, rfl⟩
theorem rX12_weakest_52 : tq_D cX12_weakest 52 (.iinc 3 1) 3 55 := ⟨by decide +kernel, rfl⟩
theorem rX12_weakest_55 : tq_J cX12_weakest 55 .goto 6 58 := ⟨(-49), by decide +kernel, by decide, rfl⟩
theorem rX12_weakest_58 : tq_D cX12_weakest 58 (.iload_n 1) 1 59 := ⟨by decide +kernel, rfl⟩
theorem rX12_weakest_59 : decode cX12_weakest 59 = .ok (.ireturn, 1) := by decide +kernel
noncomputable def FX12_weakest_j52L6 (I : tq_PI) (L : tq_PL) (a0 : Nat) (a1 : Int32) (a2 : Int32) (a3 : Int32) : Option ((Int32 × Int32 × Int32 × tq_PI) ⊕ (Int32 × tq_PI)) :=
  some (.inl (a1, a2, (a3 + 1), I))
noncomputable def FX12_weakest_j36L6 (I : tq_PI) (L : tq_PL) (a0 : Nat) (a1 : Int32) (a2 : Int32) (a3 : Int32) (b0 : Int32) : Option ((Int32 × Int32 × Int32 × tq_PI) ⊕ (Int32 × tq_PI)) :=
  (if a2 < b0 then (FX12_weakest_j52L6 I L a0 a3 b0 a3) else (FX12_weakest_j52L6 I L a0 a1 a2 a3))
noncomputable def FX12_weakest_s6 (I : tq_PI) (L : tq_PL) (a0 : Nat) (a1 : Int32) (a2 : Int32) (a3 : Int32) : Option ((Int32 × Int32 × Int32 × tq_PI) ⊕ (Int32 × tq_PI)) :=
  (tq_let (FX12_many I L a0) fun p1 => (if p1 ≤ a3 then some (.inr (a1, I)) else ((FX12_kindOf I L a0 ((0 : Int32)) a3).bind fun p3 => (tq_let (FX12_isStone I L p3) fun p4 => (if (tq_b p4) = 0 then (FX12_weakest_j36L6 I L a0 a1 a2 a3 ((-1 : Int32))) else ((FX12_taken I L a0 ((0 : Int32)) a3).bind fun p7 => (FX12_weakest_j36L6 p7.2 L a0 a1 a2 a3 p7.1)))))))
noncomputable def FX12_weakest (I : tq_PI) (L : tq_PL) (a0 : Nat) : Option (Int32 × tq_PI) :=
  ((tq_it (fun p : Int32 × Int32 × Int32 × tq_PI => FX12_weakest_s6 p.2.2.2 L a0 p.1 p.2.1 p.2.2.1) tq_N ((-1 : Int32), (-1 : Int32), (0 : Int32), I)).bind fun p8 => some (p8.1, p8.2))
set_option maxRecDepth 100000 in
set_option maxHeartbeats 4000000 in
theorem FX12_weakest_j52L6_x {S : Nat × (Nat → Int32)} {d : Nat} {I : tq_PI} {L : tq_PL} {a0 : Nat} {a1 : Int32} {a2 : Int32} {a3 : Int32} (h0 : tq_sh0 a0 = 12) {q0 : Option Value → tq_PI → tq_PL → Prop} {out : (Int32 × Int32 × Int32 × tq_PI) ⊕ (Int32 × tq_PI)} (hf : FX12_weakest_j52L6 I L a0 a1 a2 a3 = some out) (hk : Sum.elim (fun p : Int32 × Int32 × Int32 × tq_PI => tq_X S mX12_weakest (d + 5) tq_k0 6 ([.ref a0, .int p.1, .int p.2.1, .int p.2.2.1, tq_u]) [] (tq_st p.2.2.2 L) (tq_Q q0)) (fun p : Int32 × tq_PI => tq_X S mX12_weakest (d + 5) tq_k0 58 ([tq_u, .int p.1, tq_u, tq_u, tq_u]) [] (tq_st p.2 L) (tq_Q q0)) out) : tq_X S mX12_weakest (d + 5) tq_k0 52 ([.ref a0, .int a1, .int a2, .int a3, tq_u]) ([]) (tq_st I L) (tq_Q q0) := by
  unfold FX12_weakest_j52L6 at hf
  refine tq_iinc (a3 + 1) ([.ref a0, .int a1, .int a2, .int (a3 + 1), tq_u]) rX12_weakest_52 rfl (tq_inc (by decide)) (Nat.le_of_ble_eq_true rfl) rfl ?_
  refine tq_goto rX12_weakest_55 ?_
  have hf := Option.some.inj hf
  subst hf
  exact tq_forget _ (tq_le_s (tq_le_s (tq_le_s (tq_le_s (tq_le_u tq_le_n))))) hk

set_option maxRecDepth 100000 in
set_option maxHeartbeats 4000000 in
theorem FX12_weakest_j36L6_x {S : Nat × (Nat → Int32)} {d : Nat} {I : tq_PI} {L : tq_PL} {a0 : Nat} {a1 : Int32} {a2 : Int32} {a3 : Int32} {b0 : Int32} (h0 : tq_sh0 a0 = 12) {q0 : Option Value → tq_PI → tq_PL → Prop} {out : (Int32 × Int32 × Int32 × tq_PI) ⊕ (Int32 × tq_PI)} (hf : FX12_weakest_j36L6 I L a0 a1 a2 a3 b0 = some out) (hk : Sum.elim (fun p : Int32 × Int32 × Int32 × tq_PI => tq_X S mX12_weakest (d + 5) tq_k0 6 ([.ref a0, .int p.1, .int p.2.1, .int p.2.2.1, tq_u]) [] (tq_st p.2.2.2 L) (tq_Q q0)) (fun p : Int32 × tq_PI => tq_X S mX12_weakest (d + 5) tq_k0 58 ([tq_u, .int p.1, tq_u, tq_u, tq_u]) [] (tq_st p.2 L) (tq_Q q0)) out) : tq_X S mX12_weakest (d + 5) tq_k0 36 ([.ref a0, .int a1, .int a2, .int a3, tq_u]) ([.int b0]) (tq_st I L) (tq_Q q0) := by
  unfold FX12_weakest_j36L6 at hf
  refine tq_istore ([.ref a0, .int a1, .int a2, .int a3, .int b0]) rX12_weakest_36 (Nat.le_of_ble_eq_true rfl) rfl ?_
  refine tq_iload rX12_weakest_38 rfl ?_
  refine tq_iload_n rX12_weakest_40 rfl ?_
  refine tq_icmp_gt rX12_weakest_41 (fun c6 => ?_) (fun c6 => ?_)
  · rw [if_pos c6] at hf
    refine tq_iload_n rX12_weakest_47 rfl ?_
    refine tq_istore_n ([.ref a0, .int a3, .int a2, .int a3, .int b0]) rX12_weakest_48 (Nat.le_of_ble_eq_true rfl) rfl ?_
    refine tq_iload rX12_weakest_49 rfl ?_
    refine tq_istore_n ([.ref a0, .int a3, .int b0, .int a3, .int b0]) rX12_weakest_51 (Nat.le_of_ble_eq_true rfl) rfl ?_
    exact tq_forget _ (tq_le_s (tq_le_s (tq_le_s (tq_le_s (tq_le_u tq_le_n))))) (FX12_weakest_j52L6_x  h0 hf hk)
  · rw [if_neg c6] at hf
    refine tq_goto rX12_weakest_44 ?_
    exact tq_forget _ (tq_le_s (tq_le_s (tq_le_s (tq_le_s (tq_le_u tq_le_n))))) (FX12_weakest_j52L6_x  h0 hf hk)

set_option maxRecDepth 100000 in
set_option maxHeartbeats 4000000 in
theorem FX12_weakest_s6_x {S : Nat × (Nat → Int32)} {d : Nat} {I : tq_PI} {L : tq_PL} {a0 : Nat} {a1 : Int32} {a2 : Int32} {a3 : Int32} (h0 : tq_sh0 a0 = 12) {q0 : Option Value → tq_PI → tq_PL → Prop} {out : (Int32 × Int32 × Int32 × tq_PI) ⊕ (Int32 × tq_PI)} (hf : FX12_weakest_s6 I L a0 a1 a2 a3 = some out) (hk : Sum.elim (fun p : Int32 × Int32 × Int32 × tq_PI => tq_X S mX12_weakest (d + 5) tq_k0 6 ([.ref a0, .int p.1, .int p.2.1, .int p.2.2.1, tq_u]) [] (tq_st p.2.2.2 L) (tq_Q q0)) (fun p : Int32 × tq_PI => tq_X S mX12_weakest (d + 5) tq_k0 58 ([tq_u, .int p.1, tq_u, tq_u, tq_u]) [] (tq_st p.2 L) (tq_Q q0)) out) : tq_X S mX12_weakest (d + 5) tq_k0 6 ([.ref a0, .int a1, .int a2, .int a3, tq_u]) [] (tq_st I L) (tq_Q q0) := by
  unfold FX12_weakest_s6 at hf
  refine tq_iload_n rX12_weakest_6 rfl ?_
  refine tq_aload_n rX12_weakest_7 rfl ?_
  obtain ⟨p1, e1, hf⟩ := tq_let_elim hf
  refine ty_callVI p1 ([]) ([.int a3]) rX12_weakest_8 l_X12_190 moX12_many mvX12_many h0 rfl rfl (Nat.le_of_ble_eq_true rfl) ⟨rfl, rfl⟩ (CX12_many h0 e1) ?_
  refine tq_icmp_ge rX12_weakest_11 (fun c2 => ?_) (fun c2 => ?_)
  · rw [if_pos c2] at hf
    have hf := Option.some.inj hf
    subst hf
    exact tq_forget _ (tq_le_u (tq_le_s (tq_le_u (tq_le_u (tq_le_u tq_le_n))))) hk
  · rw [if_neg c2] at hf
    refine tq_aload_n rX12_weakest_14 rfl ?_
    refine tq_iconst (0 : Int32) rX12_weakest_15 (by decide) ?_
    refine tq_iload_n rX12_weakest_16 rfl ?_
    obtain ⟨p3, e3, hf⟩ := Option.bind_eq_some_iff.mp hf
    refine ty_callVI p3 ([.int (0 : Int32), .int a3]) ([]) rX12_weakest_17 l_X12_193 moX12_kindOf mvX12_kindOf h0 rfl rfl (Nat.le_of_ble_eq_true rfl) ⟨rfl, rfl⟩ (CX12_kindOf h0 e3) ?_
    obtain ⟨p4, e4, hf⟩ := tq_let_elim hf
    refine ty_callSI (tq_b p4) ([.int p3]) ([]) rX12_weakest_20 l_X12_208 moX12_isStone msX12_isStone rfl rfl (Nat.le_of_ble_eq_true rfl) ⟨rfl, rfl⟩ (CX12_isStone  e4) ?_
    refine tq_if_eq rX12_weakest_23 (fun c5 => ?_) (fun c5 => ?_)
    · rw [if_pos c5] at hf
      refine tq_iconst (-1 : Int32) rX12_weakest_35 (by decide) ?_
      exact tq_forget _ (tq_le_s (tq_le_s (tq_le_s (tq_le_s (tq_le_u tq_le_n))))) (FX12_weakest_j36L6_x  h0 hf hk)
    · rw [if_neg c5] at hf
      refine tq_aload_n rX12_weakest_26 rfl ?_
      refine tq_iconst (0 : Int32) rX12_weakest_27 (by decide) ?_
      refine tq_iload_n rX12_weakest_28 rfl ?_
      obtain ⟨p7, e7, hf⟩ := Option.bind_eq_some_iff.mp hf
      refine ty_callVI p7.1 ([.int (0 : Int32), .int a3]) ([]) rX12_weakest_29 l_X12_301 moX12_taken mvX12_taken h0 rfl rfl (Nat.le_of_ble_eq_true rfl) ⟨rfl, rfl⟩ (CX12_taken h0 e7) ?_
      refine tq_goto rX12_weakest_32 ?_
      exact tq_forget _ (tq_le_s (tq_le_s (tq_le_s (tq_le_s (tq_le_u tq_le_n))))) (FX12_weakest_j36L6_x  h0 hf hk)

set_option maxRecDepth 100000 in
set_option maxHeartbeats 4000000 in
theorem CX12_weakest {S : Nat × (Nat → Int32)} {d : Nat} {I : tq_PI} {L : tq_PL} {a0 : Nat} (h0 : tq_sh0 a0 = 12) {out : Int32 × tq_PI} (hf : FX12_weakest I L a0 = some out) : tq_K S mX12_weakest (d + 5) [.ref a0] I L (tq_one2 (some (.int out.1)) out.2 L) := by
  unfold FX12_weakest at hf
  refine tq_K_of (by decide) (Nat.le_of_ble_eq_true rfl) (ls := [.ref a0, tq_u, tq_u, tq_u, tq_u]) rfl ?_
  refine tq_iconst (-1 : Int32) rX12_weakest_0 (by decide) ?_
  refine tq_istore_n ([.ref a0, .int (-1 : Int32), tq_u, tq_u, tq_u]) rX12_weakest_1 (Nat.le_of_ble_eq_true rfl) rfl ?_
  refine tq_iconst (-1 : Int32) rX12_weakest_2 (by decide) ?_
  refine tq_istore_n ([.ref a0, .int (-1 : Int32), .int (-1 : Int32), tq_u, tq_u]) rX12_weakest_3 (Nat.le_of_ble_eq_true rfl) rfl ?_
  refine tq_iconst (0 : Int32) rX12_weakest_4 (by decide) ?_
  refine tq_istore_n ([.ref a0, .int (-1 : Int32), .int (-1 : Int32), .int (0 : Int32), tq_u]) rX12_weakest_5 (Nat.le_of_ble_eq_true rfl) rfl ?_
  obtain ⟨p8, e8, hf⟩ := Option.bind_eq_some_iff.mp hf
  refine tq_forget _ (tq_le_s (tq_le_s (tq_le_s (tq_le_s (tq_le_u tq_le_n))))) ?_
  refine tq_it_elim (P := fun p : Int32 × Int32 × Int32 × tq_PI => tq_X S mX12_weakest (d + 5) tq_k0 6 ([.ref a0, .int p.1, .int p.2.1, .int p.2.2.1, tq_u]) [] (tq_st p.2.2.2 L) (tq_Q (tq_one2 (some (.int out.1)) out.2 L))) (R := fun p : Int32 × tq_PI => tq_X S mX12_weakest (d + 5) tq_k0 58 ([tq_u, .int p.1, tq_u, tq_u, tq_u]) [] (tq_st p.2 L) (tq_Q (tq_one2 (some (.int out.1)) out.2 L))) (fun p o hp hk => FX12_weakest_s6_x  h0 hp hk) _ (((-1 : Int32), (-1 : Int32), (0 : Int32), I)) _ e8 ?_
  show tq_X _ _ _ _ _ _ _ _ _
  refine tq_iload_n rX12_weakest_58 rfl ?_
  refine ty_iret rX12_weakest_59 rfl rfl ?_
  have hf := Option.some.inj hf
  subst hf
  exact ⟨rfl, rfl, rfl⟩

abbrev mX12_fell : tq_M := (yX12_fell, cX12_fell, 4, (Option.some Jvm.ClassFile.FieldType.int), 0, 0)
theorem moX12_weakest : tq_mok mX12_weakest 0 := ⟨tq_sg1 _ (List.mem_of_getElem? (i := 13) rfl), tq_sg8 _ (List.mem_of_getElem? (i := 2) rfl), ⟨by decide, by decide, by decide +kernel⟩, by decide⟩
theorem mvX12_weakest : 12 < 13 ∧ (tq_cl 12).1 = mX12_weakest.1.cls ∧ Cond.instanceMethod mX12_weakest.1 ∈ lw_tbl ∧ Cond.selects mX12_weakest.1.cls mX12_weakest.1 mX12_weakest.1 ∈ lw_tbl := ⟨by decide, rfl, tq_sg8 _ (List.mem_of_getElem? (i := 1) rfl), List.mem_append_left _ (List.mem_map.mpr ⟨_, List.mem_of_getElem? (i := 86) rfl, rfl⟩)⟩
theorem l_X12_304 : tq_lok RX12 304 mX12_weakest.1 := Or.inl (tq_sg7 _ (List.mem_of_getElem? (i := 239) rfl))
theorem rX12_fell_0 : tq_D cX12_fell 0 (.aload_n 0) 1 1 := ⟨by decide +kernel, rfl⟩
theorem rX12_fell_1 : tq_D cX12_fell 1 (.iload_n 1) 1 2 := ⟨by decide +kernel, rfl⟩
theorem rX12_fell_2 : tq_D cX12_fell 2 (.invokevirtual 221) 3 5 := ⟨by decide +kernel, rfl⟩
theorem rX12_fell_5 : tq_J cX12_fell 5 (.ifCond .eq) 14 8 := ⟨9, by decide +kernel, by decide, rfl⟩
theorem rX12_fell_8 : tq_D cX12_fell 8 (.iload_n 2) 1 9 := ⟨by decide +kernel, rfl⟩
theorem rX12_fell_9 : tq_D cX12_fell 9 (.bipush (-2)) 2 11 := ⟨by decide +kernel, rfl⟩
theorem rX12_fell_11 : tq_J cX12_fell 11 (.if_icmp .ge) 16 14 := ⟨5, by decide +kernel, by decide, rfl⟩
theorem rX12_fell_14 : tq_D cX12_fell 14 (.iconst (-1)) 1 15 := ⟨by decide +kernel, rfl⟩
theorem rX12_fell_15 : decode cX12_fell 15 = .ok (.ireturn, 1) := by decide +kernel
theorem rX12_fell_16 : tq_D cX12_fell 16 (.aload_n 0) 1 17 := ⟨by decide +kernel, rfl⟩
theorem rX12_fell_17 : tq_D cX12_fell 17 (.invokevirtual 224) 3 20 := ⟨by decide +kernel, rfl⟩
theorem rX12_fell_20 : tq_D cX12_fell 20 (.iload_n 2) 1 21 := ⟨by decide +kernel, rfl⟩
theorem rX12_fell_21 : tq_D cX12_fell 21 (.bipush (-2)) 2 23 := ⟨by decide +kernel, rfl⟩
theorem rX12_fell_23 : tq_J cX12_fell 23 (.if_icmp .ne) 31 26 := ⟨8, by decide +kernel, by decide, rfl⟩
theorem rX12_fell_26 : tq_D cX12_fell 26 (.aload_n 0) 1 27 := ⟨by decide +kernel, rfl⟩
theorem rX12_fell_27 : tq_D cX12_fell 27 (.invokevirtual 304) 3 30 := ⟨by decide +kernel, rfl⟩
theorem rX12_fell_30 : decode cX12_fell 30 = .ok (.ireturn, 1) := by decide +kernel
theorem rX12_fell_31 : tq_D cX12_fell 31 (.iload_n 2) 1 32 := ⟨by decide +kernel, rfl⟩
theorem rX12_fell_32 : tq_D cX12_fell 32 (.iconst (-1)) 1 33 := ⟨by decide +kernel, rfl⟩
theorem rX12_fell_33 : tq_J cX12_fell 33 (.if_icmp .ne) 43 36 := ⟨10, by decide +kernel, by decide, rfl⟩
theorem rX12_fell_36 : tq_D cX12_fell 36 (.aload_n 0) 1 37 := ⟨by decide +kernel, rfl⟩
theorem rX12_fell_37 : tq_D cX12_fell 37 (.invokevirtual 304) 3 40 := ⟨by decide +kernel, rfl⟩
theorem rX12_fell_40 : tq_J cX12_fell 40 .goto 44 43 := ⟨4, by decide +kernel, by decide, rfl⟩
theorem rX12_fell_43 : tq_D cX12_fell 43 (.iload_n 2) 1 44 := ⟨by decide +kernel, rfl⟩
theorem rX12_fell_44 : tq_D cX12_fell 44 (.istore_n 3) 1 45 := ⟨by decide +kernel, rfl⟩
theorem rX12_fell_45 : tq_D cX12_fell 45 (.aload_n 0) 1 46 := ⟨by decide +kernel, rfl⟩
theorem rX12_fell_46 : tq_D cX12_fell 46 (.iload_n 3) 1 47 := ⟨by decide +kernel, rfl⟩
theorem rX12_fell_47 : tq_D cX12_fell 47 (.invokevirtual 233) 3 50 := ⟨by decide +kernel, rfl⟩
theorem rX12_fell_50 : tq_J cX12_fell 50 (.ifCond .eq) 74 53 := ⟨24, by decide +kernel, by decide, rfl⟩
theorem rX12_fell_53 : tq_D cX12_fell 53 (.aload_n 0) 1 54 := ⟨by decide +kernel, rfl⟩
theorem rX12_fell_54 : tq_D cX12_fell 54 (.iconst 0) 1 55 := ⟨by decide +kernel, rfl⟩
theorem rX12_fell_55 : tq_D cX12_fell 55 (.iload_n 3) 1 56 := ⟨by decide +kernel, rfl⟩
theorem rX12_fell_56 : tq_D cX12_fell 56 (.invokevirtual 193) 3 59 := ⟨by decide +kernel, rfl⟩
theorem rX12_fell_59 : tq_D cX12_fell 59 (.invokestatic 208) 3 62 := ⟨by decide +kernel, rfl⟩
theorem rX12_fell_62 : tq_J cX12_fell 62 (.ifCond .eq) 74 65 := ⟨12, by decide +kernel, by decide, rfl⟩
theorem rX12_fell_65 : tq_D cX12_fell 65 (.aload_n 0) 1 66 := ⟨by decide +kernel, rfl⟩
theorem rX12_fell_66 : tq_D cX12_fell 66 (.iconst 0) 1 67 := ⟨by decide +kernel, rfl⟩
theorem rX12_fell_67 : tq_D cX12_fell 67 (.iload_n 3) 1 68 := ⟨by decide +kernel, rfl⟩
theorem rX12_fell_68 : tq_D cX12_fell 68 (.invokevirtual 301) 3 71 := ⟨by decide +kernel, rfl⟩
theorem rX12_fell_71 : tq_J cX12_fell 71 .goto 75 74 := ⟨4, by decide +kernel, by decide, rfl⟩
theorem rX12_fell_74 : tq_D cX12_fell 74 (.iconst (-1)) 1 75 := ⟨by decide +kernel, rfl⟩
theorem rX12_fell_75 : decode cX12_fell 75 = .ok (.ireturn, 1) := by decide +kernel
noncomputable def FX12_fell_j14 (I : tq_PI) (L : tq_PL)  : Option (Int32 × tq_PI) :=
  some ((-1 : Int32), I)
noncomputable def FX12_fell_j74 (I : tq_PI) (L : tq_PL)  : Option (Int32 × tq_PI) :=
  some ((-1 : Int32), I)
noncomputable def FX12_fell_j44 (I : tq_PI) (L : tq_PL) (a0 : Nat) (b0 : Int32) : Option (Int32 × tq_PI) :=
  (tq_let (FX12_isCell I L a0 b0) fun p7 => (if (tq_b p7) = 0 then (FX12_fell_j74 I L ) else ((FX12_kindOf I L a0 ((0 : Int32)) b0).bind fun p9 => (tq_let (FX12_isStone I L p9) fun p10 => (if (tq_b p10) = 0 then (FX12_fell_j74 I L ) else ((FX12_taken I L a0 ((0 : Int32)) b0).bind fun p12 => some (p12.1, p12.2)))))))
noncomputable def FX12_fell (I : tq_PI) (L : tq_PL) (a0 : Nat) (a1 : Int32) (a2 : Int32) : Option (Int32 × tq_PI) :=
  ((FX12_isHill I L a0 a1).bind fun p1 => (if (tq_b p1.1) = 0 then (FX12_fell_j14 p1.2 L ) else (if (-2 : Int32) ≤ a2 then ((FX12_asTold p1.2 L a0).bind fun p4 => (if a2 = (-2 : Int32) then ((FX12_weakest p4 L a0).bind fun p14 => some (p14.1, p14.2)) else (if a2 = (-1 : Int32) then ((FX12_weakest p4 L a0).bind fun p13 => (FX12_fell_j44 p13.2 L a0 p13.1)) else (FX12_fell_j44 p4 L a0 a2)))) else (FX12_fell_j14 p1.2 L ))))
set_option maxRecDepth 100000 in
set_option maxHeartbeats 4000000 in
theorem FX12_fell_j14_x {S : Nat × (Nat → Int32)} {d : Nat} {I : tq_PI} {L : tq_PL}   {q0 : Option Value → tq_PI → tq_PL → Prop} {out : Int32 × tq_PI} (hf : FX12_fell_j14 I L = some out) (hk : q0 (some (.int out.1)) out.2 L) : tq_X S mX12_fell (d + 6) tq_k0 14 ([tq_u, tq_u, tq_u, tq_u]) ([]) (tq_st I L) (tq_Q q0) := by
  unfold FX12_fell_j14 at hf
  refine tq_iconst (-1 : Int32) rX12_fell_14 (by decide) ?_
  refine ty_iret rX12_fell_15 rfl rfl ?_
  have hf := Option.some.inj hf
  subst hf
  exact hk

set_option maxRecDepth 100000 in
set_option maxHeartbeats 4000000 in
theorem FX12_fell_j74_x {S : Nat × (Nat → Int32)} {d : Nat} {I : tq_PI} {L : tq_PL}   {q0 : Option Value → tq_PI → tq_PL → Prop} {out : Int32 × tq_PI} (hf : FX12_fell_j74 I L = some out) (hk : q0 (some (.int out.1)) out.2 L) : tq_X S mX12_fell (d + 6) tq_k0 74 ([tq_u, tq_u, tq_u, tq_u]) ([]) (tq_st I L) (tq_Q q0) := by
  unfold FX12_fell_j74 at hf
  refine tq_iconst (-1 : Int32) rX12_fell_74 (by decide) ?_
  refine ty_iret rX12_fell_75 rfl rfl ?_
  have hf := Option.some.inj hf
  subst hf
  exact hk

set_option maxRecDepth 100000 in
set_option maxHeartbeats 4000000 in
theorem FX12_fell_j44_x {S : Nat × (Nat → Int32)} {d : Nat} {I : tq_PI} {L : tq_PL} {a0 : Nat} {b0 : Int32} (h0 : tq_sh0 a0 = 12) {q0 : Option Value → tq_PI → tq_PL → Prop} {out : Int32 × tq_PI} (hf : FX12_fell_j44 I L a0 b0 = some out) (hk : q0 (some (.int out.1)) out.2 L) : tq_X S mX12_fell (d + 6) tq_k0 44 ([.ref a0, tq_u, tq_u, tq_u]) ([.int b0]) (tq_st I L) (tq_Q q0) := by
  unfold FX12_fell_j44 at hf
  refine tq_istore_n ([.ref a0, tq_u, tq_u, .int b0]) rX12_fell_44 (Nat.le_of_ble_eq_true rfl) rfl ?_
  refine tq_aload_n rX12_fell_45 rfl ?_
  refine tq_iload_n rX12_fell_46 rfl ?_
  obtain ⟨p7, e7, hf⟩ := tq_let_elim hf
  refine ty_callVI (tq_b p7) ([.int b0]) ([]) rX12_fell_47 l_X12_233 moX12_isCell mvX12_isCell h0 rfl rfl (Nat.le_of_ble_eq_true rfl) ⟨rfl, rfl⟩ (CX12_isCell h0 e7) ?_
  refine tq_if_eq rX12_fell_50 (fun c8 => ?_) (fun c8 => ?_)
  · rw [if_pos c8] at hf
    exact tq_forget _ (tq_le_u (tq_le_u (tq_le_u (tq_le_u tq_le_n)))) (FX12_fell_j74_x   hf hk)
  · rw [if_neg c8] at hf
    refine tq_aload_n rX12_fell_53 rfl ?_
    refine tq_iconst (0 : Int32) rX12_fell_54 (by decide) ?_
    refine tq_iload_n rX12_fell_55 rfl ?_
    obtain ⟨p9, e9, hf⟩ := Option.bind_eq_some_iff.mp hf
    refine ty_callVI p9 ([.int (0 : Int32), .int b0]) ([]) rX12_fell_56 l_X12_193 moX12_kindOf mvX12_kindOf h0 rfl rfl (Nat.le_of_ble_eq_true rfl) ⟨rfl, rfl⟩ (CX12_kindOf h0 e9) ?_
    obtain ⟨p10, e10, hf⟩ := tq_let_elim hf
    refine ty_callSI (tq_b p10) ([.int p9]) ([]) rX12_fell_59 l_X12_208 moX12_isStone msX12_isStone rfl rfl (Nat.le_of_ble_eq_true rfl) ⟨rfl, rfl⟩ (CX12_isStone  e10) ?_
    refine tq_if_eq rX12_fell_62 (fun c11 => ?_) (fun c11 => ?_)
    · rw [if_pos c11] at hf
      exact tq_forget _ (tq_le_u (tq_le_u (tq_le_u (tq_le_u tq_le_n)))) (FX12_fell_j74_x   hf hk)
    · rw [if_neg c11] at hf
      refine tq_aload_n rX12_fell_65 rfl ?_
      refine tq_iconst (0 : Int32) rX12_fell_66 (by decide) ?_
      refine tq_iload_n rX12_fell_67 rfl ?_
      obtain ⟨p12, e12, hf⟩ := Option.bind_eq_some_iff.mp hf
      refine ty_callVI p12.1 ([.int (0 : Int32), .int b0]) ([]) rX12_fell_68 l_X12_301 moX12_taken mvX12_taken h0 rfl rfl (Nat.le_of_ble_eq_true rfl) ⟨rfl, rfl⟩ (CX12_taken h0 e12) ?_
      refine tq_goto rX12_fell_71 ?_
      refine ty_iret rX12_fell_75 rfl rfl ?_
      have hf := Option.some.inj hf
      subst hf
      exact hk

set_option maxRecDepth 100000 in
set_option maxHeartbeats 4000000 in
theorem CX12_fell {S : Nat × (Nat → Int32)} {d : Nat} {I : tq_PI} {L : tq_PL} {a0 : Nat} {a1 : Int32} {a2 : Int32} (h0 : tq_sh0 a0 = 12) {out : Int32 × tq_PI} (hf : FX12_fell I L a0 a1 a2 = some out) : tq_K S mX12_fell (d + 6) [.ref a0, .int a1, .int a2] I L (tq_one2 (some (.int out.1)) out.2 L) := by
  unfold FX12_fell at hf
  refine tq_K_of (by decide) (Nat.le_of_ble_eq_true rfl) (ls := [.ref a0, .int a1, .int a2, tq_u]) rfl ?_
  refine tq_aload_n rX12_fell_0 rfl ?_
  refine tq_iload_n rX12_fell_1 rfl ?_
  obtain ⟨p1, e1, hf⟩ := Option.bind_eq_some_iff.mp hf
  refine ty_callVI (tq_b p1.1) ([.int a1]) ([]) rX12_fell_2 l_X12_221 moX12_isHill mvX12_isHill h0 rfl rfl (Nat.le_of_ble_eq_true rfl) ⟨rfl, rfl⟩ (CX12_isHill h0 e1) ?_
  refine tq_if_eq rX12_fell_5 (fun c2 => ?_) (fun c2 => ?_)
  · rw [if_pos c2] at hf
    exact tq_forget _ (tq_le_u (tq_le_u (tq_le_u (tq_le_u tq_le_n)))) (FX12_fell_j14_x   hf ⟨rfl, rfl, rfl⟩)
  · rw [if_neg c2] at hf
    refine tq_iload_n rX12_fell_8 rfl ?_
    refine tq_bipush (-2 : Int32) rX12_fell_9 (by decide) ?_
    refine tq_icmp_ge rX12_fell_11 (fun c3 => ?_) (fun c3 => ?_)
    · rw [if_pos c3] at hf
      refine tq_aload_n rX12_fell_16 rfl ?_
      obtain ⟨p4, e4, hf⟩ := Option.bind_eq_some_iff.mp hf
      refine ty_callVV ([]) ([]) rX12_fell_17 l_X12_224 moX12_asTold mvX12_asTold h0 rfl rfl (Nat.le_of_ble_eq_true rfl) ⟨rfl, rfl⟩ (CX12_asTold h0 e4) ?_
      refine tq_iload_n rX12_fell_20 rfl ?_
      refine tq_bipush (-2 : Int32) rX12_fell_21 (by decide) ?_
      refine tq_icmp_ne rX12_fell_23 (fun c5 => ?_) (fun c5 => ?_)
      · rw [if_neg c5] at hf
        refine tq_iload_n rX12_fell_31 rfl ?_
        refine tq_iconst (-1 : Int32) rX12_fell_32 (by decide) ?_
        refine tq_icmp_ne rX12_fell_33 (fun c6 => ?_) (fun c6 => ?_)
        · rw [if_neg c6] at hf
          refine tq_iload_n rX12_fell_43 rfl ?_
          exact tq_forget _ (tq_le_s (tq_le_u (tq_le_u (tq_le_u tq_le_n)))) (FX12_fell_j44_x  h0 hf ⟨rfl, rfl, rfl⟩)
        · rw [if_pos c6] at hf
          refine tq_aload_n rX12_fell_36 rfl ?_
          obtain ⟨p13, e13, hf⟩ := Option.bind_eq_some_iff.mp hf
          refine ty_callVI p13.1 ([]) ([]) rX12_fell_37 l_X12_304 moX12_weakest mvX12_weakest h0 rfl rfl (Nat.le_of_ble_eq_true rfl) ⟨rfl, rfl⟩ (CX12_weakest h0 e13) ?_
          refine tq_goto rX12_fell_40 ?_
          exact tq_forget _ (tq_le_s (tq_le_u (tq_le_u (tq_le_u tq_le_n)))) (FX12_fell_j44_x  h0 hf ⟨rfl, rfl, rfl⟩)
      · rw [if_pos c5] at hf
        refine tq_aload_n rX12_fell_26 rfl ?_
        obtain ⟨p14, e14, hf⟩ := Option.bind_eq_some_iff.mp hf
        refine ty_callVI p14.1 ([]) ([]) rX12_fell_27 l_X12_304 moX12_weakest mvX12_weakest h0 rfl rfl (Nat.le_of_ble_eq_true rfl) ⟨rfl, rfl⟩ (CX12_weakest h0 e14) ?_
        refine ty_iret rX12_fell_30 rfl rfl ?_
        have hf := Option.some.inj hf
        subst hf
        exact ⟨rfl, rfl, rfl⟩
    · rw [if_neg c3] at hf
      exact tq_forget _ (tq_le_u (tq_le_u (tq_le_u (tq_le_u tq_le_n)))) (FX12_fell_j14_x   hf ⟨rfl, rfl, rfl⟩)

abbrev mX12_pillars : tq_M := (yX12_pillars, cX12_pillars, 5, (Option.some Jvm.ClassFile.FieldType.int), 0, 0)
theorem rX12_pillars_0 : tq_D cX12_pillars 0 (.aload_n 0) 1 1 := ⟨by decide +kernel, rfl⟩
theorem rX12_pillars_1 : tq_D cX12_pillars 1 (.iload_n 1) 1 2 := ⟨by decide +kernel, rfl⟩
theorem rX12_pillars_2 : tq_D cX12_pillars 2 (.invokevirtual 221) 3 5 := ⟨by decide +kernel, rfl⟩
theorem rX12_pillars_5 : tq_J cX12_pillars 5 (.ifCond .eq) 18 8 := ⟨13, by decide +kernel, by decide, rfl⟩
theorem rX12_pillars_8 : tq_D cX12_pillars 8 (.iload_n 2) 1 9 := ⟨by decide +kernel, rfl⟩
theorem rX12_pillars_9 : tq_D cX12_pillars 9 (.iconst 0) 1 10 := ⟨by decide +kernel, rfl⟩
theorem rX12_pillars_10 : tq_D cX12_pillars 10 (.bipush 48) 2 12 := ⟨by decide +kernel, rfl⟩
theorem rX12_pillars_12 : tq_D cX12_pillars 12 (.invokestatic 118) 3 15 := ⟨by decide +kernel, rfl⟩
theorem rX12_pillars_15 : tq_J cX12_pillars 15 (.ifCond .ne) 20 18 := ⟨5, by decide +kernel, by decide, rfl⟩
theorem rX12_pillars_18 : tq_D cX12_pillars 18 (.iconst (-1)) 1 19 := ⟨by decide +kernel, rfl⟩
theorem rX12_pillars_19 : decode cX12_pillars 19 = .ok (.ireturn, 1) := by decide +kernel
theorem rX12_pillars_20 : tq_D cX12_pillars 20 (.aload_n 0) 1 21 := ⟨by decide +kernel, rfl⟩
theorem rX12_pillars_21 : tq_D cX12_pillars 21 (.invokevirtual 224) 3 24 := ⟨by decide +kernel, rfl⟩
theorem rX12_pillars_24 : tq_D cX12_pillars 24 (.iconst 0) 1 25 := ⟨by decide +kernel, rfl⟩
theorem rX12_pillars_25 : tq_D cX12_pillars 25 (.istore_n 3) 1 26 := ⟨by decide +kernel, rfl⟩
theorem rX12_pillars_26 : tq_D cX12_pillars 26 (.iconst 0) 1 27 := ⟨by decide +kernel, rfl⟩
theorem rX12_pillars_27 : tq_D cX12_pillars 27 (.istore 4) 2 29 := ⟨by decide +kernel, rfl⟩
theorem rX12_pillars_29 : tq_D cX12_pillars 29 (.iload 4) 2 31 := ⟨by decide +kernel, rfl⟩
theorem rX12_pillars_31 : tq_D cX12_pillars 31 (.aload_n 0) 1 32 := ⟨by decide +kernel, rfl⟩
theorem rX12_pillars_32 : tq_D cX12_pillars 32 (.invokevirtual 190) 3 35 := ⟨by decide +kernel, rfl⟩
theorem rX12_pillars_35 : tq_J cX12_pillars 35 (.if_icmp .ge) 76 38 := ⟨41, by decide +kernel, by decide, rfl⟩
theorem rX12_pillars_38 : tq_D cX12_pillars 38 (.iload_n 3) 1 39 := ⟨by decide +kernel, rfl⟩
theorem rX12_pillars_39 : tq_D cX12_pillars 39 (.aload_n 0) 1 40 := ⟨by decide +kernel, rfl⟩
theorem rX12_pillars_40 : tq_D cX12_pillars 40 (.iconst 0) 1 41 := ⟨by decide +kernel, rfl⟩
theorem rX12_pillars_41 : tq_D cX12_pillars 41 (.iload 4) 2 43 := ⟨by decide +kernel, rfl⟩
theorem rX12_pillars_43 : tq_D cX12_pillars 43 (.invokevirtual 193) 3 46 := ⟨by decide +kernel, rfl⟩
theorem rX12_pillars_46 : tq_D cX12_pillars 46 (.invokestatic 208) 3 49 := ⟨by decide +kernel, rfl⟩
theorem rX12_pillars_49 : tq_J cX12_pillars 49 (.ifCond .eq) 67 52 := ⟨18, by decide +kernel, by decide, rfl⟩
theorem rX12_pillars_52 : tq_D cX12_pillars 52 (.aload_n 0) 1 53 := ⟨by decide +kernel, rfl⟩
theorem rX12_pillars_53 : tq_D cX12_pillars 53 (.iconst 0) 1 54 := ⟨by decide +kernel, rfl⟩
theorem rX12_pillars_54 : tq_D cX12_pillars 54 (.iload 4) 2 56 := ⟨by decide +kernel, rfl⟩
theorem rX12_pillars_56 : tq_D cX12_pillars 56 (.invokevirtual 301) 3 59 := ⟨by decide +kernel, rfl⟩
theorem rX12_pillars_59 : tq_D cX12_pillars 59 (.iload_n 2) 1 60 := ⟨by decide +kernel, rfl⟩
theorem rX12_pillars_60 : tq_J cX12_pillars 60 (.if_icmp .lt) 67 63 := ⟨7, by decide +kernel, by decide, rfl⟩
theorem rX12_pillars_63 : tq_D cX12_pillars 63 (.iconst 1) 1 64 := ⟨by decide +kernel, rfl⟩
theorem rX12_pillars_64 : tq_J cX12_pillars 64 .goto 68 67 := ⟨4, by decide +kernel, by decide, rfl⟩
theorem rX12_pillars_67 : tq_D cX12_pillars 67 (.iconst 0) 1 68 := ⟨by decide +kernel, rfl⟩
theorem rX12_pillars_68 : tq_D cX12_pillars 68 (.iadd) 1 69 := ⟨by decide +kernel, rfl⟩
theorem rX12_pillars_69 : tq_D cX12_pillars 69 (.istore_n 3) 1 70 := ⟨by decide +kernel, rfl⟩
theorem rX12_pillars_70 : tq_D cX12_pillars 70 (.iinc 4 1) 3 73 := ⟨by decide +kernel, rfl⟩
theorem rX12_pillars_73 : tq_J cX12_pillars 73 .goto 29 76 := ⟨(-44), by decide +kernel, by decide, rfl⟩
theorem rX12_pillars_76 : tq_D cX12_pillars 76 (.iload_n 3) 1 77 := ⟨by decide +kernel, rfl⟩
theorem rX12_pillars_77 : decode cX12_pillars 77 = .ok (.ireturn, 1) := by decide +kernel
noncomputable def FX12_pillars_j18 (I : tq_PI) (L : tq_PL)  : Option (Int32 × tq_PI) :=
  some ((-1 : Int32), I)
noncomputable def FX12_pillars_j68L29 (I : tq_PI) (L : tq_PL) (a0 : Nat) (a2 : Int32) (a4 : Int32) (b0 : Int32) (b1 : Int32) : Option ((Int32 × Int32 × tq_PI) ⊕ (Int32 × tq_PI)) :=
  some (.inl ((b1 + b0), (a4 + 1), I))
noncomputable def FX12_pillars_j67L29 (I : tq_PI) (L : tq_PL) (a0 : Nat) (a2 : Int32) (a4 : Int32) (b0 : Int32) : Option ((Int32 × Int32 × tq_PI) ⊕ (Int32 × tq_PI)) :=
  (FX12_pillars_j68L29 I L a0 a2 a4 ((0 : Int32)) b0)
noncomputable def FX12_pillars_s29 (I : tq_PI) (L : tq_PL) (a0 : Nat) (a2 : Int32) (a3 : Int32) (a4 : Int32) : Option ((Int32 × Int32 × tq_PI) ⊕ (Int32 × tq_PI)) :=
  (tq_let (FX12_many I L a0) fun p6 => (if p6 ≤ a4 then some (.inr (a3, I)) else ((FX12_kindOf I L a0 ((0 : Int32)) a4).bind fun p8 => (tq_let (FX12_isStone I L p8) fun p9 => (if (tq_b p9) = 0 then (FX12_pillars_j67L29 I L a0 a2 a4 a3) else ((FX12_taken I L a0 ((0 : Int32)) a4).bind fun p11 => (if p11.1 < a2 then (FX12_pillars_j67L29 p11.2 L a0 a2 a4 a3) else (FX12_pillars_j68L29 p11.2 L a0 a2 a4 ((1 : Int32)) a3))))))))
noncomputable def FX12_pillars (I : tq_PI) (L : tq_PL) (a0 : Nat) (a1 : Int32) (a2 : Int32) : Option (Int32 × tq_PI) :=
  ((FX12_isHill I L a0 a1).bind fun p1 => (if (tq_b p1.1) = 0 then (FX12_pillars_j18 p1.2 L ) else (tq_let (FX12_isIn p1.2 L a2 ((0 : Int32)) ((48 : Int32))) fun p3 => (if (tq_b p3) = 0 then (FX12_pillars_j18 p1.2 L ) else ((FX12_asTold p1.2 L a0).bind fun p5 => ((tq_it (fun p : Int32 × Int32 × tq_PI => FX12_pillars_s29 p.2.2 L a0 a2 p.1 p.2.1) tq_N ((0 : Int32), (0 : Int32), p5)).bind fun p13 => some (p13.1, p13.2)))))))
set_option maxRecDepth 100000 in
set_option maxHeartbeats 4000000 in
theorem FX12_pillars_j18_x {S : Nat × (Nat → Int32)} {d : Nat} {I : tq_PI} {L : tq_PL}   {q0 : Option Value → tq_PI → tq_PL → Prop} {out : Int32 × tq_PI} (hf : FX12_pillars_j18 I L = some out) (hk : q0 (some (.int out.1)) out.2 L) : tq_X S mX12_pillars (d + 5) tq_k0 18 ([tq_u, tq_u, tq_u, tq_u, tq_u]) ([]) (tq_st I L) (tq_Q q0) := by
  unfold FX12_pillars_j18 at hf
  refine tq_iconst (-1 : Int32) rX12_pillars_18 (by decide) ?_
  refine ty_iret rX12_pillars_19 rfl rfl ?_
  have hf := Option.some.inj hf
  subst hf
  exact hk

set_option maxRecDepth 100000 in
set_option maxHeartbeats 4000000 in
theorem FX12_pillars_j68L29_x {S : Nat × (Nat → Int32)} {d : Nat} {I : tq_PI} {L : tq_PL} {a0 : Nat} {a2 : Int32} {a4 : Int32} {b0 : Int32} {b1 : Int32} (h0 : tq_sh0 a0 = 12) {q0 : Option Value → tq_PI → tq_PL → Prop} {out : (Int32 × Int32 × tq_PI) ⊕ (Int32 × tq_PI)} (hf : FX12_pillars_j68L29 I L a0 a2 a4 b0 b1 = some out) (hk : Sum.elim (fun p : Int32 × Int32 × tq_PI => tq_X S mX12_pillars (d + 5) tq_k0 29 ([.ref a0, tq_u, .int a2, .int p.1, .int p.2.1]) [] (tq_st p.2.2 L) (tq_Q q0)) (fun p : Int32 × tq_PI => tq_X S mX12_pillars (d + 5) tq_k0 76 ([tq_u, tq_u, tq_u, .int p.1, tq_u]) [] (tq_st p.2 L) (tq_Q q0)) out) : tq_X S mX12_pillars (d + 5) tq_k0 68 ([.ref a0, tq_u, .int a2, tq_u, .int a4]) ([.int b0, .int b1]) (tq_st I L) (tq_Q q0) := by
  unfold FX12_pillars_j68L29 at hf
  refine tq_iadd rX12_pillars_68 ?_
  refine tq_istore_n ([.ref a0, tq_u, .int a2, .int (b1 + b0), .int a4]) rX12_pillars_69 (Nat.le_of_ble_eq_true rfl) rfl ?_
  refine tq_iinc (a4 + 1) ([.ref a0, tq_u, .int a2, .int (b1 + b0), .int (a4 + 1)]) rX12_pillars_70 rfl (tq_inc (by decide)) (Nat.le_of_ble_eq_true rfl) rfl ?_
  refine tq_goto rX12_pillars_73 ?_
  have hf := Option.some.inj hf
  subst hf
  exact tq_forget _ (tq_le_s (tq_le_u (tq_le_s (tq_le_s (tq_le_s tq_le_n))))) hk

set_option maxRecDepth 100000 in
set_option maxHeartbeats 4000000 in
theorem FX12_pillars_j67L29_x {S : Nat × (Nat → Int32)} {d : Nat} {I : tq_PI} {L : tq_PL} {a0 : Nat} {a2 : Int32} {a4 : Int32} {b0 : Int32} (h0 : tq_sh0 a0 = 12) {q0 : Option Value → tq_PI → tq_PL → Prop} {out : (Int32 × Int32 × tq_PI) ⊕ (Int32 × tq_PI)} (hf : FX12_pillars_j67L29 I L a0 a2 a4 b0 = some out) (hk : Sum.elim (fun p : Int32 × Int32 × tq_PI => tq_X S mX12_pillars (d + 5) tq_k0 29 ([.ref a0, tq_u, .int a2, .int p.1, .int p.2.1]) [] (tq_st p.2.2 L) (tq_Q q0)) (fun p : Int32 × tq_PI => tq_X S mX12_pillars (d + 5) tq_k0 76 ([tq_u, tq_u, tq_u, .int p.1, tq_u]) [] (tq_st p.2 L) (tq_Q q0)) out) : tq_X S mX12_pillars (d + 5) tq_k0 67 ([.ref a0, tq_u, .int a2, tq_u, .int a4]) ([.int b0]) (tq_st I L) (tq_Q q0) := by
  unfold FX12_pillars_j67L29 at hf
  refine tq_iconst (0 : Int32) rX12_pillars_67 (by decide) ?_
  exact tq_forget _ (tq_le_s (tq_le_u (tq_le_s (tq_le_u (tq_le_s tq_le_n))))) (FX12_pillars_j68L29_x  h0 hf hk)

set_option maxRecDepth 100000 in
set_option maxHeartbeats 4000000 in
theorem FX12_pillars_s29_x {S : Nat × (Nat → Int32)} {d : Nat} {I : tq_PI} {L : tq_PL} {a0 : Nat} {a2 : Int32} {a3 : Int32} {a4 : Int32} (h0 : tq_sh0 a0 = 12) {q0 : Option Value → tq_PI → tq_PL → Prop} {out : (Int32 × Int32 × tq_PI) ⊕ (Int32 × tq_PI)} (hf : FX12_pillars_s29 I L a0 a2 a3 a4 = some out) (hk : Sum.elim (fun p : Int32 × Int32 × tq_PI => tq_X S mX12_pillars (d + 5) tq_k0 29 ([.ref a0, tq_u, .int a2, .int p.1, .int p.2.1]) [] (tq_st p.2.2 L) (tq_Q q0)) (fun p : Int32 × tq_PI => tq_X S mX12_pillars (d + 5) tq_k0 76 ([tq_u, tq_u, tq_u, .int p.1, tq_u]) [] (tq_st p.2 L) (tq_Q q0)) out) : tq_X S mX12_pillars (d + 5) tq_k0 29 ([.ref a0, tq_u, .int a2, .int a3, .int a4]) [] (tq_st I L) (tq_Q q0) := by
  unfold FX12_pillars_s29 at hf
  refine tq_iload rX12_pillars_29 rfl ?_
  refine tq_aload_n rX12_pillars_31 rfl ?_
  obtain ⟨p6, e6, hf⟩ := tq_let_elim hf
  refine ty_callVI p6 ([]) ([.int a4]) rX12_pillars_32 l_X12_190 moX12_many mvX12_many h0 rfl rfl (Nat.le_of_ble_eq_true rfl) ⟨rfl, rfl⟩ (CX12_many h0 e6) ?_
  refine tq_icmp_ge rX12_pillars_35 (fun c7 => ?_) (fun c7 => ?_)
  · rw [if_pos c7] at hf
    have hf := Option.some.inj hf
    subst hf
    exact tq_forget _ (tq_le_u (tq_le_u (tq_le_u (tq_le_s (tq_le_u tq_le_n))))) hk
  · rw [if_neg c7] at hf
    refine tq_iload_n rX12_pillars_38 rfl ?_
    refine tq_aload_n rX12_pillars_39 rfl ?_
    refine tq_iconst (0 : Int32) rX12_pillars_40 (by decide) ?_
    refine tq_iload rX12_pillars_41 rfl ?_
    obtain ⟨p8, e8, hf⟩ := Option.bind_eq_some_iff.mp hf
    refine ty_callVI p8 ([.int (0 : Int32), .int a4]) ([.int a3]) rX12_pillars_43 l_X12_193 moX12_kindOf mvX12_kindOf h0 rfl rfl (Nat.le_of_ble_eq_true rfl) ⟨rfl, rfl⟩ (CX12_kindOf h0 e8) ?_
    obtain ⟨p9, e9, hf⟩ := tq_let_elim hf
    refine ty_callSI (tq_b p9) ([.int p8]) ([.int a3]) rX12_pillars_46 l_X12_208 moX12_isStone msX12_isStone rfl rfl (Nat.le_of_ble_eq_true rfl) ⟨rfl, rfl⟩ (CX12_isStone  e9) ?_
    refine tq_if_eq rX12_pillars_49 (fun c10 => ?_) (fun c10 => ?_)
    · rw [if_pos c10] at hf
      exact tq_forget _ (tq_le_s (tq_le_u (tq_le_s (tq_le_u (tq_le_s tq_le_n))))) (FX12_pillars_j67L29_x  h0 hf hk)
    · rw [if_neg c10] at hf
      refine tq_aload_n rX12_pillars_52 rfl ?_
      refine tq_iconst (0 : Int32) rX12_pillars_53 (by decide) ?_
      refine tq_iload rX12_pillars_54 rfl ?_
      obtain ⟨p11, e11, hf⟩ := Option.bind_eq_some_iff.mp hf
      refine ty_callVI p11.1 ([.int (0 : Int32), .int a4]) ([.int a3]) rX12_pillars_56 l_X12_301 moX12_taken mvX12_taken h0 rfl rfl (Nat.le_of_ble_eq_true rfl) ⟨rfl, rfl⟩ (CX12_taken h0 e11) ?_
      refine tq_iload_n rX12_pillars_59 rfl ?_
      refine tq_icmp_lt rX12_pillars_60 (fun c12 => ?_) (fun c12 => ?_)
      · rw [if_pos c12] at hf
        exact tq_forget _ (tq_le_s (tq_le_u (tq_le_s (tq_le_u (tq_le_s tq_le_n))))) (FX12_pillars_j67L29_x  h0 hf hk)
      · rw [if_neg c12] at hf
        refine tq_iconst (1 : Int32) rX12_pillars_63 (by decide) ?_
        refine tq_goto rX12_pillars_64 ?_
        exact tq_forget _ (tq_le_s (tq_le_u (tq_le_s (tq_le_u (tq_le_s tq_le_n))))) (FX12_pillars_j68L29_x  h0 hf hk)

set_option maxRecDepth 100000 in
set_option maxHeartbeats 4000000 in
theorem CX12_pillars {S : Nat × (Nat → Int32)} {d : Nat} {I : tq_PI} {L : tq_PL} {a0 : Nat} {a1 : Int32} {a2 : Int32} (h0 : tq_sh0 a0 = 12) {out : Int32 × tq_PI} (hf : FX12_pillars I L a0 a1 a2 = some out) : tq_K S mX12_pillars (d + 5) [.ref a0, .int a1, .int a2] I L (tq_one2 (some (.int out.1)) out.2 L) := by
  unfold FX12_pillars at hf
  refine tq_K_of (by decide) (Nat.le_of_ble_eq_true rfl) (ls := [.ref a0, .int a1, .int a2, tq_u, tq_u]) rfl ?_
  refine tq_aload_n rX12_pillars_0 rfl ?_
  refine tq_iload_n rX12_pillars_1 rfl ?_
  obtain ⟨p1, e1, hf⟩ := Option.bind_eq_some_iff.mp hf
  refine ty_callVI (tq_b p1.1) ([.int a1]) ([]) rX12_pillars_2 l_X12_221 moX12_isHill mvX12_isHill h0 rfl rfl (Nat.le_of_ble_eq_true rfl) ⟨rfl, rfl⟩ (CX12_isHill h0 e1) ?_
  refine tq_if_eq rX12_pillars_5 (fun c2 => ?_) (fun c2 => ?_)
  · rw [if_pos c2] at hf
    exact tq_forget _ (tq_le_u (tq_le_u (tq_le_u (tq_le_u (tq_le_u tq_le_n))))) (FX12_pillars_j18_x   hf ⟨rfl, rfl, rfl⟩)
  · rw [if_neg c2] at hf
    refine tq_iload_n rX12_pillars_8 rfl ?_
    refine tq_iconst (0 : Int32) rX12_pillars_9 (by decide) ?_
    refine tq_bipush (48 : Int32) rX12_pillars_10 (by decide) ?_
    obtain ⟨p3, e3, hf⟩ := tq_let_elim hf
    refine ty_callSI (tq_b p3) ([.int a2, .int (0 : Int32), .int (48 : Int32)]) ([]) rX12_pillars_12 l_X12_118 moX12_isIn msX12_isIn rfl rfl (Nat.le_of_ble_eq_true rfl) ⟨rfl, rfl⟩ (CX12_isIn  e3) ?_
    refine tq_if_ne rX12_pillars_15 (fun c4 => ?_) (fun c4 => ?_)
    · rw [if_neg c4] at hf
      refine tq_aload_n rX12_pillars_20 rfl ?_
      obtain ⟨p5, e5, hf⟩ := Option.bind_eq_some_iff.mp hf
      refine ty_callVV ([]) ([]) rX12_pillars_21 l_X12_224 moX12_asTold mvX12_asTold h0 rfl rfl (Nat.le_of_ble_eq_true rfl) ⟨rfl, rfl⟩ (CX12_asTold h0 e5) ?_
      refine tq_iconst (0 : Int32) rX12_pillars_24 (by decide) ?_
      refine tq_istore_n ([.ref a0, .int a1, .int a2, .int (0 : Int32), tq_u]) rX12_pillars_25 (Nat.le_of_ble_eq_true rfl) rfl ?_
      refine tq_iconst (0 : Int32) rX12_pillars_26 (by decide) ?_
      refine tq_istore ([.ref a0, .int a1, .int a2, .int (0 : Int32), .int (0 : Int32)]) rX12_pillars_27 (Nat.le_of_ble_eq_true rfl) rfl ?_
      obtain ⟨p13, e13, hf⟩ := Option.bind_eq_some_iff.mp hf
      refine tq_forget _ (tq_le_s (tq_le_u (tq_le_s (tq_le_s (tq_le_s tq_le_n))))) ?_
      refine tq_it_elim (P := fun p : Int32 × Int32 × tq_PI => tq_X S mX12_pillars (d + 5) tq_k0 29 ([.ref a0, tq_u, .int a2, .int p.1, .int p.2.1]) [] (tq_st p.2.2 L) (tq_Q (tq_one2 (some (.int out.1)) out.2 L))) (R := fun p : Int32 × tq_PI => tq_X S mX12_pillars (d + 5) tq_k0 76 ([tq_u, tq_u, tq_u, .int p.1, tq_u]) [] (tq_st p.2 L) (tq_Q (tq_one2 (some (.int out.1)) out.2 L))) (fun p o hp hk => FX12_pillars_s29_x  h0 hp hk) _ (((0 : Int32), (0 : Int32), p5)) _ e13 ?_
      show tq_X _ _ _ _ _ _ _ _ _
      refine tq_iload_n rX12_pillars_76 rfl ?_
      refine ty_iret rX12_pillars_77 rfl rfl ?_
      have hf := Option.some.inj hf
      subst hf
      exact ⟨rfl, rfl, rfl⟩
    · rw [if_pos c4] at hf
      exact tq_forget _ (tq_le_u (tq_le_u (tq_le_u (tq_le_u (tq_le_u tq_le_n))))) (FX12_pillars_j18_x   hf ⟨rfl, rfl, rfl⟩)

abbrev mX12_safeOf : tq_M := (yX12_safeOf, cX12_safeOf, 4, (Option.some Jvm.ClassFile.FieldType.int), 0, 0)
theorem rX12_safeOf_0 : tq_D cX12_safeOf 0 (.aload_n 0) 1 1 := ⟨by decide +kernel, rfl⟩
theorem rX12_safeOf_1 : tq_D cX12_safeOf 1 (.iconst 0) 1 2 := ⟨by decide +kernel, rfl⟩
theorem rX12_safeOf_2 : tq_D cX12_safeOf 2 (.iload_n 1) 1 3 := ⟨by decide +kernel, rfl⟩
theorem rX12_safeOf_3 : tq_D cX12_safeOf 3 (.invokevirtual 274) 3 6 := ⟨by decide +kernel, rfl⟩
theorem rX12_safeOf_6 : tq_D cX12_safeOf 6 (.iconst 0) 1 7 := ⟨by decide +kernel, rfl⟩
theorem rX12_safeOf_7 : tq_D cX12_safeOf 7 (.istore_n 2) 1 8 := ⟨by decide +kernel, rfl⟩
theorem rX12_safeOf_8 : tq_D cX12_safeOf 8 (.iconst 0) 1 9 := ⟨by decide +kernel, rfl⟩
theorem rX12_safeOf_9 : tq_D cX12_safeOf 9 (.istore_n 3) 1 10 := ⟨by decide +kernel, rfl⟩
theorem rX12_safeOf_10 : tq_D cX12_safeOf 10 (.iload_n 3) 1 11 := ⟨by decide +kernel, rfl⟩
theorem rX12_safeOf_11 : tq_D cX12_safeOf 11 (.aload_n 0) 1 12 := ⟨by decide +kernel, rfl⟩
theorem rX12_safeOf_12 : tq_D cX12_safeOf 12 (.invokevirtual 190) 3 15 := ⟨by decide +kernel, rfl⟩
theorem rX12_safeOf_15 : tq_J cX12_safeOf 15 (.if_icmp .ge) 51 18 := ⟨36, by decide +kernel, by decide, rfl⟩
theorem rX12_safeOf_18 : tq_D cX12_safeOf 18 (.iload_n 2) 1 19 := ⟨by decide +kernel, rfl⟩
theorem rX12_safeOf_19 : tq_D cX12_safeOf 19 (.aload_n 0) 1 20 := ⟨by decide +kernel, rfl⟩
theorem rX12_safeOf_20 : tq_D cX12_safeOf 20 (.iconst 0) 1 21 := ⟨by decide +kernel, rfl⟩
theorem rX12_safeOf_21 : tq_D cX12_safeOf 21 (.iload_n 1) 1 22 := ⟨by decide +kernel, rfl⟩
theorem rX12_safeOf_22 : tq_D cX12_safeOf 22 (.iload_n 3) 1 23 := ⟨by decide +kernel, rfl⟩
theorem rX12_safeOf_23 : tq_D cX12_safeOf 23 (.invokevirtual 277) 3 26 := ⟨by decide +kernel, rfl⟩
theorem rX12_safeOf_26 : tq_J cX12_safeOf 26 (.ifCond .eq) 42 29 := ⟨16, by decide +kernel, by decide, rfl⟩
theorem rX12_safeOf_29 : tq_D cX12_safeOf 29 (.aload_n 0) 1 30 := ⟨by decide +kernel, rfl⟩
theorem rX12_safeOf_30 : tq_D cX12_safeOf 30 (.iconst 0) 1 31 := ⟨by decide +kernel, rfl⟩
theorem rX12_safeOf_31 : tq_D cX12_safeOf 31 (.iload_n 3) 1 32 := ⟨by decide +kernel, rfl⟩
theorem rX12_safeOf_32 : tq_D cX12_safeOf 32 (.invokevirtual 301) 3 35 := ⟨by decide +kernel, rfl⟩
theorem rX12_safeOf_35 : tq_J cX12_safeOf 35 (.ifCond .ne) 42 38 := ⟨7, by decide +kernel, by decide, rfl⟩
theorem rX12_safeOf_38 : tq_D cX12_safeOf 38 (.iconst 1) 1 39 := ⟨by decide +kernel, rfl⟩
theorem rX12_safeOf_39 : tq_J cX12_safeOf 39 .goto 43 42 := ⟨4, by decide +kernel, by decide, rfl⟩
theorem rX12_safeOf_42 : tq_D cX12_safeOf 42 (.iconst 0) 1 43 := ⟨by decide +kernel, rfl⟩
theorem rX12_safeOf_43 : tq_D cX12_safeOf 43 (.iadd) 1 44 := ⟨by decide +kernel, rfl⟩
theorem rX12_safeOf_44 : tq_D cX12_safeOf 44 (.istore_n 2) 1 45 := ⟨by decide +kernel, rfl⟩
theorem rX12_safeOf_45 : tq_D cX12_safeOf 45 (.iinc 3 1) 3 48 := ⟨by decide +kernel, rfl⟩
theorem rX12_safeOf_48 : tq_J cX12_safeOf 48 .goto 10 51 := ⟨(-38), by decide +kernel, by decide, rfl⟩
theorem rX12_safeOf_51 : tq_D cX12_safeOf 51 (.iload_n 2) 1 52 := ⟨by decide +kernel, rfl⟩
theorem rX12_safeOf_52 : decode cX12_safeOf 52 = .ok (.ireturn, 1) := by decide +kernel
noncomputable def FX12_safeOf_j43L10 (I : tq_PI) (L : tq_PL) (a0 : Nat) (a1 : Int32) (a3 : Int32) (b0 : Int32) (b1 : Int32) : Option ((Int32 × Int32 × tq_PI) ⊕ (Int32 × tq_PI)) :=
  some (.inl ((b1 + b0), (a3 + 1), I))
noncomputable def FX12_safeOf_j42L10 (I : tq_PI) (L : tq_PL) (a0 : Nat) (a1 : Int32) (a3 : Int32) (b0 : Int32) : Option ((Int32 × Int32 × tq_PI) ⊕ (Int32 × tq_PI)) :=
  (FX12_safeOf_j43L10 I L a0 a1 a3 ((0 : Int32)) b0)
noncomputable def FX12_safeOf_s10 (I : tq_PI) (L : tq_PL) (a0 : Nat) (a1 : Int32) (a2 : Int32) (a3 : Int32) : Option ((Int32 × Int32 × tq_PI) ⊕ (Int32 × tq_PI)) :=
  (tq_let (FX12_many I L a0) fun p2 => (if p2 ≤ a3 then some (.inr (a2, I)) else ((FX12_isCut I L a0 ((0 : Int32)) a1 a3).bind fun p4 => (if (tq_b p4) = 0 then (FX12_safeOf_j42L10 I L a0 a1 a3 a2) else ((FX12_taken I L a0 ((0 : Int32)) a3).bind fun p6 => (if p6.1 = 0 then (FX12_safeOf_j43L10 p6.2 L a0 a1 a3 ((1 : Int32)) a2) else (FX12_safeOf_j42L10 p6.2 L a0 a1 a3 a2)))))))
noncomputable def FX12_safeOf (I : tq_PI) (L : tq_PL) (a0 : Nat) (a1 : Int32) : Option (Int32 × tq_PI) :=
  ((FX12_reaches I L a0 ((0 : Int32)) a1).bind fun p1 => ((tq_it (fun p : Int32 × Int32 × tq_PI => FX12_safeOf_s10 p.2.2 L a0 a1 p.1 p.2.1) tq_N ((0 : Int32), (0 : Int32), p1)).bind fun p8 => some (p8.1, p8.2)))
set_option maxRecDepth 100000 in
set_option maxHeartbeats 4000000 in
theorem FX12_safeOf_j43L10_x {S : Nat × (Nat → Int32)} {d : Nat} {I : tq_PI} {L : tq_PL} {a0 : Nat} {a1 : Int32} {a3 : Int32} {b0 : Int32} {b1 : Int32} (h0 : tq_sh0 a0 = 12) {q0 : Option Value → tq_PI → tq_PL → Prop} {out : (Int32 × Int32 × tq_PI) ⊕ (Int32 × tq_PI)} (hf : FX12_safeOf_j43L10 I L a0 a1 a3 b0 b1 = some out) (hk : Sum.elim (fun p : Int32 × Int32 × tq_PI => tq_X S mX12_safeOf (d + 5) tq_k0 10 ([.ref a0, .int a1, .int p.1, .int p.2.1]) [] (tq_st p.2.2 L) (tq_Q q0)) (fun p : Int32 × tq_PI => tq_X S mX12_safeOf (d + 5) tq_k0 51 ([tq_u, tq_u, .int p.1, tq_u]) [] (tq_st p.2 L) (tq_Q q0)) out) : tq_X S mX12_safeOf (d + 5) tq_k0 43 ([.ref a0, .int a1, tq_u, .int a3]) ([.int b0, .int b1]) (tq_st I L) (tq_Q q0) := by
  unfold FX12_safeOf_j43L10 at hf
  refine tq_iadd rX12_safeOf_43 ?_
  refine tq_istore_n ([.ref a0, .int a1, .int (b1 + b0), .int a3]) rX12_safeOf_44 (Nat.le_of_ble_eq_true rfl) rfl ?_
  refine tq_iinc (a3 + 1) ([.ref a0, .int a1, .int (b1 + b0), .int (a3 + 1)]) rX12_safeOf_45 rfl (tq_inc (by decide)) (Nat.le_of_ble_eq_true rfl) rfl ?_
  refine tq_goto rX12_safeOf_48 ?_
  have hf := Option.some.inj hf
  subst hf
  exact tq_forget _ (tq_le_s (tq_le_s (tq_le_s (tq_le_s tq_le_n)))) hk

set_option maxRecDepth 100000 in
set_option maxHeartbeats 4000000 in
theorem FX12_safeOf_j42L10_x {S : Nat × (Nat → Int32)} {d : Nat} {I : tq_PI} {L : tq_PL} {a0 : Nat} {a1 : Int32} {a3 : Int32} {b0 : Int32} (h0 : tq_sh0 a0 = 12) {q0 : Option Value → tq_PI → tq_PL → Prop} {out : (Int32 × Int32 × tq_PI) ⊕ (Int32 × tq_PI)} (hf : FX12_safeOf_j42L10 I L a0 a1 a3 b0 = some out) (hk : Sum.elim (fun p : Int32 × Int32 × tq_PI => tq_X S mX12_safeOf (d + 5) tq_k0 10 ([.ref a0, .int a1, .int p.1, .int p.2.1]) [] (tq_st p.2.2 L) (tq_Q q0)) (fun p : Int32 × tq_PI => tq_X S mX12_safeOf (d + 5) tq_k0 51 ([tq_u, tq_u, .int p.1, tq_u]) [] (tq_st p.2 L) (tq_Q q0)) out) : tq_X S mX12_safeOf (d + 5) tq_k0 42 ([.ref a0, .int a1, tq_u, .int a3]) ([.int b0]) (tq_st I L) (tq_Q q0) := by
  unfold FX12_safeOf_j42L10 at hf
  refine tq_iconst (0 : Int32) rX12_safeOf_42 (by decide) ?_
  exact tq_forget _ (tq_le_s (tq_le_s (tq_le_u (tq_le_s tq_le_n)))) (FX12_safeOf_j43L10_x  h0 hf hk)

set_option maxRecDepth 100000 in
set_option maxHeartbeats 4000000 in
theorem FX12_safeOf_s10_x {S : Nat × (Nat → Int32)} {d : Nat} {I : tq_PI} {L : tq_PL} {a0 : Nat} {a1 : Int32} {a2 : Int32} {a3 : Int32} (h0 : tq_sh0 a0 = 12) {q0 : Option Value → tq_PI → tq_PL → Prop} {out : (Int32 × Int32 × tq_PI) ⊕ (Int32 × tq_PI)} (hf : FX12_safeOf_s10 I L a0 a1 a2 a3 = some out) (hk : Sum.elim (fun p : Int32 × Int32 × tq_PI => tq_X S mX12_safeOf (d + 5) tq_k0 10 ([.ref a0, .int a1, .int p.1, .int p.2.1]) [] (tq_st p.2.2 L) (tq_Q q0)) (fun p : Int32 × tq_PI => tq_X S mX12_safeOf (d + 5) tq_k0 51 ([tq_u, tq_u, .int p.1, tq_u]) [] (tq_st p.2 L) (tq_Q q0)) out) : tq_X S mX12_safeOf (d + 5) tq_k0 10 ([.ref a0, .int a1, .int a2, .int a3]) [] (tq_st I L) (tq_Q q0) := by
  unfold FX12_safeOf_s10 at hf
  refine tq_iload_n rX12_safeOf_10 rfl ?_
  refine tq_aload_n rX12_safeOf_11 rfl ?_
  obtain ⟨p2, e2, hf⟩ := tq_let_elim hf
  refine ty_callVI p2 ([]) ([.int a3]) rX12_safeOf_12 l_X12_190 moX12_many mvX12_many h0 rfl rfl (Nat.le_of_ble_eq_true rfl) ⟨rfl, rfl⟩ (CX12_many h0 e2) ?_
  refine tq_icmp_ge rX12_safeOf_15 (fun c3 => ?_) (fun c3 => ?_)
  · rw [if_pos c3] at hf
    have hf := Option.some.inj hf
    subst hf
    exact tq_forget _ (tq_le_u (tq_le_u (tq_le_s (tq_le_u tq_le_n)))) hk
  · rw [if_neg c3] at hf
    refine tq_iload_n rX12_safeOf_18 rfl ?_
    refine tq_aload_n rX12_safeOf_19 rfl ?_
    refine tq_iconst (0 : Int32) rX12_safeOf_20 (by decide) ?_
    refine tq_iload_n rX12_safeOf_21 rfl ?_
    refine tq_iload_n rX12_safeOf_22 rfl ?_
    obtain ⟨p4, e4, hf⟩ := Option.bind_eq_some_iff.mp hf
    refine ty_callVI (tq_b p4) ([.int (0 : Int32), .int a1, .int a3]) ([.int a2]) rX12_safeOf_23 l_X12_277 moX12_isCut mvX12_isCut h0 rfl rfl (Nat.le_of_ble_eq_true rfl) ⟨rfl, rfl⟩ (CX12_isCut h0 e4) ?_
    refine tq_if_eq rX12_safeOf_26 (fun c5 => ?_) (fun c5 => ?_)
    · rw [if_pos c5] at hf
      exact tq_forget _ (tq_le_s (tq_le_s (tq_le_u (tq_le_s tq_le_n)))) (FX12_safeOf_j42L10_x  h0 hf hk)
    · rw [if_neg c5] at hf
      refine tq_aload_n rX12_safeOf_29 rfl ?_
      refine tq_iconst (0 : Int32) rX12_safeOf_30 (by decide) ?_
      refine tq_iload_n rX12_safeOf_31 rfl ?_
      obtain ⟨p6, e6, hf⟩ := Option.bind_eq_some_iff.mp hf
      refine ty_callVI p6.1 ([.int (0 : Int32), .int a3]) ([.int a2]) rX12_safeOf_32 l_X12_301 moX12_taken mvX12_taken h0 rfl rfl (Nat.le_of_ble_eq_true rfl) ⟨rfl, rfl⟩ (CX12_taken h0 e6) ?_
      refine tq_if_ne rX12_safeOf_35 (fun c7 => ?_) (fun c7 => ?_)
      · rw [if_neg c7] at hf
        exact tq_forget _ (tq_le_s (tq_le_s (tq_le_u (tq_le_s tq_le_n)))) (FX12_safeOf_j42L10_x  h0 hf hk)
      · rw [if_pos c7] at hf
        refine tq_iconst (1 : Int32) rX12_safeOf_38 (by decide) ?_
        refine tq_goto rX12_safeOf_39 ?_
        exact tq_forget _ (tq_le_s (tq_le_s (tq_le_u (tq_le_s tq_le_n)))) (FX12_safeOf_j43L10_x  h0 hf hk)

set_option maxRecDepth 100000 in
set_option maxHeartbeats 4000000 in
theorem CX12_safeOf {S : Nat × (Nat → Int32)} {d : Nat} {I : tq_PI} {L : tq_PL} {a0 : Nat} {a1 : Int32} (h0 : tq_sh0 a0 = 12) {out : Int32 × tq_PI} (hf : FX12_safeOf I L a0 a1 = some out) : tq_K S mX12_safeOf (d + 5) [.ref a0, .int a1] I L (tq_one2 (some (.int out.1)) out.2 L) := by
  unfold FX12_safeOf at hf
  refine tq_K_of (by decide) (Nat.le_of_ble_eq_true rfl) (ls := [.ref a0, .int a1, tq_u, tq_u]) rfl ?_
  refine tq_aload_n rX12_safeOf_0 rfl ?_
  refine tq_iconst (0 : Int32) rX12_safeOf_1 (by decide) ?_
  refine tq_iload_n rX12_safeOf_2 rfl ?_
  obtain ⟨p1, e1, hf⟩ := Option.bind_eq_some_iff.mp hf
  refine ty_callVV ([.int (0 : Int32), .int a1]) ([]) rX12_safeOf_3 l_X12_274 moX12_reaches mvX12_reaches h0 rfl rfl (Nat.le_of_ble_eq_true rfl) ⟨rfl, rfl⟩ (CX12_reaches h0 e1) ?_
  refine tq_iconst (0 : Int32) rX12_safeOf_6 (by decide) ?_
  refine tq_istore_n ([.ref a0, .int a1, .int (0 : Int32), tq_u]) rX12_safeOf_7 (Nat.le_of_ble_eq_true rfl) rfl ?_
  refine tq_iconst (0 : Int32) rX12_safeOf_8 (by decide) ?_
  refine tq_istore_n ([.ref a0, .int a1, .int (0 : Int32), .int (0 : Int32)]) rX12_safeOf_9 (Nat.le_of_ble_eq_true rfl) rfl ?_
  obtain ⟨p8, e8, hf⟩ := Option.bind_eq_some_iff.mp hf
  refine tq_forget _ (tq_le_s (tq_le_s (tq_le_s (tq_le_s tq_le_n)))) ?_
  refine tq_it_elim (P := fun p : Int32 × Int32 × tq_PI => tq_X S mX12_safeOf (d + 5) tq_k0 10 ([.ref a0, .int a1, .int p.1, .int p.2.1]) [] (tq_st p.2.2 L) (tq_Q (tq_one2 (some (.int out.1)) out.2 L))) (R := fun p : Int32 × tq_PI => tq_X S mX12_safeOf (d + 5) tq_k0 51 ([tq_u, tq_u, .int p.1, tq_u]) [] (tq_st p.2 L) (tq_Q (tq_one2 (some (.int out.1)) out.2 L))) (fun p o hp hk => FX12_safeOf_s10_x  h0 hp hk) _ (((0 : Int32), (0 : Int32), p1)) _ e8 ?_
  show tq_X _ _ _ _ _ _ _ _ _
  refine tq_iload_n rX12_safeOf_51 rfl ?_
  refine ty_iret rX12_safeOf_52 rfl rfl ?_
  have hf := Option.some.inj hf
  subst hf
  exact ⟨rfl, rfl, rfl⟩

abbrev mX12_shoredBy : tq_M := (yX12_shoredBy, cX12_shoredBy, 4, (Option.some Jvm.ClassFile.FieldType.int), 0, 0)
theorem moX12_safeOf : tq_mok mX12_safeOf 1 := ⟨tq_sg1 _ (List.mem_of_getElem? (i := 13) rfl), tq_sg8 _ (List.mem_of_getElem? (i := 18) rfl), ⟨by decide, by decide, by decide +kernel⟩, by decide⟩
theorem mvX12_safeOf : 12 < 13 ∧ (tq_cl 12).1 = mX12_safeOf.1.cls ∧ Cond.instanceMethod mX12_safeOf.1 ∈ lw_tbl ∧ Cond.selects mX12_safeOf.1.cls mX12_safeOf.1 mX12_safeOf.1 ∈ lw_tbl := ⟨by decide, rfl, tq_sg8 _ (List.mem_of_getElem? (i := 17) rfl), List.mem_append_left _ (List.mem_map.mpr ⟨_, List.mem_of_getElem? (i := 88) rfl, rfl⟩)⟩
theorem l_X12_307 : tq_lok RX12 307 mX12_safeOf.1 := Or.inl (tq_sg8 _ (List.mem_of_getElem? (i := 15) rfl))
theorem rX12_shoredBy_0 : tq_D cX12_shoredBy 0 (.aload_n 0) 1 1 := ⟨by decide +kernel, rfl⟩
theorem rX12_shoredBy_1 : tq_D cX12_shoredBy 1 (.invokevirtual 224) 3 4 := ⟨by decide +kernel, rfl⟩
theorem rX12_shoredBy_4 : tq_D cX12_shoredBy 4 (.iload_n 1) 1 5 := ⟨by decide +kernel, rfl⟩
theorem rX12_shoredBy_5 : tq_J cX12_shoredBy 5 (.ifCond .le) 17 8 := ⟨12, by decide +kernel, by decide, rfl⟩
theorem rX12_shoredBy_8 : tq_D cX12_shoredBy 8 (.aload_n 0) 1 9 := ⟨by decide +kernel, rfl⟩
theorem rX12_shoredBy_9 : tq_D cX12_shoredBy 9 (.iconst 0) 1 10 := ⟨by decide +kernel, rfl⟩
theorem rX12_shoredBy_10 : tq_D cX12_shoredBy 10 (.iload_n 2) 1 11 := ⟨by decide +kernel, rfl⟩
theorem rX12_shoredBy_11 : tq_D cX12_shoredBy 11 (.invokevirtual 193) 3 14 := ⟨by decide +kernel, rfl⟩
theorem rX12_shoredBy_14 : tq_J cX12_shoredBy 14 (.ifCond .ne) 31 17 := ⟨17, by decide +kernel, by decide, rfl⟩
theorem rX12_shoredBy_17 : tq_D cX12_shoredBy 17 (.iload_n 1) 1 18 := ⟨by decide +kernel, rfl⟩
theorem rX12_shoredBy_18 : tq_D cX12_shoredBy 18 (.iconst 1) 1 19 := ⟨by decide +kernel, rfl⟩
theorem rX12_shoredBy_19 : tq_J cX12_shoredBy 19 (.if_icmp .le) 33 22 := ⟨14, by decide +kernel, by decide, rfl⟩
theorem rX12_shoredBy_22 : tq_D cX12_shoredBy 22 (.aload_n 0) 1 23 := ⟨by decide +kernel, rfl⟩
theorem rX12_shoredBy_23 : tq_D cX12_shoredBy 23 (.iconst 0) 1 24 := ⟨by decide +kernel, rfl⟩
theorem rX12_shoredBy_24 : tq_D cX12_shoredBy 24 (.iload_n 3) 1 25 := ⟨by decide +kernel, rfl⟩
theorem rX12_shoredBy_25 : tq_D cX12_shoredBy 25 (.invokevirtual 193) 3 28 := ⟨by decide +kernel, rfl⟩
theorem rX12_shoredBy_28 : tq_J cX12_shoredBy 28 (.ifCond .eq) 33 31 := ⟨5, by decide +kernel, by decide, rfl⟩
theorem rX12_shoredBy_31 : tq_D cX12_shoredBy 31 (.iconst (-1)) 1 32 := ⟨by decide +kernel, rfl⟩
theorem rX12_shoredBy_32 : decode cX12_shoredBy 32 = .ok (.ireturn, 1) := by decide +kernel
theorem rX12_shoredBy_33 : tq_D cX12_shoredBy 33 (.iload_n 1) 1 34 := ⟨by decide +kernel, rfl⟩
theorem rX12_shoredBy_34 : tq_J cX12_shoredBy 34 (.ifCond .le) 44 37 := ⟨10, by decide +kernel, by decide, rfl⟩
theorem rX12_shoredBy_37 : tq_D cX12_shoredBy 37 (.aload_n 0) 1 38 := ⟨by decide +kernel, rfl⟩
theorem rX12_shoredBy_38 : tq_D cX12_shoredBy 38 (.getfield 20) 3 41 := ⟨by decide +kernel, rfl⟩
theorem rX12_shoredBy_41 : tq_D cX12_shoredBy 41 (.iload_n 2) 1 42 := ⟨by decide +kernel, rfl⟩
theorem rX12_shoredBy_42 : tq_D cX12_shoredBy 42 (.iconst 4) 1 43 := ⟨by decide +kernel, rfl⟩
theorem rX12_shoredBy_43 : tq_D cX12_shoredBy 43 (.iastore) 1 44 := ⟨by decide +kernel, rfl⟩
theorem rX12_shoredBy_44 : tq_D cX12_shoredBy 44 (.iload_n 1) 1 45 := ⟨by decide +kernel, rfl⟩
theorem rX12_shoredBy_45 : tq_D cX12_shoredBy 45 (.iconst 1) 1 46 := ⟨by decide +kernel, rfl⟩
theorem rX12_shoredBy_46 : tq_J cX12_shoredBy 46 (.if_icmp .le) 56 49 := ⟨10, by decide +kernel, by decide, rfl⟩
theorem rX12_shoredBy_49 : tq_D cX12_shoredBy 49 (.aload_n 0) 1 50 := ⟨by decide +kernel, rfl⟩
theorem rX12_shoredBy_50 : tq_D cX12_shoredBy 50 (.getfield 20) 3 53 := ⟨by decide +kernel, rfl⟩
theorem rX12_shoredBy_53 : tq_D cX12_shoredBy 53 (.iload_n 3) 1 54 := ⟨by decide +kernel, rfl⟩
theorem rX12_shoredBy_54 : tq_D cX12_shoredBy 54 (.iconst 4) 1 55 := ⟨by decide +kernel, rfl⟩
theorem rX12_shoredBy_55 : tq_D cX12_shoredBy 55 (.iastore) 1 56 := ⟨by decide +kernel, rfl⟩
theorem rX12_shoredBy_56 : tq_D cX12_shoredBy 56 (.iload_n 1) 1 57 := ⟨by decide +kernel, rfl⟩
theorem rX12_shoredBy_57 : tq_J cX12_shoredBy 57 (.ifCond .le) 69 60 := ⟨12, by decide +kernel, by decide, rfl⟩
theorem rX12_shoredBy_60 : tq_D cX12_shoredBy 60 (.aload_n 0) 1 61 := ⟨by decide +kernel, rfl⟩
theorem rX12_shoredBy_61 : tq_D cX12_shoredBy 61 (.iconst 0) 1 62 := ⟨by decide +kernel, rfl⟩
theorem rX12_shoredBy_62 : tq_D cX12_shoredBy 62 (.iload_n 2) 1 63 := ⟨by decide +kernel, rfl⟩
theorem rX12_shoredBy_63 : tq_D cX12_shoredBy 63 (.invokevirtual 196) 3 66 := ⟨by decide +kernel, rfl⟩
theorem rX12_shoredBy_66 : tq_J cX12_shoredBy 66 (.ifCond .eq) 83 69 := ⟨17, by decide +kernel, by decide, rfl⟩
theorem rX12_shoredBy_69 : tq_D cX12_shoredBy 69 (.iload_n 1) 1 70 := ⟨by decide +kernel, rfl⟩
theorem rX12_shoredBy_70 : tq_D cX12_shoredBy 70 (.iconst 1) 1 71 := ⟨by decide +kernel, rfl⟩
theorem rX12_shoredBy_71 : tq_J cX12_shoredBy 71 (.if_icmp .le) 85 74 := ⟨14, by decide +kernel, by decide, rfl⟩
theorem rX12_shoredBy_74 : tq_D cX12_shoredBy 74 (.aload_n 0) 1 75 := ⟨by decide +kernel, rfl⟩
theorem rX12_shoredBy_75 : tq_D cX12_shoredBy 75 (.iconst 0) 1 76 := ⟨by decide +kernel, rfl⟩
theorem rX12_shoredBy_76 : tq_D cX12_shoredBy 76 (.iload_n 3) 1 77 := ⟨by decide +kernel, rfl⟩
theorem rX12_shoredBy_77 : tq_D cX12_shoredBy 77 (.invokevirtual 196) 3 80 := ⟨by decide +kernel, rfl⟩
theorem rX12_shoredBy_80 : tq_J cX12_shoredBy 80 (.ifCond .ne) 85 83 := ⟨5, by decide +kernel, by decide, rfl⟩
theorem rX12_shoredBy_83 : tq_D cX12_shoredBy 83 (.iconst (-1)) 1 84 := ⟨by decide +kernel, rfl⟩
theorem rX12_shoredBy_84 : decode cX12_shoredBy 84 = .ok (.ireturn, 1) := by decide +kernel
theorem rX12_shoredBy_85 : tq_D cX12_shoredBy 85 (.aload_n 0) 1 86 := ⟨by decide +kernel, rfl⟩
theorem rX12_shoredBy_86 : tq_D cX12_shoredBy 86 (.iconst 0) 1 87 := ⟨by decide +kernel, rfl⟩
theorem rX12_shoredBy_87 : tq_D cX12_shoredBy 87 (.invokevirtual 307) 3 90 := ⟨by decide +kernel, rfl⟩
theorem rX12_shoredBy_90 : tq_D cX12_shoredBy 90 (.aload_n 0) 1 91 := ⟨by decide +kernel, rfl⟩
theorem rX12_shoredBy_91 : tq_D cX12_shoredBy 91 (.iconst 1) 1 92 := ⟨by decide +kernel, rfl⟩
theorem rX12_shoredBy_92 : tq_D cX12_shoredBy 92 (.invokevirtual 307) 3 95 := ⟨by decide +kernel, rfl⟩
theorem rX12_shoredBy_95 : tq_D cX12_shoredBy 95 (.iadd) 1 96 := ⟨by decide +kernel, rfl⟩
theorem rX12_shoredBy_96 : decode cX12_shoredBy 96 = .ok (.ireturn, 1) := by decide +kernel
noncomputable def FX12_shoredBy_j85 (I : tq_PI) (L : tq_PL) (a0 : Nat) : Option (Int32 × tq_PI) :=
  ((FX12_safeOf I L a0 ((0 : Int32))).bind fun p8 => ((FX12_safeOf p8.2 L a0 ((1 : Int32))).bind fun p9 => some ((p8.1 + p9.1), p9.2)))
noncomputable def FX12_shoredBy_j83 (I : tq_PI) (L : tq_PL)  : Option (Int32 × tq_PI) :=
  some ((-1 : Int32), I)
noncomputable def FX12_shoredBy_j69 (I : tq_PI) (L : tq_PL) (a0 : Nat) (a1 : Int32) (a3 : Int32) : Option (Int32 × tq_PI) :=
  (if a1 ≤ (1 : Int32) then (FX12_shoredBy_j85 I L a0) else ((FX12_stands I L a0 ((0 : Int32)) a3).bind fun p10 => (if (tq_b p10) = 0 then (FX12_shoredBy_j83 I L ) else (FX12_shoredBy_j85 I L a0))))
noncomputable def FX12_shoredBy_j56 (I : tq_PI) (L : tq_PL) (a0 : Nat) (a1 : Int32) (a2 : Int32) (a3 : Int32) : Option (Int32 × tq_PI) :=
  (if a1 ≤ 0 then (FX12_shoredBy_j69 I L a0 a1 a3) else ((FX12_stands I L a0 ((0 : Int32)) a2).bind fun p12 => (if (tq_b p12) = 0 then (FX12_shoredBy_j83 I L ) else (FX12_shoredBy_j69 I L a0 a1 a3))))
noncomputable def FX12_shoredBy_j44 (I : tq_PI) (L : tq_PL) (a0 : Nat) (a1 : Int32) (a2 : Int32) (a3 : Int32) : Option (Int32 × tq_PI) :=
  (if a1 ≤ (1 : Int32) then (FX12_shoredBy_j56 I L a0 a1 a2 a3) else (if 0 ≤ a3 ∧ a3 < 192 then (FX12_shoredBy_j56 ((tq_up2 I (tq_rg a0 15) a3.toNatClampNeg (4 : Int32))) L a0 a1 a2 a3) else none))
noncomputable def FX12_shoredBy_j33 (I : tq_PI) (L : tq_PL) (a0 : Nat) (a1 : Int32) (a2 : Int32) (a3 : Int32) : Option (Int32 × tq_PI) :=
  (if a1 ≤ 0 then (FX12_shoredBy_j44 I L a0 a1 a2 a3) else (if 0 ≤ a2 ∧ a2 < 192 then (FX12_shoredBy_j44 ((tq_up2 I (tq_rg a0 15) a2.toNatClampNeg (4 : Int32))) L a0 a1 a2 a3) else none))
noncomputable def FX12_shoredBy_j31 (I : tq_PI) (L : tq_PL)  : Option (Int32 × tq_PI) :=
  some ((-1 : Int32), I)
noncomputable def FX12_shoredBy_j17 (I : tq_PI) (L : tq_PL) (a0 : Nat) (a1 : Int32) (a2 : Int32) (a3 : Int32) : Option (Int32 × tq_PI) :=
  (if a1 ≤ (1 : Int32) then (FX12_shoredBy_j33 I L a0 a1 a2 a3) else ((FX12_kindOf I L a0 ((0 : Int32)) a3).bind fun p16 => (if p16 = 0 then (FX12_shoredBy_j33 I L a0 a1 a2 a3) else (FX12_shoredBy_j31 I L ))))
noncomputable def FX12_shoredBy (I : tq_PI) (L : tq_PL) (a0 : Nat) (a1 : Int32) (a2 : Int32) (a3 : Int32) : Option (Int32 × tq_PI) :=
  ((FX12_asTold I L a0).bind fun p1 => (if a1 ≤ 0 then (FX12_shoredBy_j17 p1 L a0 a1 a2 a3) else ((FX12_kindOf p1 L a0 ((0 : Int32)) a2).bind fun p18 => (if p18 = 0 then (FX12_shoredBy_j17 p1 L a0 a1 a2 a3) else (FX12_shoredBy_j31 p1 L )))))
set_option maxRecDepth 100000 in
set_option maxHeartbeats 4000000 in
theorem FX12_shoredBy_j85_x {S : Nat × (Nat → Int32)} {d : Nat} {I : tq_PI} {L : tq_PL} {a0 : Nat} (h0 : tq_sh0 a0 = 12) {q0 : Option Value → tq_PI → tq_PL → Prop} {out : Int32 × tq_PI} (hf : FX12_shoredBy_j85 I L a0 = some out) (hk : q0 (some (.int out.1)) out.2 L) : tq_X S mX12_shoredBy (d + 6) tq_k0 85 ([.ref a0, tq_u, tq_u, tq_u]) ([]) (tq_st I L) (tq_Q q0) := by
  unfold FX12_shoredBy_j85 at hf
  refine tq_aload_n rX12_shoredBy_85 rfl ?_
  refine tq_iconst (0 : Int32) rX12_shoredBy_86 (by decide) ?_
  obtain ⟨p8, e8, hf⟩ := Option.bind_eq_some_iff.mp hf
  refine ty_callVI p8.1 ([.int (0 : Int32)]) ([]) rX12_shoredBy_87 l_X12_307 moX12_safeOf mvX12_safeOf h0 rfl rfl (Nat.le_of_ble_eq_true rfl) ⟨rfl, rfl⟩ (CX12_safeOf h0 e8) ?_
  refine tq_aload_n rX12_shoredBy_90 rfl ?_
  refine tq_iconst (1 : Int32) rX12_shoredBy_91 (by decide) ?_
  obtain ⟨p9, e9, hf⟩ := Option.bind_eq_some_iff.mp hf
  refine ty_callVI p9.1 ([.int (1 : Int32)]) ([.int p8.1]) rX12_shoredBy_92 l_X12_307 moX12_safeOf mvX12_safeOf h0 rfl rfl (Nat.le_of_ble_eq_true rfl) ⟨rfl, rfl⟩ (CX12_safeOf h0 e9) ?_
  refine tq_iadd rX12_shoredBy_95 ?_
  refine ty_iret rX12_shoredBy_96 rfl rfl ?_
  have hf := Option.some.inj hf
  subst hf
  exact hk

set_option maxRecDepth 100000 in
set_option maxHeartbeats 4000000 in
theorem FX12_shoredBy_j83_x {S : Nat × (Nat → Int32)} {d : Nat} {I : tq_PI} {L : tq_PL}   {q0 : Option Value → tq_PI → tq_PL → Prop} {out : Int32 × tq_PI} (hf : FX12_shoredBy_j83 I L = some out) (hk : q0 (some (.int out.1)) out.2 L) : tq_X S mX12_shoredBy (d + 6) tq_k0 83 ([tq_u, tq_u, tq_u, tq_u]) ([]) (tq_st I L) (tq_Q q0) := by
  unfold FX12_shoredBy_j83 at hf
  refine tq_iconst (-1 : Int32) rX12_shoredBy_83 (by decide) ?_
  refine ty_iret rX12_shoredBy_84 rfl rfl ?_
  have hf := Option.some.inj hf
  subst hf
  exact hk

set_option maxRecDepth 100000 in
set_option maxHeartbeats 4000000 in
theorem FX12_shoredBy_j69_x {S : Nat × (Nat → Int32)} {d : Nat} {I : tq_PI} {L : tq_PL} {a0 : Nat} {a1 : Int32} {a3 : Int32} (h0 : tq_sh0 a0 = 12) {q0 : Option Value → tq_PI → tq_PL → Prop} {out : Int32 × tq_PI} (hf : FX12_shoredBy_j69 I L a0 a1 a3 = some out) (hk : q0 (some (.int out.1)) out.2 L) : tq_X S mX12_shoredBy (d + 6) tq_k0 69 ([.ref a0, .int a1, tq_u, .int a3]) ([]) (tq_st I L) (tq_Q q0) := by
  unfold FX12_shoredBy_j69 at hf
  refine tq_iload_n rX12_shoredBy_69 rfl ?_
  refine tq_iconst (1 : Int32) rX12_shoredBy_70 (by decide) ?_
  refine tq_icmp_le rX12_shoredBy_71 (fun c7 => ?_) (fun c7 => ?_)
  · rw [if_pos c7] at hf
    exact tq_forget _ (tq_le_s (tq_le_u (tq_le_u (tq_le_u tq_le_n)))) (FX12_shoredBy_j85_x  h0 hf hk)
  · rw [if_neg c7] at hf
    refine tq_aload_n rX12_shoredBy_74 rfl ?_
    refine tq_iconst (0 : Int32) rX12_shoredBy_75 (by decide) ?_
    refine tq_iload_n rX12_shoredBy_76 rfl ?_
    obtain ⟨p10, e10, hf⟩ := Option.bind_eq_some_iff.mp hf
    refine ty_callVI (tq_b p10) ([.int (0 : Int32), .int a3]) ([]) rX12_shoredBy_77 l_X12_196 moX12_stands mvX12_stands h0 rfl rfl (Nat.le_of_ble_eq_true rfl) ⟨rfl, rfl⟩ (CX12_stands h0 e10) ?_
    refine tq_if_ne rX12_shoredBy_80 (fun c11 => ?_) (fun c11 => ?_)
    · rw [if_neg c11] at hf
      exact tq_forget _ (tq_le_s (tq_le_u (tq_le_u (tq_le_u tq_le_n)))) (FX12_shoredBy_j85_x  h0 hf hk)
    · rw [if_pos c11] at hf
      exact tq_forget _ (tq_le_u (tq_le_u (tq_le_u (tq_le_u tq_le_n)))) (FX12_shoredBy_j83_x   hf hk)

set_option maxRecDepth 100000 in
set_option maxHeartbeats 4000000 in
theorem FX12_shoredBy_j56_x {S : Nat × (Nat → Int32)} {d : Nat} {I : tq_PI} {L : tq_PL} {a0 : Nat} {a1 : Int32} {a2 : Int32} {a3 : Int32} (h0 : tq_sh0 a0 = 12) {q0 : Option Value → tq_PI → tq_PL → Prop} {out : Int32 × tq_PI} (hf : FX12_shoredBy_j56 I L a0 a1 a2 a3 = some out) (hk : q0 (some (.int out.1)) out.2 L) : tq_X S mX12_shoredBy (d + 6) tq_k0 56 ([.ref a0, .int a1, .int a2, .int a3]) ([]) (tq_st I L) (tq_Q q0) := by
  unfold FX12_shoredBy_j56 at hf
  refine tq_iload_n rX12_shoredBy_56 rfl ?_
  refine tq_if_le rX12_shoredBy_57 (fun c6 => ?_) (fun c6 => ?_)
  · rw [if_pos c6] at hf
    exact tq_forget _ (tq_le_s (tq_le_s (tq_le_u (tq_le_s tq_le_n)))) (FX12_shoredBy_j69_x  h0 hf hk)
  · rw [if_neg c6] at hf
    refine tq_aload_n rX12_shoredBy_60 rfl ?_
    refine tq_iconst (0 : Int32) rX12_shoredBy_61 (by decide) ?_
    refine tq_iload_n rX12_shoredBy_62 rfl ?_
    obtain ⟨p12, e12, hf⟩ := Option.bind_eq_some_iff.mp hf
    refine ty_callVI (tq_b p12) ([.int (0 : Int32), .int a2]) ([]) rX12_shoredBy_63 l_X12_196 moX12_stands mvX12_stands h0 rfl rfl (Nat.le_of_ble_eq_true rfl) ⟨rfl, rfl⟩ (CX12_stands h0 e12) ?_
    refine tq_if_eq rX12_shoredBy_66 (fun c13 => ?_) (fun c13 => ?_)
    · rw [if_pos c13] at hf
      exact tq_forget _ (tq_le_u (tq_le_u (tq_le_u (tq_le_u tq_le_n)))) (FX12_shoredBy_j83_x   hf hk)
    · rw [if_neg c13] at hf
      exact tq_forget _ (tq_le_s (tq_le_s (tq_le_u (tq_le_s tq_le_n)))) (FX12_shoredBy_j69_x  h0 hf hk)

set_option maxRecDepth 100000 in
set_option maxHeartbeats 4000000 in
theorem FX12_shoredBy_j44_x {S : Nat × (Nat → Int32)} {d : Nat} {I : tq_PI} {L : tq_PL} {a0 : Nat} {a1 : Int32} {a2 : Int32} {a3 : Int32} (h0 : tq_sh0 a0 = 12) {q0 : Option Value → tq_PI → tq_PL → Prop} {out : Int32 × tq_PI} (hf : FX12_shoredBy_j44 I L a0 a1 a2 a3 = some out) (hk : q0 (some (.int out.1)) out.2 L) : tq_X S mX12_shoredBy (d + 6) tq_k0 44 ([.ref a0, .int a1, .int a2, .int a3]) ([]) (tq_st I L) (tq_Q q0) := by
  unfold FX12_shoredBy_j44 at hf
  refine tq_iload_n rX12_shoredBy_44 rfl ?_
  refine tq_iconst (1 : Int32) rX12_shoredBy_45 (by decide) ?_
  refine tq_icmp_le rX12_shoredBy_46 (fun c5 => ?_) (fun c5 => ?_)
  · rw [if_pos c5] at hf
    exact tq_forget _ (tq_le_s (tq_le_s (tq_le_s (tq_le_s tq_le_n)))) (FX12_shoredBy_j56_x  h0 hf hk)
  · rw [if_neg c5] at hf
    refine tq_aload_n rX12_shoredBy_49 rfl ?_
    refine ty_getR rX12_shoredBy_50 f_X12_20 rfl h0 (hp_12_15 h0).1 ?_
    refine tq_iload_n rX12_shoredBy_53 rfl ?_
    refine tq_iconst (4 : Int32) rX12_shoredBy_54 (by decide) ?_
    obtain ⟨g14, hf⟩ := tq_chk hf
    refine ty_iast (v := 192) rX12_shoredBy_55 (hp_12_15 h0).2.1 (hp_12_15 h0).2.2 rfl (by decide) g14 ?_
    exact tq_forget _ (tq_le_s (tq_le_s (tq_le_s (tq_le_s tq_le_n)))) (FX12_shoredBy_j56_x  h0 hf hk)

set_option maxRecDepth 100000 in
set_option maxHeartbeats 4000000 in
theorem FX12_shoredBy_j33_x {S : Nat × (Nat → Int32)} {d : Nat} {I : tq_PI} {L : tq_PL} {a0 : Nat} {a1 : Int32} {a2 : Int32} {a3 : Int32} (h0 : tq_sh0 a0 = 12) {q0 : Option Value → tq_PI → tq_PL → Prop} {out : Int32 × tq_PI} (hf : FX12_shoredBy_j33 I L a0 a1 a2 a3 = some out) (hk : q0 (some (.int out.1)) out.2 L) : tq_X S mX12_shoredBy (d + 6) tq_k0 33 ([.ref a0, .int a1, .int a2, .int a3]) ([]) (tq_st I L) (tq_Q q0) := by
  unfold FX12_shoredBy_j33 at hf
  refine tq_iload_n rX12_shoredBy_33 rfl ?_
  refine tq_if_le rX12_shoredBy_34 (fun c4 => ?_) (fun c4 => ?_)
  · rw [if_pos c4] at hf
    exact tq_forget _ (tq_le_s (tq_le_s (tq_le_s (tq_le_s tq_le_n)))) (FX12_shoredBy_j44_x  h0 hf hk)
  · rw [if_neg c4] at hf
    refine tq_aload_n rX12_shoredBy_37 rfl ?_
    refine ty_getR rX12_shoredBy_38 f_X12_20 rfl h0 (hp_12_15 h0).1 ?_
    refine tq_iload_n rX12_shoredBy_41 rfl ?_
    refine tq_iconst (4 : Int32) rX12_shoredBy_42 (by decide) ?_
    obtain ⟨g15, hf⟩ := tq_chk hf
    refine ty_iast (v := 192) rX12_shoredBy_43 (hp_12_15 h0).2.1 (hp_12_15 h0).2.2 rfl (by decide) g15 ?_
    exact tq_forget _ (tq_le_s (tq_le_s (tq_le_s (tq_le_s tq_le_n)))) (FX12_shoredBy_j44_x  h0 hf hk)

set_option maxRecDepth 100000 in
set_option maxHeartbeats 4000000 in
theorem FX12_shoredBy_j31_x {S : Nat × (Nat → Int32)} {d : Nat} {I : tq_PI} {L : tq_PL}   {q0 : Option Value → tq_PI → tq_PL → Prop} {out : Int32 × tq_PI} (hf : FX12_shoredBy_j31 I L = some out) (hk : q0 (some (.int out.1)) out.2 L) : tq_X S mX12_shoredBy (d + 6) tq_k0 31 ([tq_u, tq_u, tq_u, tq_u]) ([]) (tq_st I L) (tq_Q q0) := by
  unfold FX12_shoredBy_j31 at hf
  refine tq_iconst (-1 : Int32) rX12_shoredBy_31 (by decide) ?_
  refine ty_iret rX12_shoredBy_32 rfl rfl ?_
  have hf := Option.some.inj hf
  subst hf
  exact hk

set_option maxRecDepth 100000 in
set_option maxHeartbeats 4000000 in
theorem FX12_shoredBy_j17_x {S : Nat × (Nat → Int32)} {d : Nat} {I : tq_PI} {L : tq_PL} {a0 : Nat} {a1 : Int32} {a2 : Int32} {a3 : Int32} (h0 : tq_sh0 a0 = 12) {q0 : Option Value → tq_PI → tq_PL → Prop} {out : Int32 × tq_PI} (hf : FX12_shoredBy_j17 I L a0 a1 a2 a3 = some out) (hk : q0 (some (.int out.1)) out.2 L) : tq_X S mX12_shoredBy (d + 6) tq_k0 17 ([.ref a0, .int a1, .int a2, .int a3]) ([]) (tq_st I L) (tq_Q q0) := by
  unfold FX12_shoredBy_j17 at hf
  refine tq_iload_n rX12_shoredBy_17 rfl ?_
  refine tq_iconst (1 : Int32) rX12_shoredBy_18 (by decide) ?_
  refine tq_icmp_le rX12_shoredBy_19 (fun c3 => ?_) (fun c3 => ?_)
  · rw [if_pos c3] at hf
    exact tq_forget _ (tq_le_s (tq_le_s (tq_le_s (tq_le_s tq_le_n)))) (FX12_shoredBy_j33_x  h0 hf hk)
  · rw [if_neg c3] at hf
    refine tq_aload_n rX12_shoredBy_22 rfl ?_
    refine tq_iconst (0 : Int32) rX12_shoredBy_23 (by decide) ?_
    refine tq_iload_n rX12_shoredBy_24 rfl ?_
    obtain ⟨p16, e16, hf⟩ := Option.bind_eq_some_iff.mp hf
    refine ty_callVI p16 ([.int (0 : Int32), .int a3]) ([]) rX12_shoredBy_25 l_X12_193 moX12_kindOf mvX12_kindOf h0 rfl rfl (Nat.le_of_ble_eq_true rfl) ⟨rfl, rfl⟩ (CX12_kindOf h0 e16) ?_
    refine tq_if_eq rX12_shoredBy_28 (fun c17 => ?_) (fun c17 => ?_)
    · rw [if_pos c17] at hf
      exact tq_forget _ (tq_le_s (tq_le_s (tq_le_s (tq_le_s tq_le_n)))) (FX12_shoredBy_j33_x  h0 hf hk)
    · rw [if_neg c17] at hf
      exact tq_forget _ (tq_le_u (tq_le_u (tq_le_u (tq_le_u tq_le_n)))) (FX12_shoredBy_j31_x   hf hk)

set_option maxRecDepth 100000 in
set_option maxHeartbeats 4000000 in
theorem CX12_shoredBy {S : Nat × (Nat → Int32)} {d : Nat} {I : tq_PI} {L : tq_PL} {a0 : Nat} {a1 : Int32} {a2 : Int32} {a3 : Int32} (h0 : tq_sh0 a0 = 12) {out : Int32 × tq_PI} (hf : FX12_shoredBy I L a0 a1 a2 a3 = some out) : tq_K S mX12_shoredBy (d + 6) [.ref a0, .int a1, .int a2, .int a3] I L (tq_one2 (some (.int out.1)) out.2 L) := by
  unfold FX12_shoredBy at hf
  refine tq_K_of (by decide) (Nat.le_of_ble_eq_true rfl) (ls := [.ref a0, .int a1, .int a2, .int a3]) rfl ?_
  refine tq_aload_n rX12_shoredBy_0 rfl ?_
  obtain ⟨p1, e1, hf⟩ := Option.bind_eq_some_iff.mp hf
  refine ty_callVV ([]) ([]) rX12_shoredBy_1 l_X12_224 moX12_asTold mvX12_asTold h0 rfl rfl (Nat.le_of_ble_eq_true rfl) ⟨rfl, rfl⟩ (CX12_asTold h0 e1) ?_
  refine tq_iload_n rX12_shoredBy_4 rfl ?_
  refine tq_if_le rX12_shoredBy_5 (fun c2 => ?_) (fun c2 => ?_)
  · rw [if_pos c2] at hf
    exact tq_forget _ (tq_le_s (tq_le_s (tq_le_s (tq_le_s tq_le_n)))) (FX12_shoredBy_j17_x  h0 hf ⟨rfl, rfl, rfl⟩)
  · rw [if_neg c2] at hf
    refine tq_aload_n rX12_shoredBy_8 rfl ?_
    refine tq_iconst (0 : Int32) rX12_shoredBy_9 (by decide) ?_
    refine tq_iload_n rX12_shoredBy_10 rfl ?_
    obtain ⟨p18, e18, hf⟩ := Option.bind_eq_some_iff.mp hf
    refine ty_callVI p18 ([.int (0 : Int32), .int a2]) ([]) rX12_shoredBy_11 l_X12_193 moX12_kindOf mvX12_kindOf h0 rfl rfl (Nat.le_of_ble_eq_true rfl) ⟨rfl, rfl⟩ (CX12_kindOf h0 e18) ?_
    refine tq_if_ne rX12_shoredBy_14 (fun c19 => ?_) (fun c19 => ?_)
    · rw [if_neg c19] at hf
      exact tq_forget _ (tq_le_u (tq_le_u (tq_le_u (tq_le_u tq_le_n)))) (FX12_shoredBy_j31_x   hf ⟨rfl, rfl, rfl⟩)
    · rw [if_pos c19] at hf
      exact tq_forget _ (tq_le_s (tq_le_s (tq_le_s (tq_le_s tq_le_n)))) (FX12_shoredBy_j17_x  h0 hf ⟨rfl, rfl, rfl⟩)

abbrev mX12_shored : tq_M := (yX12_shored, cX12_shored, 8, (Option.some Jvm.ClassFile.FieldType.int), 0, 0)
theorem moX12_shoredBy : tq_mok mX12_shoredBy 3 := ⟨tq_sg1 _ (List.mem_of_getElem? (i := 13) rfl), tq_sg8 _ (List.mem_of_getElem? (i := 14) rfl), ⟨by decide, by decide, by decide +kernel⟩, by decide⟩
theorem mvX12_shoredBy : 12 < 13 ∧ (tq_cl 12).1 = mX12_shoredBy.1.cls ∧ Cond.instanceMethod mX12_shoredBy.1 ∈ lw_tbl ∧ Cond.selects mX12_shoredBy.1.cls mX12_shoredBy.1 mX12_shoredBy.1 ∈ lw_tbl := ⟨by decide, rfl, tq_sg8 _ (List.mem_of_getElem? (i := 13) rfl), List.mem_append_left _ (List.mem_map.mpr ⟨_, List.mem_of_getElem? (i := 87) rfl, rfl⟩)⟩
theorem f_X12_38 : tq_fok RX12 38 12 25 := ⟨by decide, by decide, Or.inl (tq_sg6 _ (List.mem_of_getElem? (i := 98) rfl))⟩
theorem l_X12_310 : tq_lok RX12 310 mX12_shoredBy.1 := Or.inl (tq_sg8 _ (List.mem_of_getElem? (i := 11) rfl))
theorem rX12_shored_0 : tq_D cX12_shored 0 (.aload_n 0) 1 1 := ⟨by decide +kernel, rfl⟩
theorem rX12_shored_1 : tq_D cX12_shored 1 (.iload_n 1) 1 2 := ⟨by decide +kernel, rfl⟩
theorem rX12_shored_2 : tq_D cX12_shored 2 (.invokevirtual 221) 3 5 := ⟨by decide +kernel, rfl⟩
theorem rX12_shored_5 : tq_J cX12_shored 5 (.ifCond .eq) 28 8 := ⟨23, by decide +kernel, by decide, rfl⟩
theorem rX12_shored_8 : tq_D cX12_shored 8 (.iload_n 2) 1 9 := ⟨by decide +kernel, rfl⟩
theorem rX12_shored_9 : tq_D cX12_shored 9 (.iconst 0) 1 10 := ⟨by decide +kernel, rfl⟩
theorem rX12_shored_10 : tq_D cX12_shored 10 (.iconst 2) 1 11 := ⟨by decide +kernel, rfl⟩
theorem rX12_shored_11 : tq_D cX12_shored 11 (.invokestatic 118) 3 14 := ⟨by decide +kernel, rfl⟩
theorem rX12_shored_14 : tq_J cX12_shored 14 (.ifCond .eq) 28 17 := ⟨14, by decide +kernel, by decide, rfl⟩
theorem rX12_shored_17 : tq_D cX12_shored 17 (.iload_n 3) 1 18 := ⟨by decide +kernel, rfl⟩
theorem rX12_shored_18 : tq_D cX12_shored 18 (.iconst (-1)) 1 19 := ⟨by decide +kernel, rfl⟩
theorem rX12_shored_19 : tq_D cX12_shored 19 (.iload_n 2) 1 20 := ⟨by decide +kernel, rfl⟩
theorem rX12_shored_20 : tq_D cX12_shored 20 (.iconst 1) 1 21 := ⟨by decide +kernel, rfl⟩
theorem rX12_shored_21 : tq_D cX12_shored 21 (.isub) 1 22 := ⟨by decide +kernel, rfl⟩
theorem rX12_shored_22 : tq_D cX12_shored 22 (.invokestatic 118) 3 25 := ⟨by decide +kernel, rfl⟩
theorem rX12_shored_25 : tq_J cX12_shored 25 (.ifCond .ne) 30 28 := ⟨5, by decide +kernel, by decide, rfl⟩
theorem rX12_shored_28 : tq_D cX12_shored 28 (.iconst (-1)) 1 29 := ⟨by decide +kernel, rfl⟩
theorem rX12_shored_29 : decode cX12_shored 29 = .ok (.ireturn, 1) := by decide +kernel
theorem rX12_shored_30 : tq_D cX12_shored 30 (.iconst (-1)) 1 31 := ⟨by decide +kernel, rfl⟩
theorem rX12_shored_31 : tq_D cX12_shored 31 (.istore 4) 2 33 := ⟨by decide +kernel, rfl⟩
theorem rX12_shored_33 : tq_D cX12_shored 33 (.iconst 0) 1 34 := ⟨by decide +kernel, rfl⟩
theorem rX12_shored_34 : tq_D cX12_shored 34 (.istore 5) 2 36 := ⟨by decide +kernel, rfl⟩
theorem rX12_shored_36 : tq_D cX12_shored 36 (.iload 5) 2 38 := ⟨by decide +kernel, rfl⟩
theorem rX12_shored_38 : tq_D cX12_shored 38 (.iload_n 2) 1 39 := ⟨by decide +kernel, rfl⟩
theorem rX12_shored_39 : tq_J cX12_shored 39 (.ifCond .le) 49 42 := ⟨10, by decide +kernel, by decide, rfl⟩
theorem rX12_shored_42 : tq_D cX12_shored 42 (.aload_n 0) 1 43 := ⟨by decide +kernel, rfl⟩
theorem rX12_shored_43 : tq_D cX12_shored 43 (.invokevirtual 190) 3 46 := ⟨by decide +kernel, rfl⟩
theorem rX12_shored_46 : tq_J cX12_shored 46 .goto 50 49 := ⟨4, by decide +kernel, by decide, rfl⟩
theorem rX12_shored_49 : tq_D cX12_shored 49 (.iconst 1) 1 50 := ⟨by decide +kernel, rfl⟩
theorem rX12_shored_50 : tq_J cX12_shored 50 (.if_icmp .ge) 139 53 := ⟨89, by decide +kernel, by decide, rfl⟩
theorem rX12_shored_53 : tq_D cX12_shored 53 (.iload_n 2) 1 54 := ⟨by decide +kernel, rfl⟩
theorem rX12_shored_54 : tq_D cX12_shored 54 (.iconst 1) 1 55 := ⟨by decide +kernel, rfl⟩
theorem rX12_shored_55 : tq_J cX12_shored 55 (.if_icmp .le) 65 58 := ⟨10, by decide +kernel, by decide, rfl⟩
theorem rX12_shored_58 : tq_D cX12_shored 58 (.iload 5) 2 60 := ⟨by decide +kernel, rfl⟩
theorem rX12_shored_60 : tq_D cX12_shored 60 (.iconst 1) 1 61 := ⟨by decide +kernel, rfl⟩
theorem rX12_shored_61 : tq_D cX12_shored 61 (.iadd) 1 62 := ⟨by decide +kernel, rfl⟩
theorem rX12_shored_62 : tq_J cX12_shored 62 .goto 66 65 := ⟨4, by decide +kernel, by decide, rfl⟩
theorem rX12_shored_65 : tq_D cX12_shored 65 (.iconst 0) 1 66 := ⟨by decide +kernel, rfl⟩
theorem rX12_shored_66 : tq_D cX12_shored 66 (.istore 6) 2 68 := ⟨by decide +kernel, rfl⟩
theorem rX12_shored_68 : tq_D cX12_shored 68 (.iload 6) 2 70 := ⟨by decide +kernel, rfl⟩
theorem rX12_shored_70 : tq_D cX12_shored 70 (.iload_n 2) 1 71 := ⟨by decide +kernel, rfl⟩
theorem rX12_shored_71 : tq_D cX12_shored 71 (.iconst 1) 1 72 := ⟨by decide +kernel, rfl⟩
theorem rX12_shored_72 : tq_J cX12_shored 72 (.if_icmp .le) 82 75 := ⟨10, by decide +kernel, by decide, rfl⟩
theorem rX12_shored_75 : tq_D cX12_shored 75 (.aload_n 0) 1 76 := ⟨by decide +kernel, rfl⟩
theorem rX12_shored_76 : tq_D cX12_shored 76 (.invokevirtual 190) 3 79 := ⟨by decide +kernel, rfl⟩
theorem rX12_shored_79 : tq_J cX12_shored 79 .goto 83 82 := ⟨4, by decide +kernel, by decide, rfl⟩
theorem rX12_shored_82 : tq_D cX12_shored 82 (.iconst 1) 1 83 := ⟨by decide +kernel, rfl⟩
theorem rX12_shored_83 : tq_J cX12_shored 83 (.if_icmp .ge) 133 86 := ⟨50, by decide +kernel, by decide, rfl⟩
theorem rX12_shored_86 : tq_D cX12_shored 86 (.aload_n 0) 1 87 := ⟨by decide +kernel, rfl⟩
theorem rX12_shored_87 : tq_D cX12_shored 87 (.iload_n 2) 1 88 := ⟨by decide +kernel, rfl⟩
theorem rX12_shored_88 : tq_D cX12_shored 88 (.iload 5) 2 90 := ⟨by decide +kernel, rfl⟩
theorem rX12_shored_90 : tq_D cX12_shored 90 (.iload 6) 2 92 := ⟨by decide +kernel, rfl⟩
theorem rX12_shored_92 : tq_D cX12_shored 92 (.invokevirtual 310) 3 95 := ⟨by decide +kernel, rfl⟩
theorem rX12_shored_95 : tq_D cX12_shored 95 (.istore 7) 2 97 := ⟨by decide +kernel, rfl⟩
theorem rX12_shored_97 : tq_D cX12_shored 97 (.iload 7) 2 99 := ⟨by decide +kernel, rfl⟩
theorem rX12_shored_99 : tq_D cX12_shored 99 (.iload 4) 2 101 := ⟨by decide +kernel, rfl⟩
theorem rX12_shored_101 : tq_J cX12_shored 101 (.if_icmp .gt) 107 104 := ⟨6, by decide +kernel, by decide, rfl⟩
theorem rX12_shored_104 : tq_J cX12_shored 104 .goto 127 107 := ⟨23, by decide +kernel, by decide, rfl⟩
theorem rX12_shored_107 : tq_D cX12_shored 107 (.iload 7) 2 109 := ⟨by decide +kernel, rfl⟩
theorem rX12_shored_109 : tq_D cX12_shored 109 (.istore 4) 2 111 := ⟨by decide +kernel, rfl⟩
theorem rX12_shored_111 : tq_D cX12_shored 111 (.aload_n 0) 1 112 := ⟨by decide +kernel, rfl⟩
theorem rX12_shored_112 : tq_D cX12_shored 112 (.getfield 38) 3 115 := ⟨by decide +kernel, rfl⟩
theorem rX12_shored_115 : tq_D cX12_shored 115 (.iconst 0) 1 116 := ⟨by decide +kernel, rfl⟩
theorem rX12_shored_116 : tq_D cX12_shored 116 (.iload 5) 2 118 := ⟨by decide +kernel, rfl⟩
theorem rX12_shored_118 : tq_D cX12_shored 118 (.iastore) 1 119 := ⟨by decide +kernel, rfl⟩
theorem rX12_shored_119 : tq_D cX12_shored 119 (.aload_n 0) 1 120 := ⟨by decide +kernel, rfl⟩
theorem rX12_shored_120 : tq_D cX12_shored 120 (.getfield 38) 3 123 := ⟨by decide +kernel, rfl⟩
theorem rX12_shored_123 : tq_D cX12_shored 123 (.iconst 1) 1 124 := ⟨by decide +kernel, rfl⟩
theorem rX12_shored_124 : tq_D cX12_shored 124 (.iload 6) 2 126 := ⟨by decide +kernel, rfl⟩
theorem rX12_shored_126 : tq_D cX12_shored 126 (.iastore) 1 127 := ⟨by decide +kernel, rfl⟩
theorem rX12_shored_127 : tq_D cX12_shored 127 (.iinc 6 1) 3 130 := ⟨by decide +kernel, rfl⟩
theorem rX12_shored_130 : tq_J cX12_shored 130 .goto 68 133 := ⟨(-62), by decide +kernel, by decide, rfl⟩
theorem rX12_shored_133 : tq_D cX12_shored 133 (.iinc 5 1) 3 136 := ⟨by decide +kernel, rfl⟩
theorem rX12_shored_136 : tq_J cX12_shored 136 .goto 36 139 := ⟨(-100), by decide +kernel, by decide, rfl⟩
theorem rX12_shored_139 : tq_D cX12_shored 139 (.iload 4) 2 141 := ⟨by decide +kernel, rfl⟩
theorem rX12_shored_141 : tq_D cX12_shored 141 (.iconst (-1)) 1 142 := ⟨by decide +kernel, rfl⟩
theorem rX12_shored_142 : tq_J cX12_shored 142 (.if_icmp .eq) 150 145 := ⟨8, by decide +kernel, by decide, rfl⟩
theorem rX12_shored_145 : tq_D cX12_shored 145 (.iload_n 3) 1 146 := ⟨by decide +kernel, rfl⟩
theorem rX12_shored_146 : tq_D cX12_shored 146 (.iconst (-1)) 1 147 := ⟨by decide +kernel, rfl⟩
theorem rX12_shored_147 : tq_J cX12_shored 147 (.if_icmp .ne) 155 150 := ⟨8, by decide +kernel, by decide, rfl⟩
theorem rX12_shored_150 : tq_D cX12_shored 150 (.iload 4) 2 152 := ⟨by decide +kernel, rfl⟩
theorem rX12_shored_152 : tq_J cX12_shored 152 .goto 161 155 := ⟨9, by decide +kernel, by decide, rfl⟩
theorem rX12_shored_155 : tq_D cX12_shored 155 (.aload_n 0) 1 156 := ⟨by decide +kernel, rfl⟩
theorem rX12_shored_156 : tq_D cX12_shored 156 (.getfield 38) 3 159 := ⟨by decide +kernel, rfl⟩
theorem rX12_shored_159 : tq_D cX12_shored 159 (.iload_n 3) 1 160 := ⟨by decide +kernel, rfl⟩
theorem rX12_shored_160 : tq_D cX12_shored 160 (.iaload) 1 161 := ⟨by decide +kernel, rfl⟩
theorem rX12_shored_161 : decode cX12_shored 161 = .ok (.ireturn, 1) := by decide +kernel
noncomputable def FX12_shored_j28 (I : tq_PI) (L : tq_PL)  : Option (Int32 × tq_PI) :=
  some ((-1 : Int32), I)
noncomputable def FX12_shored_j127L68 (I : tq_PI) (L : tq_PL) (a0 : Nat) (a2 : Int32) (a3 : Int32) (a4 : Int32) (a5 : Int32) (a6 : Int32) : Option ((Int32 × Int32 × tq_PI) ⊕ (Int32 × tq_PI)) :=
  some (.inl (a4, (a6 + 1), I))
noncomputable def FX12_shored_j83L68 (I : tq_PI) (L : tq_PL) (a0 : Nat) (a2 : Int32) (a3 : Int32) (a4 : Int32) (a5 : Int32) (a6 : Int32) (b0 : Int32) (b1 : Int32) : Option ((Int32 × Int32 × tq_PI) ⊕ (Int32 × tq_PI)) :=
  (if b0 ≤ b1 then some (.inr (a4, I)) else ((FX12_shoredBy I L a0 a2 a5 a6).bind fun p12 => (if a4 < p12.1 then (if 0 ≤ (0 : Int32) ∧ (0 : Int32) < 2 then (if 0 ≤ (1 : Int32) ∧ (1 : Int32) < 2 then (FX12_shored_j127L68 ((tq_up2 (tq_up2 p12.2 (tq_rg a0 25) ((0 : Int32)).toNatClampNeg a5) (tq_rg a0 25) ((1 : Int32)).toNatClampNeg a6)) L a0 a2 a3 p12.1 a5 a6) else none) else none) else (FX12_shored_j127L68 p12.2 L a0 a2 a3 a4 a5 a6))))
noncomputable def FX12_shored_s68 (I : tq_PI) (L : tq_PL) (a0 : Nat) (a2 : Int32) (a3 : Int32) (a5 : Int32) (a4 : Int32) (a6 : Int32) : Option ((Int32 × Int32 × tq_PI) ⊕ (Int32 × tq_PI)) :=
  (if a2 ≤ (1 : Int32) then (FX12_shored_j83L68 I L a0 a2 a3 a4 a5 a6 ((1 : Int32)) a6) else (tq_let (FX12_many I L a0) fun p16 => (FX12_shored_j83L68 I L a0 a2 a3 a4 a5 a6 p16 a6)))
noncomputable def FX12_shored_j66L36 (I : tq_PI) (L : tq_PL) (a0 : Nat) (a2 : Int32) (a3 : Int32) (a4 : Int32) (a5 : Int32) (b0 : Int32) : Option ((Int32 × Int32 × tq_PI) ⊕ (Int32 × tq_PI)) :=
  ((tq_it (fun p : Int32 × Int32 × tq_PI => FX12_shored_s68 p.2.2 L a0 a2 a3 a5 p.1 p.2.1) tq_N (a4, b0, I)).bind fun p17 => some (.inl (p17.1, (a5 + 1), p17.2)))
noncomputable def FX12_shored_j50L36 (I : tq_PI) (L : tq_PL) (a0 : Nat) (a2 : Int32) (a3 : Int32) (a4 : Int32) (a5 : Int32) (b0 : Int32) (b1 : Int32) : Option ((Int32 × Int32 × tq_PI) ⊕ (Int32 × tq_PI)) :=
  (if b0 ≤ b1 then some (.inr (a4, I)) else (if a2 ≤ (1 : Int32) then (FX12_shored_j66L36 I L a0 a2 a3 a4 a5 ((0 : Int32))) else (FX12_shored_j66L36 I L a0 a2 a3 a4 a5 ((a5 + (1 : Int32))))))
noncomputable def FX12_shored_s36 (I : tq_PI) (L : tq_PL) (a0 : Nat) (a2 : Int32) (a3 : Int32) (a4 : Int32) (a5 : Int32) : Option ((Int32 × Int32 × tq_PI) ⊕ (Int32 × tq_PI)) :=
  (if a2 ≤ 0 then (FX12_shored_j50L36 I L a0 a2 a3 a4 a5 ((1 : Int32)) a5) else (tq_let (FX12_many I L a0) fun p18 => (FX12_shored_j50L36 I L a0 a2 a3 a4 a5 p18 a5)))
noncomputable def FX12_shored_j150 (I : tq_PI) (L : tq_PL) (a4 : Int32) : Option (Int32 × tq_PI) :=
  some (a4, I)
noncomputable def FX12_shored (I : tq_PI) (L : tq_PL) (a0 : Nat) (a1 : Int32) (a2 : Int32) (a3 : Int32) : Option (Int32 × tq_PI) :=
  ((FX12_isHill I L a0 a1).bind fun p1 => (if (tq_b p1.1) = 0 then (FX12_shored_j28 p1.2 L ) else (tq_let (FX12_isIn p1.2 L a2 ((0 : Int32)) ((2 : Int32))) fun p3 => (if (tq_b p3) = 0 then (FX12_shored_j28 p1.2 L ) else (tq_let (FX12_isIn p1.2 L a3 ((-1 : Int32)) ((a2 - (1 : Int32)))) fun p5 => (if (tq_b p5) = 0 then (FX12_shored_j28 p1.2 L ) else ((tq_it (fun p : Int32 × Int32 × tq_PI => FX12_shored_s36 p.2.2 L a0 a2 a3 p.1 p.2.1) tq_N ((-1 : Int32), (0 : Int32), p1.2)).bind fun p19 => (if p19.1 = (-1 : Int32) then (FX12_shored_j150 p19.2 L p19.1) else (if a3 = (-1 : Int32) then (FX12_shored_j150 p19.2 L p19.1) else (if 0 ≤ a3 ∧ a3 < 2 then some ((p19.2 (tq_rg a0 25) a3.toNatClampNeg), p19.2) else none))))))))))
set_option maxRecDepth 100000 in
set_option maxHeartbeats 4000000 in
theorem FX12_shored_j28_x {S : Nat × (Nat → Int32)} {d : Nat} {I : tq_PI} {L : tq_PL}   {q0 : Option Value → tq_PI → tq_PL → Prop} {out : Int32 × tq_PI} (hf : FX12_shored_j28 I L = some out) (hk : q0 (some (.int out.1)) out.2 L) : tq_X S mX12_shored (d + 7) tq_k0 28 ([tq_u, tq_u, tq_u, tq_u, tq_u, tq_u, tq_u, tq_u]) ([]) (tq_st I L) (tq_Q q0) := by
  unfold FX12_shored_j28 at hf
  refine tq_iconst (-1 : Int32) rX12_shored_28 (by decide) ?_
  refine ty_iret rX12_shored_29 rfl rfl ?_
  have hf := Option.some.inj hf
  subst hf
  exact hk

set_option maxRecDepth 100000 in
set_option maxHeartbeats 4000000 in
theorem FX12_shored_j127L68_x {S : Nat × (Nat → Int32)} {d : Nat} {I : tq_PI} {L : tq_PL} {a0 : Nat} {a2 : Int32} {a3 : Int32} {a4 : Int32} {a5 : Int32} {a6 : Int32} (h0 : tq_sh0 a0 = 12) {q0 : Option Value → tq_PI → tq_PL → Prop} {out : (Int32 × Int32 × tq_PI) ⊕ (Int32 × tq_PI)} (hf : FX12_shored_j127L68 I L a0 a2 a3 a4 a5 a6 = some out) (hk : Sum.elim (fun p : Int32 × Int32 × tq_PI => tq_X S mX12_shored (d + 7) tq_k0 68 ([.ref a0, tq_u, .int a2, .int a3, .int p.1, .int a5, .int p.2.1, tq_u]) [] (tq_st p.2.2 L) (tq_Q q0)) (fun p : Int32 × tq_PI => tq_X S mX12_shored (d + 7) tq_k0 133 ([.ref a0, tq_u, .int a2, .int a3, .int p.1, .int a5, tq_u, tq_u]) [] (tq_st p.2 L) (tq_Q q0)) out) : tq_X S mX12_shored (d + 7) tq_k0 127 ([.ref a0, tq_u, .int a2, .int a3, .int a4, .int a5, .int a6, tq_u]) ([]) (tq_st I L) (tq_Q q0) := by
  unfold FX12_shored_j127L68 at hf
  refine tq_iinc (a6 + 1) ([.ref a0, tq_u, .int a2, .int a3, .int a4, .int a5, .int (a6 + 1), tq_u]) rX12_shored_127 rfl (tq_inc (by decide)) (Nat.le_of_ble_eq_true rfl) rfl ?_
  refine tq_goto rX12_shored_130 ?_
  have hf := Option.some.inj hf
  subst hf
  exact tq_forget _ (tq_le_s (tq_le_u (tq_le_s (tq_le_s (tq_le_s (tq_le_s (tq_le_s (tq_le_u tq_le_n)))))))) hk

set_option maxRecDepth 100000 in
set_option maxHeartbeats 4000000 in
theorem FX12_shored_j83L68_x {S : Nat × (Nat → Int32)} {d : Nat} {I : tq_PI} {L : tq_PL} {a0 : Nat} {a2 : Int32} {a3 : Int32} {a4 : Int32} {a5 : Int32} {a6 : Int32} {b0 : Int32} {b1 : Int32} (h0 : tq_sh0 a0 = 12) {q0 : Option Value → tq_PI → tq_PL → Prop} {out : (Int32 × Int32 × tq_PI) ⊕ (Int32 × tq_PI)} (hf : FX12_shored_j83L68 I L a0 a2 a3 a4 a5 a6 b0 b1 = some out) (hk : Sum.elim (fun p : Int32 × Int32 × tq_PI => tq_X S mX12_shored (d + 7) tq_k0 68 ([.ref a0, tq_u, .int a2, .int a3, .int p.1, .int a5, .int p.2.1, tq_u]) [] (tq_st p.2.2 L) (tq_Q q0)) (fun p : Int32 × tq_PI => tq_X S mX12_shored (d + 7) tq_k0 133 ([.ref a0, tq_u, .int a2, .int a3, .int p.1, .int a5, tq_u, tq_u]) [] (tq_st p.2 L) (tq_Q q0)) out) : tq_X S mX12_shored (d + 7) tq_k0 83 ([.ref a0, tq_u, .int a2, .int a3, .int a4, .int a5, .int a6, tq_u]) ([.int b0, .int b1]) (tq_st I L) (tq_Q q0) := by
  unfold FX12_shored_j83L68 at hf
  refine tq_icmp_ge rX12_shored_83 (fun c11 => ?_) (fun c11 => ?_)
  · rw [if_pos c11] at hf
    have hf := Option.some.inj hf
    subst hf
    exact tq_forget _ (tq_le_s (tq_le_u (tq_le_s (tq_le_s (tq_le_s (tq_le_s (tq_le_u (tq_le_u tq_le_n)))))))) hk
  · rw [if_neg c11] at hf
    refine tq_aload_n rX12_shored_86 rfl ?_
    refine tq_iload_n rX12_shored_87 rfl ?_
    refine tq_iload rX12_shored_88 rfl ?_
    refine tq_iload rX12_shored_90 rfl ?_
    obtain ⟨p12, e12, hf⟩ := Option.bind_eq_some_iff.mp hf
    refine ty_callVI p12.1 ([.int a2, .int a5, .int a6]) ([]) rX12_shored_92 l_X12_310 moX12_shoredBy mvX12_shoredBy h0 rfl rfl (Nat.le_of_ble_eq_true rfl) ⟨rfl, rfl⟩ (CX12_shoredBy h0 e12) ?_
    refine tq_istore ([.ref a0, tq_u, .int a2, .int a3, .int a4, .int a5, .int a6, .int p12.1]) rX12_shored_95 (Nat.le_of_ble_eq_true rfl) rfl ?_
    refine tq_iload rX12_shored_97 rfl ?_
    refine tq_iload rX12_shored_99 rfl ?_
    refine tq_icmp_gt rX12_shored_101 (fun c13 => ?_) (fun c13 => ?_)
    · rw [if_pos c13] at hf
      refine tq_iload rX12_shored_107 rfl ?_
      refine tq_istore ([.ref a0, tq_u, .int a2, .int a3, .int p12.1, .int a5, .int a6, .int p12.1]) rX12_shored_109 (Nat.le_of_ble_eq_true rfl) rfl ?_
      refine tq_aload_n rX12_shored_111 rfl ?_
      refine ty_getR rX12_shored_112 f_X12_38 rfl h0 (hp_12_25 h0).1 ?_
      refine tq_iconst (0 : Int32) rX12_shored_115 (by decide) ?_
      refine tq_iload rX12_shored_116 rfl ?_
      obtain ⟨g14, hf⟩ := tq_chk hf
      refine ty_iast (v := 2) rX12_shored_118 (hp_12_25 h0).2.1 (hp_12_25 h0).2.2 rfl (by decide) g14 ?_
      refine tq_aload_n rX12_shored_119 rfl ?_
      refine ty_getR rX12_shored_120 f_X12_38 rfl h0 (hp_12_25 h0).1 ?_
      refine tq_iconst (1 : Int32) rX12_shored_123 (by decide) ?_
      refine tq_iload rX12_shored_124 rfl ?_
      obtain ⟨g15, hf⟩ := tq_chk hf
      refine ty_iast (v := 2) rX12_shored_126 (hp_12_25 h0).2.1 (hp_12_25 h0).2.2 rfl (by decide) g15 ?_
      exact tq_forget _ (tq_le_s (tq_le_u (tq_le_s (tq_le_s (tq_le_s (tq_le_s (tq_le_s (tq_le_u tq_le_n)))))))) (FX12_shored_j127L68_x  h0 hf hk)
    · rw [if_neg c13] at hf
      refine tq_goto rX12_shored_104 ?_
      exact tq_forget _ (tq_le_s (tq_le_u (tq_le_s (tq_le_s (tq_le_s (tq_le_s (tq_le_s (tq_le_u tq_le_n)))))))) (FX12_shored_j127L68_x  h0 hf hk)

set_option maxRecDepth 100000 in
set_option maxHeartbeats 4000000 in
theorem FX12_shored_s68_x {S : Nat × (Nat → Int32)} {d : Nat} {I : tq_PI} {L : tq_PL} {a0 : Nat} {a2 : Int32} {a3 : Int32} {a5 : Int32} {a4 : Int32} {a6 : Int32} (h0 : tq_sh0 a0 = 12) {q0 : Option Value → tq_PI → tq_PL → Prop} {out : (Int32 × Int32 × tq_PI) ⊕ (Int32 × tq_PI)} (hf : FX12_shored_s68 I L a0 a2 a3 a5 a4 a6 = some out) (hk : Sum.elim (fun p : Int32 × Int32 × tq_PI => tq_X S mX12_shored (d + 7) tq_k0 68 ([.ref a0, tq_u, .int a2, .int a3, .int p.1, .int a5, .int p.2.1, tq_u]) [] (tq_st p.2.2 L) (tq_Q q0)) (fun p : Int32 × tq_PI => tq_X S mX12_shored (d + 7) tq_k0 133 ([.ref a0, tq_u, .int a2, .int a3, .int p.1, .int a5, tq_u, tq_u]) [] (tq_st p.2 L) (tq_Q q0)) out) : tq_X S mX12_shored (d + 7) tq_k0 68 ([.ref a0, tq_u, .int a2, .int a3, .int a4, .int a5, .int a6, tq_u]) [] (tq_st I L) (tq_Q q0) := by
  unfold FX12_shored_s68 at hf
  refine tq_iload rX12_shored_68 rfl ?_
  refine tq_iload_n rX12_shored_70 rfl ?_
  refine tq_iconst (1 : Int32) rX12_shored_71 (by decide) ?_
  refine tq_icmp_le rX12_shored_72 (fun c10 => ?_) (fun c10 => ?_)
  · rw [if_pos c10] at hf
    refine tq_iconst (1 : Int32) rX12_shored_82 (by decide) ?_
    exact tq_forget _ (tq_le_s (tq_le_u (tq_le_s (tq_le_s (tq_le_s (tq_le_s (tq_le_s (tq_le_u tq_le_n)))))))) (FX12_shored_j83L68_x  h0 hf hk)
  · rw [if_neg c10] at hf
    refine tq_aload_n rX12_shored_75 rfl ?_
    obtain ⟨p16, e16, hf⟩ := tq_let_elim hf
    refine ty_callVI p16 ([]) ([.int a6]) rX12_shored_76 l_X12_190 moX12_many mvX12_many h0 rfl rfl (Nat.le_of_ble_eq_true rfl) ⟨rfl, rfl⟩ (CX12_many h0 e16) ?_
    refine tq_goto rX12_shored_79 ?_
    exact tq_forget _ (tq_le_s (tq_le_u (tq_le_s (tq_le_s (tq_le_s (tq_le_s (tq_le_s (tq_le_u tq_le_n)))))))) (FX12_shored_j83L68_x  h0 hf hk)

set_option maxRecDepth 100000 in
set_option maxHeartbeats 4000000 in
theorem FX12_shored_j66L36_x {S : Nat × (Nat → Int32)} {d : Nat} {I : tq_PI} {L : tq_PL} {a0 : Nat} {a2 : Int32} {a3 : Int32} {a4 : Int32} {a5 : Int32} {b0 : Int32} (h0 : tq_sh0 a0 = 12) {q0 : Option Value → tq_PI → tq_PL → Prop} {out : (Int32 × Int32 × tq_PI) ⊕ (Int32 × tq_PI)} (hf : FX12_shored_j66L36 I L a0 a2 a3 a4 a5 b0 = some out) (hk : Sum.elim (fun p : Int32 × Int32 × tq_PI => tq_X S mX12_shored (d + 7) tq_k0 36 ([.ref a0, tq_u, .int a2, .int a3, .int p.1, .int p.2.1, tq_u, tq_u]) [] (tq_st p.2.2 L) (tq_Q q0)) (fun p : Int32 × tq_PI => tq_X S mX12_shored (d + 7) tq_k0 139 ([.ref a0, tq_u, tq_u, .int a3, .int p.1, tq_u, tq_u, tq_u]) [] (tq_st p.2 L) (tq_Q q0)) out) : tq_X S mX12_shored (d + 7) tq_k0 66 ([.ref a0, tq_u, .int a2, .int a3, .int a4, .int a5, tq_u, tq_u]) ([.int b0]) (tq_st I L) (tq_Q q0) := by
  unfold FX12_shored_j66L36 at hf
  refine tq_istore ([.ref a0, tq_u, .int a2, .int a3, .int a4, .int a5, .int b0, tq_u]) rX12_shored_66 (Nat.le_of_ble_eq_true rfl) rfl ?_
  obtain ⟨p17, e17, hf⟩ := Option.bind_eq_some_iff.mp hf
  refine tq_forget _ (tq_le_s (tq_le_u (tq_le_s (tq_le_s (tq_le_s (tq_le_s (tq_le_s (tq_le_u tq_le_n)))))))) ?_
  refine tq_it_elim (P := fun p : Int32 × Int32 × tq_PI => tq_X S mX12_shored (d + 7) tq_k0 68 ([.ref a0, tq_u, .int a2, .int a3, .int p.1, .int a5, .int p.2.1, tq_u]) [] (tq_st p.2.2 L) (tq_Q q0)) (R := fun p : Int32 × tq_PI => tq_X S mX12_shored (d + 7) tq_k0 133 ([.ref a0, tq_u, .int a2, .int a3, .int p.1, .int a5, tq_u, tq_u]) [] (tq_st p.2 L) (tq_Q q0)) (fun p o hp hk => FX12_shored_s68_x  h0 hp hk) _ ((a4, b0, I)) _ e17 ?_
  show tq_X _ _ _ _ _ _ _ _ _
  refine tq_iinc (a5 + 1) ([.ref a0, tq_u, .int a2, .int a3, .int p17.1, .int (a5 + 1), tq_u, tq_u]) rX12_shored_133 rfl (tq_inc (by decide)) (Nat.le_of_ble_eq_true rfl) rfl ?_
  refine tq_goto rX12_shored_136 ?_
  have hf := Option.some.inj hf
  subst hf
  exact tq_forget _ (tq_le_s (tq_le_u (tq_le_s (tq_le_s (tq_le_s (tq_le_s (tq_le_u (tq_le_u tq_le_n)))))))) hk

set_option maxRecDepth 100000 in
set_option maxHeartbeats 4000000 in
theorem FX12_shored_j50L36_x {S : Nat × (Nat → Int32)} {d : Nat} {I : tq_PI} {L : tq_PL} {a0 : Nat} {a2 : Int32} {a3 : Int32} {a4 : Int32} {a5 : Int32} {b0 : Int32} {b1 : Int32} (h0 : tq_sh0 a0 = 12) {q0 : Option Value → tq_PI → tq_PL → Prop} {out : (Int32 × Int32 × tq_PI) ⊕ (Int32 × tq_PI)} (hf : FX12_shored_j50L36 I L a0 a2 a3 a4 a5 b0 b1 = some out) (hk : Sum.elim (fun p : Int32 × Int32 × tq_PI => tq_X S mX12_shored (d + 7) tq_k0 36 ([.ref a0, tq_u, .int a2, .int a3, .int p.1, .int p.2.1, tq_u, tq_u]) [] (tq_st p.2.2 L) (tq_Q q0)) (fun p : Int32 × tq_PI => tq_X S mX12_shored (d + 7) tq_k0 139 ([.ref a0, tq_u, tq_u, .int a3, .int p.1, tq_u, tq_u, tq_u]) [] (tq_st p.2 L) (tq_Q q0)) out) : tq_X S mX12_shored (d + 7) tq_k0 50 ([.ref a0, tq_u, .int a2, .int a3, .int a4, .int a5, tq_u, tq_u]) ([.int b0, .int b1]) (tq_st I L) (tq_Q q0) := by
  unfold FX12_shored_j50L36 at hf
  refine tq_icmp_ge rX12_shored_50 (fun c8 => ?_) (fun c8 => ?_)
  · rw [if_pos c8] at hf
    have hf := Option.some.inj hf
    subst hf
    exact tq_forget _ (tq_le_s (tq_le_u (tq_le_u (tq_le_s (tq_le_s (tq_le_u (tq_le_u (tq_le_u tq_le_n)))))))) hk
  · rw [if_neg c8] at hf
    refine tq_iload_n rX12_shored_53 rfl ?_
    refine tq_iconst (1 : Int32) rX12_shored_54 (by decide) ?_
    refine tq_icmp_le rX12_shored_55 (fun c9 => ?_) (fun c9 => ?_)
    · rw [if_pos c9] at hf
      refine tq_iconst (0 : Int32) rX12_shored_65 (by decide) ?_
      exact tq_forget _ (tq_le_s (tq_le_u (tq_le_s (tq_le_s (tq_le_s (tq_le_s (tq_le_u (tq_le_u tq_le_n)))))))) (FX12_shored_j66L36_x  h0 hf hk)
    · rw [if_neg c9] at hf
      refine tq_iload rX12_shored_58 rfl ?_
      refine tq_iconst (1 : Int32) rX12_shored_60 (by decide) ?_
      refine tq_iadd rX12_shored_61 ?_
      refine tq_goto rX12_shored_62 ?_
      exact tq_forget _ (tq_le_s (tq_le_u (tq_le_s (tq_le_s (tq_le_s (tq_le_s (tq_le_u (tq_le_u tq_le_n)))))))) (FX12_shored_j66L36_x  h0 hf hk)

set_option maxRecDepth 100000 in
set_option maxHeartbeats 4000000 in
theorem FX12_shored_s36_x {S : Nat × (Nat → Int32)} {d : Nat} {I : tq_PI} {L : tq_PL} {a0 : Nat} {a2 : Int32} {a3 : Int32} {a4 : Int32} {a5 : Int32} (h0 : tq_sh0 a0 = 12) {q0 : Option Value → tq_PI → tq_PL → Prop} {out : (Int32 × Int32 × tq_PI) ⊕ (Int32 × tq_PI)} (hf : FX12_shored_s36 I L a0 a2 a3 a4 a5 = some out) (hk : Sum.elim (fun p : Int32 × Int32 × tq_PI => tq_X S mX12_shored (d + 7) tq_k0 36 ([.ref a0, tq_u, .int a2, .int a3, .int p.1, .int p.2.1, tq_u, tq_u]) [] (tq_st p.2.2 L) (tq_Q q0)) (fun p : Int32 × tq_PI => tq_X S mX12_shored (d + 7) tq_k0 139 ([.ref a0, tq_u, tq_u, .int a3, .int p.1, tq_u, tq_u, tq_u]) [] (tq_st p.2 L) (tq_Q q0)) out) : tq_X S mX12_shored (d + 7) tq_k0 36 ([.ref a0, tq_u, .int a2, .int a3, .int a4, .int a5, tq_u, tq_u]) [] (tq_st I L) (tq_Q q0) := by
  unfold FX12_shored_s36 at hf
  refine tq_iload rX12_shored_36 rfl ?_
  refine tq_iload_n rX12_shored_38 rfl ?_
  refine tq_if_le rX12_shored_39 (fun c7 => ?_) (fun c7 => ?_)
  · rw [if_pos c7] at hf
    refine tq_iconst (1 : Int32) rX12_shored_49 (by decide) ?_
    exact tq_forget _ (tq_le_s (tq_le_u (tq_le_s (tq_le_s (tq_le_s (tq_le_s (tq_le_u (tq_le_u tq_le_n)))))))) (FX12_shored_j50L36_x  h0 hf hk)
  · rw [if_neg c7] at hf
    refine tq_aload_n rX12_shored_42 rfl ?_
    obtain ⟨p18, e18, hf⟩ := tq_let_elim hf
    refine ty_callVI p18 ([]) ([.int a5]) rX12_shored_43 l_X12_190 moX12_many mvX12_many h0 rfl rfl (Nat.le_of_ble_eq_true rfl) ⟨rfl, rfl⟩ (CX12_many h0 e18) ?_
    refine tq_goto rX12_shored_46 ?_
    exact tq_forget _ (tq_le_s (tq_le_u (tq_le_s (tq_le_s (tq_le_s (tq_le_s (tq_le_u (tq_le_u tq_le_n)))))))) (FX12_shored_j50L36_x  h0 hf hk)

set_option maxRecDepth 100000 in
set_option maxHeartbeats 4000000 in
theorem FX12_shored_j150_x {S : Nat × (Nat → Int32)} {d : Nat} {I : tq_PI} {L : tq_PL} {a4 : Int32}  {q0 : Option Value → tq_PI → tq_PL → Prop} {out : Int32 × tq_PI} (hf : FX12_shored_j150 I L a4 = some out) (hk : q0 (some (.int out.1)) out.2 L) : tq_X S mX12_shored (d + 7) tq_k0 150 ([tq_u, tq_u, tq_u, tq_u, .int a4, tq_u, tq_u, tq_u]) ([]) (tq_st I L) (tq_Q q0) := by
  unfold FX12_shored_j150 at hf
  refine tq_iload rX12_shored_150 rfl ?_
  refine tq_goto rX12_shored_152 ?_
  refine ty_iret rX12_shored_161 rfl rfl ?_
  have hf := Option.some.inj hf
  subst hf
  exact hk

set_option maxRecDepth 100000 in
set_option maxHeartbeats 4000000 in
theorem CX12_shored {S : Nat × (Nat → Int32)} {d : Nat} {I : tq_PI} {L : tq_PL} {a0 : Nat} {a1 : Int32} {a2 : Int32} {a3 : Int32} (h0 : tq_sh0 a0 = 12) {out : Int32 × tq_PI} (hf : FX12_shored I L a0 a1 a2 a3 = some out) : tq_K S mX12_shored (d + 7) [.ref a0, .int a1, .int a2, .int a3] I L (tq_one2 (some (.int out.1)) out.2 L) := by
  unfold FX12_shored at hf
  refine tq_K_of (by decide) (Nat.le_of_ble_eq_true rfl) (ls := [.ref a0, .int a1, .int a2, .int a3, tq_u, tq_u, tq_u, tq_u]) rfl ?_
  refine tq_aload_n rX12_shored_0 rfl ?_
  refine tq_iload_n rX12_shored_1 rfl ?_
  obtain ⟨p1, e1, hf⟩ := Option.bind_eq_some_iff.mp hf
  refine ty_callVI (tq_b p1.1) ([.int a1]) ([]) rX12_shored_2 l_X12_221 moX12_isHill mvX12_isHill h0 rfl rfl (Nat.le_of_ble_eq_true rfl) ⟨rfl, rfl⟩ (CX12_isHill h0 e1) ?_
  refine tq_if_eq rX12_shored_5 (fun c2 => ?_) (fun c2 => ?_)
  · rw [if_pos c2] at hf
    exact tq_forget _ (tq_le_u (tq_le_u (tq_le_u (tq_le_u (tq_le_u (tq_le_u (tq_le_u (tq_le_u tq_le_n)))))))) (FX12_shored_j28_x   hf ⟨rfl, rfl, rfl⟩)
  · rw [if_neg c2] at hf
    refine tq_iload_n rX12_shored_8 rfl ?_
    refine tq_iconst (0 : Int32) rX12_shored_9 (by decide) ?_
    refine tq_iconst (2 : Int32) rX12_shored_10 (by decide) ?_
    obtain ⟨p3, e3, hf⟩ := tq_let_elim hf
    refine ty_callSI (tq_b p3) ([.int a2, .int (0 : Int32), .int (2 : Int32)]) ([]) rX12_shored_11 l_X12_118 moX12_isIn msX12_isIn rfl rfl (Nat.le_of_ble_eq_true rfl) ⟨rfl, rfl⟩ (CX12_isIn  e3) ?_
    refine tq_if_eq rX12_shored_14 (fun c4 => ?_) (fun c4 => ?_)
    · rw [if_pos c4] at hf
      exact tq_forget _ (tq_le_u (tq_le_u (tq_le_u (tq_le_u (tq_le_u (tq_le_u (tq_le_u (tq_le_u tq_le_n)))))))) (FX12_shored_j28_x   hf ⟨rfl, rfl, rfl⟩)
    · rw [if_neg c4] at hf
      refine tq_iload_n rX12_shored_17 rfl ?_
      refine tq_iconst (-1 : Int32) rX12_shored_18 (by decide) ?_
      refine tq_iload_n rX12_shored_19 rfl ?_
      refine tq_iconst (1 : Int32) rX12_shored_20 (by decide) ?_
      refine tq_isub rX12_shored_21 ?_
      obtain ⟨p5, e5, hf⟩ := tq_let_elim hf
      refine ty_callSI (tq_b p5) ([.int a3, .int (-1 : Int32), .int (a2 - (1 : Int32))]) ([]) rX12_shored_22 l_X12_118 moX12_isIn msX12_isIn rfl rfl (Nat.le_of_ble_eq_true rfl) ⟨rfl, rfl⟩ (CX12_isIn  e5) ?_
      refine tq_if_ne rX12_shored_25 (fun c6 => ?_) (fun c6 => ?_)
      · rw [if_neg c6] at hf
        refine tq_iconst (-1 : Int32) rX12_shored_30 (by decide) ?_
        refine tq_istore ([.ref a0, .int a1, .int a2, .int a3, .int (-1 : Int32), tq_u, tq_u, tq_u]) rX12_shored_31 (Nat.le_of_ble_eq_true rfl) rfl ?_
        refine tq_iconst (0 : Int32) rX12_shored_33 (by decide) ?_
        refine tq_istore ([.ref a0, .int a1, .int a2, .int a3, .int (-1 : Int32), .int (0 : Int32), tq_u, tq_u]) rX12_shored_34 (Nat.le_of_ble_eq_true rfl) rfl ?_
        obtain ⟨p19, e19, hf⟩ := Option.bind_eq_some_iff.mp hf
        refine tq_forget _ (tq_le_s (tq_le_u (tq_le_s (tq_le_s (tq_le_s (tq_le_s (tq_le_u (tq_le_u tq_le_n)))))))) ?_
        refine tq_it_elim (P := fun p : Int32 × Int32 × tq_PI => tq_X S mX12_shored (d + 7) tq_k0 36 ([.ref a0, tq_u, .int a2, .int a3, .int p.1, .int p.2.1, tq_u, tq_u]) [] (tq_st p.2.2 L) (tq_Q (tq_one2 (some (.int out.1)) out.2 L))) (R := fun p : Int32 × tq_PI => tq_X S mX12_shored (d + 7) tq_k0 139 ([.ref a0, tq_u, tq_u, .int a3, .int p.1, tq_u, tq_u, tq_u]) [] (tq_st p.2 L) (tq_Q (tq_one2 (some (.int out.1)) out.2 L))) (fun p o hp hk => FX12_shored_s36_x  h0 hp hk) _ (((-1 : Int32), (0 : Int32), p1.2)) _ e19 ?_
        show tq_X _ _ _ _ _ _ _ _ _
        refine tq_iload rX12_shored_139 rfl ?_
        refine tq_iconst (-1 : Int32) rX12_shored_141 (by decide) ?_
        refine tq_icmp_eq rX12_shored_142 (fun c20 => ?_) (fun c20 => ?_)
        · rw [if_pos c20] at hf
          exact tq_forget _ (tq_le_u (tq_le_u (tq_le_u (tq_le_u (tq_le_s (tq_le_u (tq_le_u (tq_le_u tq_le_n)))))))) (FX12_shored_j150_x   hf ⟨rfl, rfl, rfl⟩)
        · rw [if_neg c20] at hf
          refine tq_iload_n rX12_shored_145 rfl ?_
          refine tq_iconst (-1 : Int32) rX12_shored_146 (by decide) ?_
          refine tq_icmp_ne rX12_shored_147 (fun c21 => ?_) (fun c21 => ?_)
          · rw [if_neg c21] at hf
            refine tq_aload_n rX12_shored_155 rfl ?_
            refine ty_getR rX12_shored_156 f_X12_38 rfl h0 (hp_12_25 h0).1 ?_
            refine tq_iload_n rX12_shored_159 rfl ?_
            obtain ⟨g22, hf⟩ := tq_chk hf
            refine ty_iald (v := 2) rX12_shored_160 (hp_12_25 h0).2.1 (hp_12_25 h0).2.2 rfl (by decide) g22 ?_
            refine ty_iret rX12_shored_161 rfl rfl ?_
            have hf := Option.some.inj hf
            subst hf
            exact ⟨rfl, rfl, rfl⟩
          · rw [if_pos c21] at hf
            exact tq_forget _ (tq_le_u (tq_le_u (tq_le_u (tq_le_u (tq_le_s (tq_le_u (tq_le_u (tq_le_u tq_le_n)))))))) (FX12_shored_j150_x   hf ⟨rfl, rfl, rfl⟩)
      · rw [if_pos c6] at hf
        exact tq_forget _ (tq_le_u (tq_le_u (tq_le_u (tq_le_u (tq_le_u (tq_le_u (tq_le_u (tq_le_u tq_le_n)))))))) (FX12_shored_j28_x   hf ⟨rfl, rfl, rfl⟩)

