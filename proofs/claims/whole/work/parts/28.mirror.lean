/-! THE MIRROR, part 8: by program (wip/whole/gen_mirror.py). -/
abbrev mX12_taken : tq_M := (yX12_taken, cX12_taken, 4, (Option.some Jvm.ClassFile.FieldType.int), 0, 0)
theorem moX12_falls : tq_mok mX12_falls 1 := ⟨tq_sg1 _ (List.mem_of_getElem? (i := 13) rfl), tq_sg7 _ (List.mem_of_getElem? (i := 214) rfl), ⟨by decide, by decide, by decide +kernel⟩, by decide⟩
theorem mvX12_falls : 12 < 13 ∧ (tq_cl 12).1 = mX12_falls.1.cls ∧ Cond.instanceMethod mX12_falls.1 ∈ lw_tbl ∧ Cond.selects mX12_falls.1.cls mX12_falls.1 mX12_falls.1 ∈ lw_tbl := ⟨by decide, rfl, tq_sg7 _ (List.mem_of_getElem? (i := 213) rfl), List.mem_append_left _ (List.mem_map.mpr ⟨_, List.mem_of_getElem? (i := 83) rfl, rfl⟩)⟩
theorem l_X12_199 : tq_lok RX12 199 mX12_falls.1 := Or.inl (tq_sg7 _ (List.mem_of_getElem? (i := 211) rfl))
theorem rX12_taken_0 : tq_D cX12_taken 0 (.iconst 0) 1 1 := ⟨by decide +kernel, rfl⟩
theorem rX12_taken_1 : tq_D cX12_taken 1 (.istore_n 3) 1 2 := ⟨by decide +kernel, rfl⟩
theorem rX12_taken_2 : tq_D cX12_taken 2 (.iload_n 3) 1 3 := ⟨by decide +kernel, rfl⟩
theorem rX12_taken_3 : tq_D cX12_taken 3 (.bipush 48) 2 5 := ⟨by decide +kernel, rfl⟩
theorem rX12_taken_5 : tq_J cX12_taken 5 (.if_icmp .ge) 39 8 := ⟨34, by decide +kernel, by decide, rfl⟩
theorem rX12_taken_8 : tq_D cX12_taken 8 (.aload_n 0) 1 9 := ⟨by decide +kernel, rfl⟩
theorem rX12_taken_9 : tq_D cX12_taken 9 (.getfield 20) 3 12 := ⟨by decide +kernel, rfl⟩
theorem rX12_taken_12 : tq_D cX12_taken 12 (.bipush 48) 2 14 := ⟨by decide +kernel, rfl⟩
theorem rX12_taken_14 : tq_D cX12_taken 14 (.iload_n 1) 1 15 := ⟨by decide +kernel, rfl⟩
theorem rX12_taken_15 : tq_D cX12_taken 15 (.imul) 1 16 := ⟨by decide +kernel, rfl⟩
theorem rX12_taken_16 : tq_D cX12_taken 16 (.bipush 48) 2 18 := ⟨by decide +kernel, rfl⟩
theorem rX12_taken_18 : tq_D cX12_taken 18 (.iadd) 1 19 := ⟨by decide +kernel, rfl⟩
theorem rX12_taken_19 : tq_D cX12_taken 19 (.iload_n 3) 1 20 := ⟨by decide +kernel, rfl⟩
theorem rX12_taken_20 : tq_D cX12_taken 20 (.iadd) 1 21 := ⟨by decide +kernel, rfl⟩
theorem rX12_taken_21 : tq_D cX12_taken 21 (.aload_n 0) 1 22 := ⟨by decide +kernel, rfl⟩
theorem rX12_taken_22 : tq_D cX12_taken 22 (.getfield 20) 3 25 := ⟨by decide +kernel, rfl⟩
theorem rX12_taken_25 : tq_D cX12_taken 25 (.bipush 48) 2 27 := ⟨by decide +kernel, rfl⟩
theorem rX12_taken_27 : tq_D cX12_taken 27 (.iload_n 1) 1 28 := ⟨by decide +kernel, rfl⟩
theorem rX12_taken_28 : tq_D cX12_taken 28 (.imul) 1 29 := ⟨by decide +kernel, rfl⟩
theorem rX12_taken_29 : tq_D cX12_taken 29 (.iload_n 3) 1 30 := ⟨by decide +kernel, rfl⟩
theorem rX12_taken_30 : tq_D cX12_taken 30 (.iadd) 1 31 := ⟨by decide +kernel, rfl⟩
theorem rX12_taken_31 : tq_D cX12_taken 31 (.iaload) 1 32 := ⟨by decide +kernel, rfl⟩
theorem rX12_taken_32 : tq_D cX12_taken 32 (.iastore) 1 33 := ⟨by decide +kernel, rfl⟩
theorem rX12_taken_33 : tq_D cX12_taken 33 (.iinc 3 1) 3 36 := ⟨by decide +kernel, rfl⟩
theorem rX12_taken_36 : tq_J cX12_taken 36 .goto 2 39 := ⟨(-34), by decide +kernel, by decide, rfl⟩
theorem rX12_taken_39 : tq_D cX12_taken 39 (.aload_n 0) 1 40 := ⟨by decide +kernel, rfl⟩
theorem rX12_taken_40 : tq_D cX12_taken 40 (.getfield 20) 3 43 := ⟨by decide +kernel, rfl⟩
theorem rX12_taken_43 : tq_D cX12_taken 43 (.bipush 48) 2 45 := ⟨by decide +kernel, rfl⟩
theorem rX12_taken_45 : tq_D cX12_taken 45 (.iload_n 1) 1 46 := ⟨by decide +kernel, rfl⟩
theorem rX12_taken_46 : tq_D cX12_taken 46 (.imul) 1 47 := ⟨by decide +kernel, rfl⟩
theorem rX12_taken_47 : tq_D cX12_taken 47 (.bipush 48) 2 49 := ⟨by decide +kernel, rfl⟩
theorem rX12_taken_49 : tq_D cX12_taken 49 (.iadd) 1 50 := ⟨by decide +kernel, rfl⟩
theorem rX12_taken_50 : tq_D cX12_taken 50 (.iload_n 2) 1 51 := ⟨by decide +kernel, rfl⟩
theorem rX12_taken_51 : tq_D cX12_taken 51 (.iadd) 1 52 := ⟨by decide +kernel, rfl⟩
theorem rX12_taken_52 : tq_D cX12_taken 52 (.iconst 0) 1 53 := ⟨by decide +kernel, rfl⟩
theorem rX12_taken_53 : tq_D cX12_taken 53 (.iastore) 1 54 := ⟨by decide +kernel, rfl⟩
theorem rX12_taken_54 : tq_D cX12_taken 54 (.aload_n 0) 1 55 := ⟨by decide +kernel, rfl⟩
theorem rX12_taken_55 : tq_D cX12_taken 55 (.iload_n 1) 1 56 := ⟨by decide +kernel, rfl⟩
theorem rX12_taken_56 : tq_D cX12_taken 56 (.iconst 1) 1 57 := ⟨by decide +kernel, rfl⟩
theorem rX12_taken_57 : tq_D cX12_taken 57 (.iadd) 1 58 := ⟨by decide +kernel, rfl⟩
theorem rX12_taken_58 : tq_D cX12_taken 58 (.invokevirtual 199) 3 61 := ⟨by decide +kernel, rfl⟩
theorem rX12_taken_61 : decode cX12_taken 61 = .ok (.ireturn, 1) := by decide +kernel
noncomputable def FX12_taken_s2 (I : tq_PI) (L : tq_PL) (a0 : Nat) (a1 : Int32) (a2 : Int32) (a3 : Int32) : Option ((Int32 × tq_PI) ⊕ (tq_PI)) :=
  (if (48 : Int32) ≤ a3 then some (.inr I) else (if 0 ≤ (((48 : Int32) * a1) + a3) ∧ (((48 : Int32) * a1) + a3) < 192 then (if 0 ≤ ((((48 : Int32) * a1) + (48 : Int32)) + a3) ∧ ((((48 : Int32) * a1) + (48 : Int32)) + a3) < 192 then some (.inl ((a3 + 1), (tq_up2 I (tq_rg a0 15) (((((48 : Int32) * a1) + (48 : Int32)) + a3)).toNatClampNeg (I (tq_rg a0 15) ((((48 : Int32) * a1) + a3)).toNatClampNeg)))) else none) else none))
noncomputable def FX12_taken (I : tq_PI) (L : tq_PL) (a0 : Nat) (a1 : Int32) (a2 : Int32) : Option (Int32 × tq_PI) :=
  ((tq_it (fun p : Int32 × tq_PI => FX12_taken_s2 p.2 L a0 a1 a2 p.1) tq_N ((0 : Int32), I)).bind fun p4 => (if 0 ≤ ((((48 : Int32) * a1) + (48 : Int32)) + a2) ∧ ((((48 : Int32) * a1) + (48 : Int32)) + a2) < 192 then ((FX12_falls ((tq_up2 p4 (tq_rg a0 15) (((((48 : Int32) * a1) + (48 : Int32)) + a2)).toNatClampNeg (0 : Int32))) L a0 ((a1 + (1 : Int32)))).bind fun p6 => some (p6.1, p6.2)) else none))
set_option maxRecDepth 100000 in
set_option maxHeartbeats 4000000 in
theorem FX12_taken_s2_x {S : Nat × (Nat → Int32)} {d : Nat} {I : tq_PI} {L : tq_PL} {a0 : Nat} {a1 : Int32} {a2 : Int32} {a3 : Int32} (h0 : tq_sh0 a0 = 12) {q0 : Option Value → tq_PI → tq_PL → Prop} {out : (Int32 × tq_PI) ⊕ (tq_PI)} (hf : FX12_taken_s2 I L a0 a1 a2 a3 = some out) (hk : Sum.elim (fun p : Int32 × tq_PI => tq_X S mX12_taken (d + 4) tq_k0 2 ([.ref a0, .int a1, .int a2, .int p.1]) [] (tq_st p.2 L) (tq_Q q0)) (fun p : tq_PI => tq_X S mX12_taken (d + 4) tq_k0 39 ([.ref a0, .int a1, .int a2, tq_u]) [] (tq_st p L) (tq_Q q0)) out) : tq_X S mX12_taken (d + 4) tq_k0 2 ([.ref a0, .int a1, .int a2, .int a3]) [] (tq_st I L) (tq_Q q0) := by
  unfold FX12_taken_s2 at hf
  refine tq_iload_n rX12_taken_2 rfl ?_
  refine tq_bipush (48 : Int32) rX12_taken_3 (by decide) ?_
  refine tq_icmp_ge rX12_taken_5 (fun c1 => ?_) (fun c1 => ?_)
  · rw [if_pos c1] at hf
    have hf := Option.some.inj hf
    subst hf
    exact tq_forget _ (tq_le_s (tq_le_s (tq_le_s (tq_le_u tq_le_n)))) hk
  · rw [if_neg c1] at hf
    refine tq_aload_n rX12_taken_8 rfl ?_
    refine ty_getR rX12_taken_9 f_X12_20 rfl h0 (hp_12_15 h0).1 ?_
    refine tq_bipush (48 : Int32) rX12_taken_12 (by decide) ?_
    refine tq_iload_n rX12_taken_14 rfl ?_
    refine tq_imul rX12_taken_15 ?_
    refine tq_bipush (48 : Int32) rX12_taken_16 (by decide) ?_
    refine tq_iadd rX12_taken_18 ?_
    refine tq_iload_n rX12_taken_19 rfl ?_
    refine tq_iadd rX12_taken_20 ?_
    refine tq_aload_n rX12_taken_21 rfl ?_
    refine ty_getR rX12_taken_22 f_X12_20 rfl h0 (hp_12_15 h0).1 ?_
    refine tq_bipush (48 : Int32) rX12_taken_25 (by decide) ?_
    refine tq_iload_n rX12_taken_27 rfl ?_
    refine tq_imul rX12_taken_28 ?_
    refine tq_iload_n rX12_taken_29 rfl ?_
    refine tq_iadd rX12_taken_30 ?_
    obtain ⟨g2, hf⟩ := tq_chk hf
    refine ty_iald (v := 192) rX12_taken_31 (hp_12_15 h0).2.1 (hp_12_15 h0).2.2 rfl (by decide) g2 ?_
    obtain ⟨g3, hf⟩ := tq_chk hf
    refine ty_iast (v := 192) rX12_taken_32 (hp_12_15 h0).2.1 (hp_12_15 h0).2.2 rfl (by decide) g3 ?_
    refine tq_iinc (a3 + 1) ([.ref a0, .int a1, .int a2, .int (a3 + 1)]) rX12_taken_33 rfl (tq_inc (by decide)) (Nat.le_of_ble_eq_true rfl) rfl ?_
    refine tq_goto rX12_taken_36 ?_
    have hf := Option.some.inj hf
    subst hf
    exact tq_forget _ (tq_le_s (tq_le_s (tq_le_s (tq_le_s tq_le_n)))) hk

set_option maxRecDepth 100000 in
set_option maxHeartbeats 4000000 in
theorem CX12_taken {S : Nat × (Nat → Int32)} {d : Nat} {I : tq_PI} {L : tq_PL} {a0 : Nat} {a1 : Int32} {a2 : Int32} (h0 : tq_sh0 a0 = 12) {out : Int32 × tq_PI} (hf : FX12_taken I L a0 a1 a2 = some out) : tq_K S mX12_taken (d + 4) [.ref a0, .int a1, .int a2] I L (tq_one2 (some (.int out.1)) out.2 L) := by
  unfold FX12_taken at hf
  refine tq_K_of (by decide) (Nat.le_of_ble_eq_true rfl) (ls := [.ref a0, .int a1, .int a2, tq_u]) rfl ?_
  refine tq_iconst (0 : Int32) rX12_taken_0 (by decide) ?_
  refine tq_istore_n ([.ref a0, .int a1, .int a2, .int (0 : Int32)]) rX12_taken_1 (Nat.le_of_ble_eq_true rfl) rfl ?_
  obtain ⟨p4, e4, hf⟩ := Option.bind_eq_some_iff.mp hf
  refine tq_forget _ (tq_le_s (tq_le_s (tq_le_s (tq_le_s tq_le_n)))) ?_
  refine tq_it_elim (P := fun p : Int32 × tq_PI => tq_X S mX12_taken (d + 4) tq_k0 2 ([.ref a0, .int a1, .int a2, .int p.1]) [] (tq_st p.2 L) (tq_Q (tq_one2 (some (.int out.1)) out.2 L))) (R := fun p : tq_PI => tq_X S mX12_taken (d + 4) tq_k0 39 ([.ref a0, .int a1, .int a2, tq_u]) [] (tq_st p L) (tq_Q (tq_one2 (some (.int out.1)) out.2 L))) (fun p o hp hk => FX12_taken_s2_x  h0 hp hk) _ (((0 : Int32), I)) _ e4 ?_
  show tq_X _ _ _ _ _ _ _ _ _
  refine tq_aload_n rX12_taken_39 rfl ?_
  refine ty_getR rX12_taken_40 f_X12_20 rfl h0 (hp_12_15 h0).1 ?_
  refine tq_bipush (48 : Int32) rX12_taken_43 (by decide) ?_
  refine tq_iload_n rX12_taken_45 rfl ?_
  refine tq_imul rX12_taken_46 ?_
  refine tq_bipush (48 : Int32) rX12_taken_47 (by decide) ?_
  refine tq_iadd rX12_taken_49 ?_
  refine tq_iload_n rX12_taken_50 rfl ?_
  refine tq_iadd rX12_taken_51 ?_
  refine tq_iconst (0 : Int32) rX12_taken_52 (by decide) ?_
  obtain ⟨g5, hf⟩ := tq_chk hf
  refine ty_iast (v := 192) rX12_taken_53 (hp_12_15 h0).2.1 (hp_12_15 h0).2.2 rfl (by decide) g5 ?_
  refine tq_aload_n rX12_taken_54 rfl ?_
  refine tq_iload_n rX12_taken_55 rfl ?_
  refine tq_iconst (1 : Int32) rX12_taken_56 (by decide) ?_
  refine tq_iadd rX12_taken_57 ?_
  obtain ⟨p6, e6, hf⟩ := Option.bind_eq_some_iff.mp hf
  refine ty_callVI p6.1 ([.int (a1 + (1 : Int32))]) ([]) rX12_taken_58 l_X12_199 moX12_falls mvX12_falls h0 rfl rfl (Nat.le_of_ble_eq_true rfl) ⟨rfl, rfl⟩ (CX12_falls h0 e6) ?_
  refine ty_iret rX12_taken_61 rfl rfl ?_
  have hf := Option.some.inj hf
  subst hf
  exact ⟨rfl, rfl, rfl⟩

abbrev mX12_beside : tq_M := (yX12_beside, cX12_beside, 3, (Option.some Jvm.ClassFile.FieldType.int), 0, 0)
theorem rX12_beside_0 : tq_D cX12_beside 0 (.iload_n 2) 1 1 := ⟨by decide +kernel, rfl⟩
theorem rX12_beside_1 : decode cX12_beside 1 = .ok (.tableswitch 93 0 2 #[27, 46, 69], 27) := by decide +kernel
theorem rX12_beside_28 : tq_D cX12_beside 28 (.iload_n 1) 1 29 := ⟨by decide +kernel, rfl⟩
theorem rX12_beside_29 : tq_D cX12_beside 29 (.aload_n 0) 1 30 := ⟨by decide +kernel, rfl⟩
theorem rX12_beside_30 : tq_D cX12_beside 30 (.getfield 148) 3 33 := ⟨by decide +kernel, rfl⟩
theorem rX12_beside_33 : tq_J cX12_beside 33 (.if_icmp .ge) 40 36 := ⟨7, by decide +kernel, by decide, rfl⟩
theorem rX12_beside_36 : tq_D cX12_beside 36 (.iconst (-1)) 1 37 := ⟨by decide +kernel, rfl⟩
theorem rX12_beside_37 : tq_J cX12_beside 37 .goto 46 40 := ⟨9, by decide +kernel, by decide, rfl⟩
theorem rX12_beside_40 : tq_D cX12_beside 40 (.iload_n 1) 1 41 := ⟨by decide +kernel, rfl⟩
theorem rX12_beside_41 : tq_D cX12_beside 41 (.aload_n 0) 1 42 := ⟨by decide +kernel, rfl⟩
theorem rX12_beside_42 : tq_D cX12_beside 42 (.getfield 148) 3 45 := ⟨by decide +kernel, rfl⟩
theorem rX12_beside_45 : tq_D cX12_beside 45 (.isub) 1 46 := ⟨by decide +kernel, rfl⟩
theorem rX12_beside_46 : decode cX12_beside 46 = .ok (.ireturn, 1) := by decide +kernel
theorem rX12_beside_47 : tq_D cX12_beside 47 (.iload_n 1) 1 48 := ⟨by decide +kernel, rfl⟩
theorem rX12_beside_48 : tq_D cX12_beside 48 (.aload_n 0) 1 49 := ⟨by decide +kernel, rfl⟩
theorem rX12_beside_49 : tq_D cX12_beside 49 (.getfield 148) 3 52 := ⟨by decide +kernel, rfl⟩
theorem rX12_beside_52 : tq_D cX12_beside 52 (.irem) 1 53 := ⟨by decide +kernel, rfl⟩
theorem rX12_beside_53 : tq_D cX12_beside 53 (.aload_n 0) 1 54 := ⟨by decide +kernel, rfl⟩
theorem rX12_beside_54 : tq_D cX12_beside 54 (.getfield 148) 3 57 := ⟨by decide +kernel, rfl⟩
theorem rX12_beside_57 : tq_D cX12_beside 57 (.iconst 1) 1 58 := ⟨by decide +kernel, rfl⟩
theorem rX12_beside_58 : tq_D cX12_beside 58 (.isub) 1 59 := ⟨by decide +kernel, rfl⟩
theorem rX12_beside_59 : tq_J cX12_beside 59 (.if_icmp .ne) 66 62 := ⟨7, by decide +kernel, by decide, rfl⟩
theorem rX12_beside_62 : tq_D cX12_beside 62 (.iconst (-1)) 1 63 := ⟨by decide +kernel, rfl⟩
theorem rX12_beside_63 : tq_J cX12_beside 63 .goto 69 66 := ⟨6, by decide +kernel, by decide, rfl⟩
theorem rX12_beside_66 : tq_D cX12_beside 66 (.iload_n 1) 1 67 := ⟨by decide +kernel, rfl⟩
theorem rX12_beside_67 : tq_D cX12_beside 67 (.iconst 1) 1 68 := ⟨by decide +kernel, rfl⟩
theorem rX12_beside_68 : tq_D cX12_beside 68 (.iadd) 1 69 := ⟨by decide +kernel, rfl⟩
theorem rX12_beside_69 : decode cX12_beside 69 = .ok (.ireturn, 1) := by decide +kernel
theorem rX12_beside_70 : tq_D cX12_beside 70 (.iload_n 1) 1 71 := ⟨by decide +kernel, rfl⟩
theorem rX12_beside_71 : tq_D cX12_beside 71 (.aload_n 0) 1 72 := ⟨by decide +kernel, rfl⟩
theorem rX12_beside_72 : tq_D cX12_beside 72 (.getfield 148) 3 75 := ⟨by decide +kernel, rfl⟩
theorem rX12_beside_75 : tq_D cX12_beside 75 (.iadd) 1 76 := ⟨by decide +kernel, rfl⟩
theorem rX12_beside_76 : tq_D cX12_beside 76 (.aload_n 0) 1 77 := ⟨by decide +kernel, rfl⟩
theorem rX12_beside_77 : tq_D cX12_beside 77 (.invokevirtual 190) 3 80 := ⟨by decide +kernel, rfl⟩
theorem rX12_beside_80 : tq_J cX12_beside 80 (.if_icmp .lt) 87 83 := ⟨7, by decide +kernel, by decide, rfl⟩
theorem rX12_beside_83 : tq_D cX12_beside 83 (.iconst (-1)) 1 84 := ⟨by decide +kernel, rfl⟩
theorem rX12_beside_84 : tq_J cX12_beside 84 .goto 93 87 := ⟨9, by decide +kernel, by decide, rfl⟩
theorem rX12_beside_87 : tq_D cX12_beside 87 (.iload_n 1) 1 88 := ⟨by decide +kernel, rfl⟩
theorem rX12_beside_88 : tq_D cX12_beside 88 (.aload_n 0) 1 89 := ⟨by decide +kernel, rfl⟩
theorem rX12_beside_89 : tq_D cX12_beside 89 (.getfield 148) 3 92 := ⟨by decide +kernel, rfl⟩
theorem rX12_beside_92 : tq_D cX12_beside 92 (.iadd) 1 93 := ⟨by decide +kernel, rfl⟩
theorem rX12_beside_93 : decode cX12_beside 93 = .ok (.ireturn, 1) := by decide +kernel
theorem rX12_beside_94 : tq_D cX12_beside 94 (.iload_n 1) 1 95 := ⟨by decide +kernel, rfl⟩
theorem rX12_beside_95 : tq_D cX12_beside 95 (.aload_n 0) 1 96 := ⟨by decide +kernel, rfl⟩
theorem rX12_beside_96 : tq_D cX12_beside 96 (.getfield 148) 3 99 := ⟨by decide +kernel, rfl⟩
theorem rX12_beside_99 : tq_D cX12_beside 99 (.irem) 1 100 := ⟨by decide +kernel, rfl⟩
theorem rX12_beside_100 : tq_J cX12_beside 100 (.ifCond .ne) 107 103 := ⟨7, by decide +kernel, by decide, rfl⟩
theorem rX12_beside_103 : tq_D cX12_beside 103 (.iconst (-1)) 1 104 := ⟨by decide +kernel, rfl⟩
theorem rX12_beside_104 : tq_J cX12_beside 104 .goto 110 107 := ⟨6, by decide +kernel, by decide, rfl⟩
theorem rX12_beside_107 : tq_D cX12_beside 107 (.iload_n 1) 1 108 := ⟨by decide +kernel, rfl⟩
theorem rX12_beside_108 : tq_D cX12_beside 108 (.iconst 1) 1 109 := ⟨by decide +kernel, rfl⟩
theorem rX12_beside_109 : tq_D cX12_beside 109 (.isub) 1 110 := ⟨by decide +kernel, rfl⟩
theorem rX12_beside_110 : decode cX12_beside 110 = .ok (.ireturn, 1) := by decide +kernel
noncomputable def FX12_beside (I : tq_PI) (L : tq_PL) (a0 : Nat) (a1 : Int32) (a2 : Int32) : Option (Int32) :=
  (if a2 = 0 then (if (I a0 13) ≤ a1 then some (a1 - (I a0 13)) else some (-1 : Int32)) else (if a2 = 1 then (if ¬ (I a0 13) = 0 then (if (a1 - a1 / (I a0 13) * (I a0 13)) = ((I a0 13) - (1 : Int32)) then some (-1 : Int32) else some (a1 + (1 : Int32))) else none) else (if a2 = 2 then (tq_let (FX12_many I L a0) fun p7 => (if (a1 + (I a0 13)) < p7 then some (a1 + (I a0 13)) else some (-1 : Int32))) else (if ¬ (I a0 13) = 0 then (if (a1 - a1 / (I a0 13) * (I a0 13)) = 0 then some (-1 : Int32) else some (a1 - (1 : Int32))) else none))))
set_option maxRecDepth 100000 in
set_option maxHeartbeats 4000000 in
theorem CX12_beside {S : Nat × (Nat → Int32)} {d : Nat} {I : tq_PI} {L : tq_PL} {a0 : Nat} {a1 : Int32} {a2 : Int32} (h0 : tq_sh0 a0 = 12) {out : Int32} (hf : FX12_beside I L a0 a1 a2 = some out) : tq_K S mX12_beside (d + 1) [.ref a0, .int a1, .int a2] I L (tq_one2 (some (.int out)) I L) := by
  unfold FX12_beside at hf
  refine tq_K_of (by decide) (Nat.le_of_ble_eq_true rfl) (ls := [.ref a0, .int a1, .int a2]) rfl ?_
  refine tq_iload_n rX12_beside_0 rfl ?_
  by_cases c1 : a2 = 0
  · rw [if_pos c1] at hf
    refine tq_swIn (tgt := 28) 27 rX12_beside_1 (by rw [c1]; decide) (by rw [c1]; decide) (by rw [c1]; rfl) (by decide) ?_
    refine tq_iload_n rX12_beside_28 rfl ?_
    refine tq_aload_n rX12_beside_29 rfl ?_
    refine ty_getI rX12_beside_30 f_X12_148 rfl h0 ?_
    refine tq_icmp_ge rX12_beside_33 (fun c2 => ?_) (fun c2 => ?_)
    · rw [if_pos c2] at hf
      refine tq_iload_n rX12_beside_40 rfl ?_
      refine tq_aload_n rX12_beside_41 rfl ?_
      refine ty_getI rX12_beside_42 f_X12_148 rfl h0 ?_
      refine tq_isub rX12_beside_45 ?_
      refine ty_iret rX12_beside_46 rfl rfl ?_
      have hf := Option.some.inj hf
      subst hf
      exact ⟨rfl, rfl, rfl⟩
    · rw [if_neg c2] at hf
      refine tq_iconst (-1 : Int32) rX12_beside_36 (by decide) ?_
      refine tq_goto rX12_beside_37 ?_
      refine ty_iret rX12_beside_46 rfl rfl ?_
      have hf := Option.some.inj hf
      subst hf
      exact ⟨rfl, rfl, rfl⟩
  · rw [if_neg c1] at hf
    by_cases c3 : a2 = 1
    · rw [if_pos c3] at hf
      refine tq_swIn (tgt := 47) 46 rX12_beside_1 (by rw [c3]; decide) (by rw [c3]; decide) (by rw [c3]; rfl) (by decide) ?_
      refine tq_iload_n rX12_beside_47 rfl ?_
      refine tq_aload_n rX12_beside_48 rfl ?_
      refine ty_getI rX12_beside_49 f_X12_148 rfl h0 ?_
      obtain ⟨g4, hf⟩ := tq_chk hf
      refine tq_irem rX12_beside_52 g4 ?_
      refine tq_aload_n rX12_beside_53 rfl ?_
      refine ty_getI rX12_beside_54 f_X12_148 rfl h0 ?_
      refine tq_iconst (1 : Int32) rX12_beside_57 (by decide) ?_
      refine tq_isub rX12_beside_58 ?_
      refine tq_icmp_ne rX12_beside_59 (fun c5 => ?_) (fun c5 => ?_)
      · rw [if_neg c5] at hf
        refine tq_iload_n rX12_beside_66 rfl ?_
        refine tq_iconst (1 : Int32) rX12_beside_67 (by decide) ?_
        refine tq_iadd rX12_beside_68 ?_
        refine ty_iret rX12_beside_69 rfl rfl ?_
        have hf := Option.some.inj hf
        subst hf
        exact ⟨rfl, rfl, rfl⟩
      · rw [if_pos c5] at hf
        refine tq_iconst (-1 : Int32) rX12_beside_62 (by decide) ?_
        refine tq_goto rX12_beside_63 ?_
        refine ty_iret rX12_beside_69 rfl rfl ?_
        have hf := Option.some.inj hf
        subst hf
        exact ⟨rfl, rfl, rfl⟩
    · rw [if_neg c3] at hf
      by_cases c6 : a2 = 2
      · rw [if_pos c6] at hf
        refine tq_swIn (tgt := 70) 69 rX12_beside_1 (by rw [c6]; decide) (by rw [c6]; decide) (by rw [c6]; rfl) (by decide) ?_
        refine tq_iload_n rX12_beside_70 rfl ?_
        refine tq_aload_n rX12_beside_71 rfl ?_
        refine ty_getI rX12_beside_72 f_X12_148 rfl h0 ?_
        refine tq_iadd rX12_beside_75 ?_
        refine tq_aload_n rX12_beside_76 rfl ?_
        obtain ⟨p7, e7, hf⟩ := tq_let_elim hf
        refine ty_callVI p7 ([]) ([.int (a1 + (I a0 13))]) rX12_beside_77 l_X12_190 moX12_many mvX12_many h0 rfl rfl (Nat.le_of_ble_eq_true rfl) ⟨rfl, rfl⟩ (CX12_many h0 e7) ?_
        refine tq_icmp_lt rX12_beside_80 (fun c8 => ?_) (fun c8 => ?_)
        · rw [if_pos c8] at hf
          refine tq_iload_n rX12_beside_87 rfl ?_
          refine tq_aload_n rX12_beside_88 rfl ?_
          refine ty_getI rX12_beside_89 f_X12_148 rfl h0 ?_
          refine tq_iadd rX12_beside_92 ?_
          refine ty_iret rX12_beside_93 rfl rfl ?_
          have hf := Option.some.inj hf
          subst hf
          exact ⟨rfl, rfl, rfl⟩
        · rw [if_neg c8] at hf
          refine tq_iconst (-1 : Int32) rX12_beside_83 (by decide) ?_
          refine tq_goto rX12_beside_84 ?_
          refine ty_iret rX12_beside_93 rfl rfl ?_
          have hf := Option.some.inj hf
          subst hf
          exact ⟨rfl, rfl, rfl⟩
      · rw [if_neg c6] at hf
        have c1o := tq_ni (c := 0) c1 (by decide)
        have c3o := tq_ni (c := 1) c3 (by decide)
        have c6o := tq_ni (c := 2) c6 (by decide)
        refine tq_swOut (tgt := 94) rX12_beside_1 (by omega) (by decide) ?_
        refine tq_iload_n rX12_beside_94 rfl ?_
        refine tq_aload_n rX12_beside_95 rfl ?_
        refine ty_getI rX12_beside_96 f_X12_148 rfl h0 ?_
        obtain ⟨g9, hf⟩ := tq_chk hf
        refine tq_irem rX12_beside_99 g9 ?_
        refine tq_if_ne rX12_beside_100 (fun c10 => ?_) (fun c10 => ?_)
        · rw [if_neg c10] at hf
          refine tq_iload_n rX12_beside_107 rfl ?_
          refine tq_iconst (1 : Int32) rX12_beside_108 (by decide) ?_
          refine tq_isub rX12_beside_109 ?_
          refine ty_iret rX12_beside_110 rfl rfl ?_
          have hf := Option.some.inj hf
          subst hf
          exact ⟨rfl, rfl, rfl⟩
        · rw [if_pos c10] at hf
          refine tq_iconst (-1 : Int32) rX12_beside_103 (by decide) ?_
          refine tq_goto rX12_beside_104 ?_
          refine ty_iret rX12_beside_110 rfl rfl ?_
          have hf := Option.some.inj hf
          subst hf
          exact ⟨rfl, rfl, rfl⟩

abbrev mX12_outermost : tq_M := (yX12_outermost, cX12_outermost, 2, (Option.some Jvm.ClassFile.FieldType.int), 0, 0)
theorem rX12_outermost_0 : tq_D cX12_outermost 0 (.iload_n 1) 1 1 := ⟨by decide +kernel, rfl⟩
theorem rX12_outermost_1 : tq_J cX12_outermost 1 (.ifCond .ne) 8 4 := ⟨7, by decide +kernel, by decide, rfl⟩
theorem rX12_outermost_4 : tq_D cX12_outermost 4 (.iconst 0) 1 5 := ⟨by decide +kernel, rfl⟩
theorem rX12_outermost_5 : tq_J cX12_outermost 5 .goto 14 8 := ⟨9, by decide +kernel, by decide, rfl⟩
theorem rX12_outermost_8 : tq_D cX12_outermost 8 (.aload_n 0) 1 9 := ⟨by decide +kernel, rfl⟩
theorem rX12_outermost_9 : tq_D cX12_outermost 9 (.getfield 148) 3 12 := ⟨by decide +kernel, rfl⟩
theorem rX12_outermost_12 : tq_D cX12_outermost 12 (.iconst 1) 1 13 := ⟨by decide +kernel, rfl⟩
theorem rX12_outermost_13 : tq_D cX12_outermost 13 (.isub) 1 14 := ⟨by decide +kernel, rfl⟩
theorem rX12_outermost_14 : decode cX12_outermost 14 = .ok (.ireturn, 1) := by decide +kernel
noncomputable def FX12_outermost (I : tq_PI) (L : tq_PL) (a0 : Nat) (a1 : Int32) : Int32 :=
  (if a1 = 0 then (0 : Int32) else ((I a0 13) - (1 : Int32)))
set_option maxRecDepth 100000 in
set_option maxHeartbeats 4000000 in
theorem CX12_outermost {S : Nat × (Nat → Int32)} {d : Nat} {I : tq_PI} {L : tq_PL} {a0 : Nat} {a1 : Int32} (h0 : tq_sh0 a0 = 12) {out : Int32} (hf : FX12_outermost I L a0 a1 = out) : tq_K S mX12_outermost d [.ref a0, .int a1] I L (tq_one2 (some (.int out)) I L) := by
  unfold FX12_outermost at hf
  refine tq_K_of (by decide) (Nat.le_of_ble_eq_true rfl) (ls := [.ref a0, .int a1]) rfl ?_
  refine tq_iload_n rX12_outermost_0 rfl ?_
  refine tq_if_ne rX12_outermost_1 (fun c1 => ?_) (fun c1 => ?_)
  · rw [if_neg c1] at hf
    refine tq_aload_n rX12_outermost_8 rfl ?_
    refine ty_getI rX12_outermost_9 f_X12_148 rfl h0 ?_
    refine tq_iconst (1 : Int32) rX12_outermost_12 (by decide) ?_
    refine tq_isub rX12_outermost_13 ?_
    refine ty_iret rX12_outermost_14 rfl rfl ?_
    subst hf
    exact ⟨rfl, rfl, rfl⟩
  · rw [if_pos c1] at hf
    refine tq_iconst (0 : Int32) rX12_outermost_4 (by decide) ?_
    refine tq_goto rX12_outermost_5 ?_
    refine ty_iret rX12_outermost_14 rfl rfl ?_
    subst hf
    exact ⟨rfl, rfl, rfl⟩

abbrev mX12_reaches : tq_M := (yX12_reaches, cX12_reaches, 7, (Option.none : Option Jvm.ClassFile.FieldType), 0, 0)
theorem moX12_beside : tq_mok mX12_beside 2 := ⟨tq_sg1 _ (List.mem_of_getElem? (i := 13) rfl), tq_sg7 _ (List.mem_of_getElem? (i := 105) rfl), ⟨by decide, by decide, by decide +kernel⟩, by decide⟩
theorem mvX12_beside : 12 < 13 ∧ (tq_cl 12).1 = mX12_beside.1.cls ∧ Cond.instanceMethod mX12_beside.1 ∈ lw_tbl ∧ Cond.selects mX12_beside.1.cls mX12_beside.1 mX12_beside.1 ∈ lw_tbl := ⟨by decide, rfl, tq_sg7 _ (List.mem_of_getElem? (i := 104) rfl), List.mem_append_left _ (List.mem_map.mpr ⟨_, List.mem_of_getElem? (i := 66) rfl, rfl⟩)⟩
theorem moX12_outermost : tq_mok mX12_outermost 1 := ⟨tq_sg1 _ (List.mem_of_getElem? (i := 13) rfl), tq_sg7 _ (List.mem_of_getElem? (i := 93) rfl), ⟨by decide, by decide, by decide +kernel⟩, by decide⟩
theorem mvX12_outermost : 12 < 13 ∧ (tq_cl 12).1 = mX12_outermost.1.cls ∧ Cond.instanceMethod mX12_outermost.1 ∈ lw_tbl ∧ Cond.selects mX12_outermost.1.cls mX12_outermost.1 mX12_outermost.1 ∈ lw_tbl := ⟨by decide, rfl, tq_sg7 _ (List.mem_of_getElem? (i := 92) rfl), List.mem_append_left _ (List.mem_map.mpr ⟨_, List.mem_of_getElem? (i := 64) rfl, rfl⟩)⟩
theorem f_X12_23 : tq_fok RX12 23 12 16 := ⟨by decide, by decide, Or.inl (tq_sg6 _ (List.mem_of_getElem? (i := 89) rfl))⟩
theorem l_X12_202 : tq_lok RX12 202 mX12_outermost.1 := Or.inl (tq_sg7 _ (List.mem_of_getElem? (i := 90) rfl))
theorem l_X12_205 : tq_lok RX12 205 mX12_beside.1 := Or.inl (tq_sg7 _ (List.mem_of_getElem? (i := 102) rfl))
theorem rX12_reaches_0 : tq_D cX12_reaches 0 (.iconst 0) 1 1 := ⟨by decide +kernel, rfl⟩
theorem rX12_reaches_1 : tq_D cX12_reaches 1 (.istore_n 3) 1 2 := ⟨by decide +kernel, rfl⟩
theorem rX12_reaches_2 : tq_D cX12_reaches 2 (.iload_n 3) 1 3 := ⟨by decide +kernel, rfl⟩
theorem rX12_reaches_3 : tq_D cX12_reaches 3 (.aload_n 0) 1 4 := ⟨by decide +kernel, rfl⟩
theorem rX12_reaches_4 : tq_D cX12_reaches 4 (.invokevirtual 190) 3 7 := ⟨by decide +kernel, rfl⟩
theorem rX12_reaches_7 : tq_J cX12_reaches 7 (.if_icmp .ge) 50 10 := ⟨43, by decide +kernel, by decide, rfl⟩
theorem rX12_reaches_10 : tq_D cX12_reaches 10 (.aload_n 0) 1 11 := ⟨by decide +kernel, rfl⟩
theorem rX12_reaches_11 : tq_D cX12_reaches 11 (.getfield 23) 3 14 := ⟨by decide +kernel, rfl⟩
theorem rX12_reaches_14 : tq_D cX12_reaches 14 (.iload_n 3) 1 15 := ⟨by decide +kernel, rfl⟩
theorem rX12_reaches_15 : tq_D cX12_reaches 15 (.aload_n 0) 1 16 := ⟨by decide +kernel, rfl⟩
theorem rX12_reaches_16 : tq_D cX12_reaches 16 (.iload_n 1) 1 17 := ⟨by decide +kernel, rfl⟩
theorem rX12_reaches_17 : tq_D cX12_reaches 17 (.iload_n 3) 1 18 := ⟨by decide +kernel, rfl⟩
theorem rX12_reaches_18 : tq_D cX12_reaches 18 (.invokevirtual 193) 3 21 := ⟨by decide +kernel, rfl⟩
theorem rX12_reaches_21 : tq_J cX12_reaches 21 (.ifCond .ne) 42 24 := ⟨21, by decide +kernel, by decide, rfl⟩
theorem rX12_reaches_24 : tq_D cX12_reaches 24 (.iload_n 3) 1 25 := ⟨by decide +kernel, rfl⟩
theorem rX12_reaches_25 : tq_D cX12_reaches 25 (.aload_n 0) 1 26 := ⟨by decide +kernel, rfl⟩
theorem rX12_reaches_26 : tq_D cX12_reaches 26 (.getfield 148) 3 29 := ⟨by decide +kernel, rfl⟩
theorem rX12_reaches_29 : tq_D cX12_reaches 29 (.irem) 1 30 := ⟨by decide +kernel, rfl⟩
theorem rX12_reaches_30 : tq_D cX12_reaches 30 (.aload_n 0) 1 31 := ⟨by decide +kernel, rfl⟩
theorem rX12_reaches_31 : tq_D cX12_reaches 31 (.iload_n 2) 1 32 := ⟨by decide +kernel, rfl⟩
theorem rX12_reaches_32 : tq_D cX12_reaches 32 (.invokevirtual 202) 3 35 := ⟨by decide +kernel, rfl⟩
theorem rX12_reaches_35 : tq_J cX12_reaches 35 (.if_icmp .ne) 42 38 := ⟨7, by decide +kernel, by decide, rfl⟩
theorem rX12_reaches_38 : tq_D cX12_reaches 38 (.iconst 1) 1 39 := ⟨by decide +kernel, rfl⟩
theorem rX12_reaches_39 : tq_J cX12_reaches 39 .goto 43 42 := ⟨4, by decide +kernel, by decide, rfl⟩
theorem rX12_reaches_42 : tq_D cX12_reaches 42 (.iconst 0) 1 43 := ⟨by decide +kernel, rfl⟩
theorem rX12_reaches_43 : tq_D cX12_reaches 43 (.bastore) 1 44 := ⟨by decide +kernel, rfl⟩
theorem rX12_reaches_44 : tq_D cX12_reaches 44 (.iinc 3 1) 3 47 := ⟨by decide +kernel, rfl⟩
theorem rX12_reaches_47 : tq_J cX12_reaches 47 .goto 2 50 := ⟨(-45), by decide +kernel, by decide, rfl⟩
theorem rX12_reaches_50 : tq_D cX12_reaches 50 (.iconst 1) 1 51 := ⟨by decide +kernel, rfl⟩
theorem rX12_reaches_51 : tq_D cX12_reaches 51 (.istore_n 3) 1 52 := ⟨by decide +kernel, rfl⟩
theorem rX12_reaches_52 : tq_D cX12_reaches 52 (.iload_n 3) 1 53 := ⟨by decide +kernel, rfl⟩
theorem rX12_reaches_53 : tq_J cX12_reaches 53 (.ifCond .eq) 153 56 := ⟨100, by decide +kernel, by decide, rfl⟩
theorem rX12_reaches_56 : tq_D cX12_reaches 56 (.iconst 0) 1 57 := ⟨by decide +kernel, rfl⟩
theorem rX12_reaches_57 : tq_D cX12_reaches 57 (.istore_n 3) 1 58 := ⟨by decide +kernel, rfl⟩
theorem rX12_reaches_58 : tq_D cX12_reaches 58 (.iconst 0) 1 59 := ⟨by decide +kernel, rfl⟩
theorem rX12_reaches_59 : tq_D cX12_reaches 59 (.istore 4) 2 61 := ⟨by decide +kernel, rfl⟩
theorem rX12_reaches_61 : tq_D cX12_reaches 61 (.iload 4) 2 63 := ⟨by decide +kernel, rfl⟩
theorem rX12_reaches_63 : tq_D cX12_reaches 63 (.aload_n 0) 1 64 := ⟨by decide +kernel, rfl⟩
theorem rX12_reaches_64 : tq_D cX12_reaches 64 (.invokevirtual 190) 3 67 := ⟨by decide +kernel, rfl⟩
theorem rX12_reaches_67 : tq_J cX12_reaches 67 (.if_icmp .ge) 150 70 := ⟨83, by decide +kernel, by decide, rfl⟩
theorem rX12_reaches_70 : tq_D cX12_reaches 70 (.iconst 0) 1 71 := ⟨by decide +kernel, rfl⟩
theorem rX12_reaches_71 : tq_D cX12_reaches 71 (.istore 5) 2 73 := ⟨by decide +kernel, rfl⟩
theorem rX12_reaches_73 : tq_D cX12_reaches 73 (.iload 5) 2 75 := ⟨by decide +kernel, rfl⟩
theorem rX12_reaches_75 : tq_D cX12_reaches 75 (.iconst 4) 1 76 := ⟨by decide +kernel, rfl⟩
theorem rX12_reaches_76 : tq_J cX12_reaches 76 (.if_icmp .ge) 144 79 := ⟨68, by decide +kernel, by decide, rfl⟩
theorem rX12_reaches_79 : tq_D cX12_reaches 79 (.aload_n 0) 1 80 := ⟨by decide +kernel, rfl⟩
theorem rX12_reaches_80 : tq_D cX12_reaches 80 (.getfield 23) 3 83 := ⟨by decide +kernel, rfl⟩
theorem rX12_reaches_83 : tq_D cX12_reaches 83 (.iload 4) 2 85 := ⟨by decide +kernel, rfl⟩
theorem rX12_reaches_85 : tq_D cX12_reaches 85 (.baload) 1 86 := ⟨by decide +kernel, rfl⟩
theorem rX12_reaches_86 : tq_J cX12_reaches 86 (.ifCond .eq) 144 89 := ⟨58, by decide +kernel, by decide, rfl⟩
theorem rX12_reaches_89 : tq_D cX12_reaches 89 (.aload_n 0) 1 90 := ⟨by decide +kernel, rfl⟩
theorem rX12_reaches_90 : tq_D cX12_reaches 90 (.iload 4) 2 92 := ⟨by decide +kernel, rfl⟩
theorem rX12_reaches_92 : tq_D cX12_reaches 92 (.iload 5) 2 94 := ⟨by decide +kernel, rfl⟩
theorem rX12_reaches_94 : tq_D cX12_reaches 94 (.invokevirtual 205) 3 97 := ⟨by decide +kernel, rfl⟩
theorem rX12_reaches_97 : tq_D cX12_reaches 97 (.istore 6) 2 99 := ⟨by decide +kernel, rfl⟩
theorem rX12_reaches_99 : tq_D cX12_reaches 99 (.iload 6) 2 101 := ⟨by decide +kernel, rfl⟩
theorem rX12_reaches_101 : tq_D cX12_reaches 101 (.iconst (-1)) 1 102 := ⟨by decide +kernel, rfl⟩
theorem rX12_reaches_102 : tq_J cX12_reaches 102 (.if_icmp .eq) 138 105 := ⟨36, by decide +kernel, by decide, rfl⟩
theorem rX12_reaches_105 : tq_D cX12_reaches 105 (.aload_n 0) 1 106 := ⟨by decide +kernel, rfl⟩
theorem rX12_reaches_106 : tq_D cX12_reaches 106 (.getfield 23) 3 109 := ⟨by decide +kernel, rfl⟩
theorem rX12_reaches_109 : tq_D cX12_reaches 109 (.iload 6) 2 111 := ⟨by decide +kernel, rfl⟩
theorem rX12_reaches_111 : tq_D cX12_reaches 111 (.baload) 1 112 := ⟨by decide +kernel, rfl⟩
theorem rX12_reaches_112 : tq_J cX12_reaches 112 (.ifCond .ne) 138 115 := ⟨26, by decide +kernel, by decide, rfl⟩
theorem rX12_reaches_115 : tq_D cX12_reaches 115 (.aload_n 0) 1 116 := ⟨by decide +kernel, rfl⟩
theorem rX12_reaches_116 : tq_D cX12_reaches 116 (.iload_n 1) 1 117 := ⟨by decide +kernel, rfl⟩
theorem rX12_reaches_117 : tq_D cX12_reaches 117 (.iload 6) 2 119 := ⟨by decide +kernel, rfl⟩
theorem rX12_reaches_119 : tq_D cX12_reaches 119 (.invokevirtual 193) 3 122 := ⟨by decide +kernel, rfl⟩
theorem rX12_reaches_122 : tq_J cX12_reaches 122 (.ifCond .eq) 128 125 := ⟨6, by decide +kernel, by decide, rfl⟩
theorem rX12_reaches_125 : tq_J cX12_reaches 125 .goto 138 128 := ⟨13, by decide +kernel, by decide, rfl⟩
theorem rX12_reaches_128 : tq_D cX12_reaches 128 (.aload_n 0) 1 129 := ⟨by decide +kernel, rfl⟩
theorem rX12_reaches_129 : tq_D cX12_reaches 129 (.getfield 23) 3 132 := ⟨by decide +kernel, rfl⟩
theorem rX12_reaches_132 : tq_D cX12_reaches 132 (.iload 6) 2 134 := ⟨by decide +kernel, rfl⟩
theorem rX12_reaches_134 : tq_D cX12_reaches 134 (.iconst 1) 1 135 := ⟨by decide +kernel, rfl⟩
theorem rX12_reaches_135 : tq_D cX12_reaches 135 (.bastore) 1 136 := ⟨by decide +kernel, rfl⟩
theorem rX12_reaches_136 : tq_D cX12_reaches 136 (.iconst 1) 1 137 := ⟨by decide +kernel, rfl⟩
theorem rX12_reaches_137 : tq_D cX12_reaches 137 (.istore_n 3) 1 138 := ⟨by decide +kernel, rfl⟩
theorem rX12_reaches_138 : tq_D cX12_reaches 138 (.iinc 5 1) 3 141 := ⟨by decide +kernel, rfl⟩
theorem rX12_reaches_141 : tq_J cX12_reaches 141 .goto 73 144 := ⟨(-68), by decide +kernel, by decide, rfl⟩
theorem rX12_reaches_144 : tq_D cX12_reaches 144 (.iinc 4 1) 3 147 := ⟨by decide +kernel, rfl⟩
theorem rX12_reaches_147 : tq_J cX12_reaches 147 .goto 61 150 := ⟨(-86), by decide +kernel, by decide, rfl⟩
theorem rX12_reaches_150 : tq_J cX12_reaches 150 .goto 52 153 := ⟨(-98), by decide +kernel, by decide, rfl⟩
theorem rX12_reaches_153 : decode cX12_reaches 153 = .ok (.return_, 1) := by decide +kernel
noncomputable def FX12_reaches_j43L2 (I : tq_PI) (L : tq_PL) (a0 : Nat) (a1 : Int32) (a2 : Int32) (a3 : Int32) (b0 : Int32) (b1 : Int32) (b2 : Nat) : Option ((Int32 × tq_PI) ⊕ (tq_PI)) :=
  (if 0 ≤ b1 ∧ b1 < 48 ∧ (b0 = 0 ∨ b0 = 1) then some (.inl ((a3 + 1), (tq_up2 I b2 b1.toNatClampNeg b0))) else none)
noncomputable def FX12_reaches_j42L2 (I : tq_PI) (L : tq_PL) (a0 : Nat) (a1 : Int32) (a2 : Int32) (a3 : Int32) (b0 : Int32) (b1 : Nat) : Option ((Int32 × tq_PI) ⊕ (tq_PI)) :=
  (FX12_reaches_j43L2 I L a0 a1 a2 a3 ((0 : Int32)) b0 b1)
noncomputable def FX12_reaches_s2 (I : tq_PI) (L : tq_PL) (a0 : Nat) (a1 : Int32) (a2 : Int32) (a3 : Int32) : Option ((Int32 × tq_PI) ⊕ (tq_PI)) :=
  (tq_let (FX12_many I L a0) fun p1 => (if p1 ≤ a3 then some (.inr I) else ((FX12_kindOf I L a0 a1 a3).bind fun p3 => (if p3 = 0 then (if ¬ (I a0 13) = 0 then (tq_let (FX12_outermost I L a0 a2) fun p8 => (if (a3 - a3 / (I a0 13) * (I a0 13)) = p8 then (FX12_reaches_j43L2 I L a0 a1 a2 a3 ((1 : Int32)) a3 ((tq_rg a0 16))) else (FX12_reaches_j42L2 I L a0 a1 a2 a3 a3 ((tq_rg a0 16))))) else none) else (FX12_reaches_j42L2 I L a0 a1 a2 a3 a3 ((tq_rg a0 16)))))))
noncomputable def FX12_reaches_j138L73 (I : tq_PI) (L : tq_PL) (a0 : Nat) (a1 : Int32) (a3 : Int32) (a4 : Int32) (a5 : Int32) : Option ((Int32 × Int32 × tq_PI) ⊕ (Int32 × tq_PI)) :=
  some (.inl (a3, (a5 + 1), I))
noncomputable def FX12_reaches_s73 (I : tq_PI) (L : tq_PL) (a0 : Nat) (a1 : Int32) (a4 : Int32) (a3 : Int32) (a5 : Int32) : Option ((Int32 × Int32 × tq_PI) ⊕ (Int32 × tq_PI)) :=
  (if (4 : Int32) ≤ a5 then some (.inr (a3, I)) else (if 0 ≤ a4 ∧ a4 < 48 then (if (I (tq_rg a0 16) a4.toNatClampNeg) = 0 then some (.inr (a3, I)) else ((FX12_beside I L a0 a4 a5).bind fun p17 => (if p17 = (-1 : Int32) then (FX12_reaches_j138L73 I L a0 a1 a3 a4 a5) else (if 0 ≤ p17 ∧ p17 < 48 then (if (I (tq_rg a0 16) p17.toNatClampNeg) = 0 then ((FX12_kindOf I L a0 a1 p17).bind fun p21 => (if p21 = 0 then (if 0 ≤ p17 ∧ p17 < 48 then (FX12_reaches_j138L73 ((tq_up2 I (tq_rg a0 16) p17.toNatClampNeg (1 : Int32))) L a0 a1 ((1 : Int32)) a4 a5) else none) else (FX12_reaches_j138L73 I L a0 a1 a3 a4 a5))) else (FX12_reaches_j138L73 I L a0 a1 a3 a4 a5)) else none)))) else none))
noncomputable def FX12_reaches_s61 (I : tq_PI) (L : tq_PL) (a0 : Nat) (a1 : Int32) (a3 : Int32) (a4 : Int32) : Option ((Int32 × Int32 × tq_PI) ⊕ (Int32 × tq_PI)) :=
  (tq_let (FX12_many I L a0) fun p12 => (if p12 ≤ a4 then some (.inr (a3, I)) else ((tq_it (fun p : Int32 × Int32 × tq_PI => FX12_reaches_s73 p.2.2 L a0 a1 a4 p.1 p.2.1) tq_N (a3, (0 : Int32), I)).bind fun p24 => some (.inl (p24.1, (a4 + 1), p24.2)))))
noncomputable def FX12_reaches_s52 (I : tq_PI) (L : tq_PL) (a0 : Nat) (a1 : Int32) (a3 : Int32) : Option ((Int32 × tq_PI) ⊕ (tq_PI)) :=
  (if a3 = 0 then some (.inr I) else ((tq_it (fun p : Int32 × Int32 × tq_PI => FX12_reaches_s61 p.2.2 L a0 a1 p.1 p.2.1) tq_N ((0 : Int32), (0 : Int32), I)).bind fun p25 => some (.inl (p25.1, p25.2))))
noncomputable def FX12_reaches (I : tq_PI) (L : tq_PL) (a0 : Nat) (a1 : Int32) (a2 : Int32) : Option (tq_PI) :=
  ((tq_it (fun p : Int32 × tq_PI => FX12_reaches_s2 p.2 L a0 a1 a2 p.1) tq_N ((0 : Int32), I)).bind fun p10 => ((tq_it (fun p : Int32 × tq_PI => FX12_reaches_s52 p.2 L a0 a1 p.1) tq_N ((1 : Int32), p10)).bind fun p26 => some p26))
set_option maxRecDepth 100000 in
set_option maxHeartbeats 4000000 in
theorem FX12_reaches_j43L2_x {S : Nat × (Nat → Int32)} {d : Nat} {I : tq_PI} {L : tq_PL} {a0 : Nat} {a1 : Int32} {a2 : Int32} {a3 : Int32} {b0 : Int32} {b1 : Int32} {b2 : Nat} (h0 : tq_sh0 a0 = 12) (k2 : tq_sh0 b2 = 103) (k2n : tq_ln0 b2 = 48) {q0 : Option Value → tq_PI → tq_PL → Prop} {out : (Int32 × tq_PI) ⊕ (tq_PI)} (hf : FX12_reaches_j43L2 I L a0 a1 a2 a3 b0 b1 b2 = some out) (hk : Sum.elim (fun p : Int32 × tq_PI => tq_X S mX12_reaches (d + 2) tq_k0 2 ([.ref a0, .int a1, .int a2, .int p.1, tq_u, tq_u, tq_u]) [] (tq_st p.2 L) (tq_Q q0)) (fun p : tq_PI => tq_X S mX12_reaches (d + 2) tq_k0 50 ([.ref a0, .int a1, tq_u, tq_u, tq_u, tq_u, tq_u]) [] (tq_st p L) (tq_Q q0)) out) : tq_X S mX12_reaches (d + 2) tq_k0 43 ([.ref a0, .int a1, .int a2, .int a3, tq_u, tq_u, tq_u]) ([.int b0, .int b1, .ref b2]) (tq_st I L) (tq_Q q0) := by
  unfold FX12_reaches_j43L2 at hf
  obtain ⟨g5, hf⟩ := tq_chk hf
  refine ty_zast (v := 48) rX12_reaches_43 k2 k2n rfl (by decide) ⟨g5.1, g5.2.1⟩ g5.2.2 ?_
  refine tq_iinc (a3 + 1) ([.ref a0, .int a1, .int a2, .int (a3 + 1), tq_u, tq_u, tq_u]) rX12_reaches_44 rfl (tq_inc (by decide)) (Nat.le_of_ble_eq_true rfl) rfl ?_
  refine tq_goto rX12_reaches_47 ?_
  have hf := Option.some.inj hf
  subst hf
  exact tq_forget _ (tq_le_s (tq_le_s (tq_le_s (tq_le_s (tq_le_u (tq_le_u (tq_le_u tq_le_n))))))) hk

set_option maxRecDepth 100000 in
set_option maxHeartbeats 4000000 in
theorem FX12_reaches_j42L2_x {S : Nat × (Nat → Int32)} {d : Nat} {I : tq_PI} {L : tq_PL} {a0 : Nat} {a1 : Int32} {a2 : Int32} {a3 : Int32} {b0 : Int32} {b1 : Nat} (h0 : tq_sh0 a0 = 12) (k1 : tq_sh0 b1 = 103) (k1n : tq_ln0 b1 = 48) {q0 : Option Value → tq_PI → tq_PL → Prop} {out : (Int32 × tq_PI) ⊕ (tq_PI)} (hf : FX12_reaches_j42L2 I L a0 a1 a2 a3 b0 b1 = some out) (hk : Sum.elim (fun p : Int32 × tq_PI => tq_X S mX12_reaches (d + 2) tq_k0 2 ([.ref a0, .int a1, .int a2, .int p.1, tq_u, tq_u, tq_u]) [] (tq_st p.2 L) (tq_Q q0)) (fun p : tq_PI => tq_X S mX12_reaches (d + 2) tq_k0 50 ([.ref a0, .int a1, tq_u, tq_u, tq_u, tq_u, tq_u]) [] (tq_st p L) (tq_Q q0)) out) : tq_X S mX12_reaches (d + 2) tq_k0 42 ([.ref a0, .int a1, .int a2, .int a3, tq_u, tq_u, tq_u]) ([.int b0, .ref b1]) (tq_st I L) (tq_Q q0) := by
  unfold FX12_reaches_j42L2 at hf
  refine tq_iconst (0 : Int32) rX12_reaches_42 (by decide) ?_
  exact tq_forget _ (tq_le_s (tq_le_s (tq_le_s (tq_le_s (tq_le_u (tq_le_u (tq_le_u tq_le_n))))))) (FX12_reaches_j43L2_x  h0 k1 k1n hf hk)

set_option maxRecDepth 100000 in
set_option maxHeartbeats 4000000 in
theorem FX12_reaches_s2_x {S : Nat × (Nat → Int32)} {d : Nat} {I : tq_PI} {L : tq_PL} {a0 : Nat} {a1 : Int32} {a2 : Int32} {a3 : Int32} (h0 : tq_sh0 a0 = 12) {q0 : Option Value → tq_PI → tq_PL → Prop} {out : (Int32 × tq_PI) ⊕ (tq_PI)} (hf : FX12_reaches_s2 I L a0 a1 a2 a3 = some out) (hk : Sum.elim (fun p : Int32 × tq_PI => tq_X S mX12_reaches (d + 2) tq_k0 2 ([.ref a0, .int a1, .int a2, .int p.1, tq_u, tq_u, tq_u]) [] (tq_st p.2 L) (tq_Q q0)) (fun p : tq_PI => tq_X S mX12_reaches (d + 2) tq_k0 50 ([.ref a0, .int a1, tq_u, tq_u, tq_u, tq_u, tq_u]) [] (tq_st p L) (tq_Q q0)) out) : tq_X S mX12_reaches (d + 2) tq_k0 2 ([.ref a0, .int a1, .int a2, .int a3, tq_u, tq_u, tq_u]) [] (tq_st I L) (tq_Q q0) := by
  unfold FX12_reaches_s2 at hf
  refine tq_iload_n rX12_reaches_2 rfl ?_
  refine tq_aload_n rX12_reaches_3 rfl ?_
  obtain ⟨p1, e1, hf⟩ := tq_let_elim hf
  refine ty_callVI p1 ([]) ([.int a3]) rX12_reaches_4 l_X12_190 moX12_many mvX12_many h0 rfl rfl (Nat.le_of_ble_eq_true rfl) ⟨rfl, rfl⟩ (CX12_many h0 e1) ?_
  refine tq_icmp_ge rX12_reaches_7 (fun c2 => ?_) (fun c2 => ?_)
  · rw [if_pos c2] at hf
    have hf := Option.some.inj hf
    subst hf
    exact tq_forget _ (tq_le_s (tq_le_s (tq_le_u (tq_le_u (tq_le_u (tq_le_u (tq_le_u tq_le_n))))))) hk
  · rw [if_neg c2] at hf
    refine tq_aload_n rX12_reaches_10 rfl ?_
    refine ty_getR rX12_reaches_11 f_X12_23 rfl h0 (hp_12_16 h0).1 ?_
    refine tq_iload_n rX12_reaches_14 rfl ?_
    refine tq_aload_n rX12_reaches_15 rfl ?_
    refine tq_iload_n rX12_reaches_16 rfl ?_
    refine tq_iload_n rX12_reaches_17 rfl ?_
    obtain ⟨p3, e3, hf⟩ := Option.bind_eq_some_iff.mp hf
    refine ty_callVI p3 ([.int a1, .int a3]) ([.int a3, .ref (tq_rg a0 16)]) rX12_reaches_18 l_X12_193 moX12_kindOf mvX12_kindOf h0 rfl rfl (Nat.le_of_ble_eq_true rfl) ⟨rfl, rfl⟩ (CX12_kindOf h0 e3) ?_
    refine tq_if_ne rX12_reaches_21 (fun c4 => ?_) (fun c4 => ?_)
    · rw [if_neg c4] at hf
      exact tq_forget _ (tq_le_s (tq_le_s (tq_le_s (tq_le_s (tq_le_u (tq_le_u (tq_le_u tq_le_n))))))) (FX12_reaches_j42L2_x  h0 (hp_12_16 h0).2.1 (hp_12_16 h0).2.2 hf hk)
    · rw [if_pos c4] at hf
      refine tq_iload_n rX12_reaches_24 rfl ?_
      refine tq_aload_n rX12_reaches_25 rfl ?_
      refine ty_getI rX12_reaches_26 f_X12_148 rfl h0 ?_
      obtain ⟨g7, hf⟩ := tq_chk hf
      refine tq_irem rX12_reaches_29 g7 ?_
      refine tq_aload_n rX12_reaches_30 rfl ?_
      refine tq_iload_n rX12_reaches_31 rfl ?_
      obtain ⟨p8, e8, hf⟩ := tq_let_elim hf
      refine ty_callVI p8 ([.int a2]) ([.int (a3 - a3 / (I a0 13) * (I a0 13)), .int a3, .ref (tq_rg a0 16)]) rX12_reaches_32 l_X12_202 moX12_outermost mvX12_outermost h0 rfl rfl (Nat.le_of_ble_eq_true rfl) ⟨rfl, rfl⟩ (CX12_outermost h0 e8) ?_
      refine tq_icmp_ne rX12_reaches_35 (fun c9 => ?_) (fun c9 => ?_)
      · rw [if_neg c9] at hf
        exact tq_forget _ (tq_le_s (tq_le_s (tq_le_s (tq_le_s (tq_le_u (tq_le_u (tq_le_u tq_le_n))))))) (FX12_reaches_j42L2_x  h0 (hp_12_16 h0).2.1 (hp_12_16 h0).2.2 hf hk)
      · rw [if_pos c9] at hf
        refine tq_iconst (1 : Int32) rX12_reaches_38 (by decide) ?_
        refine tq_goto rX12_reaches_39 ?_
        exact tq_forget _ (tq_le_s (tq_le_s (tq_le_s (tq_le_s (tq_le_u (tq_le_u (tq_le_u tq_le_n))))))) (FX12_reaches_j43L2_x  h0 (hp_12_16 h0).2.1 (hp_12_16 h0).2.2 hf hk)

set_option maxRecDepth 100000 in
set_option maxHeartbeats 4000000 in
theorem FX12_reaches_j138L73_x {S : Nat × (Nat → Int32)} {d : Nat} {I : tq_PI} {L : tq_PL} {a0 : Nat} {a1 : Int32} {a3 : Int32} {a4 : Int32} {a5 : Int32} (h0 : tq_sh0 a0 = 12) {q0 : Option Value → tq_PI → tq_PL → Prop} {out : (Int32 × Int32 × tq_PI) ⊕ (Int32 × tq_PI)} (hf : FX12_reaches_j138L73 I L a0 a1 a3 a4 a5 = some out) (hk : Sum.elim (fun p : Int32 × Int32 × tq_PI => tq_X S mX12_reaches (d + 2) tq_k0 73 ([.ref a0, .int a1, tq_u, .int p.1, .int a4, .int p.2.1, tq_u]) [] (tq_st p.2.2 L) (tq_Q q0)) (fun p : Int32 × tq_PI => tq_X S mX12_reaches (d + 2) tq_k0 144 ([.ref a0, .int a1, tq_u, .int p.1, .int a4, tq_u, tq_u]) [] (tq_st p.2 L) (tq_Q q0)) out) : tq_X S mX12_reaches (d + 2) tq_k0 138 ([.ref a0, .int a1, tq_u, .int a3, .int a4, .int a5, tq_u]) ([]) (tq_st I L) (tq_Q q0) := by
  unfold FX12_reaches_j138L73 at hf
  refine tq_iinc (a5 + 1) ([.ref a0, .int a1, tq_u, .int a3, .int a4, .int (a5 + 1), tq_u]) rX12_reaches_138 rfl (tq_inc (by decide)) (Nat.le_of_ble_eq_true rfl) rfl ?_
  refine tq_goto rX12_reaches_141 ?_
  have hf := Option.some.inj hf
  subst hf
  exact tq_forget _ (tq_le_s (tq_le_s (tq_le_u (tq_le_s (tq_le_s (tq_le_s (tq_le_u tq_le_n))))))) hk

set_option maxRecDepth 100000 in
set_option maxHeartbeats 4000000 in
theorem FX12_reaches_s73_x {S : Nat × (Nat → Int32)} {d : Nat} {I : tq_PI} {L : tq_PL} {a0 : Nat} {a1 : Int32} {a4 : Int32} {a3 : Int32} {a5 : Int32} (h0 : tq_sh0 a0 = 12) {q0 : Option Value → tq_PI → tq_PL → Prop} {out : (Int32 × Int32 × tq_PI) ⊕ (Int32 × tq_PI)} (hf : FX12_reaches_s73 I L a0 a1 a4 a3 a5 = some out) (hk : Sum.elim (fun p : Int32 × Int32 × tq_PI => tq_X S mX12_reaches (d + 2) tq_k0 73 ([.ref a0, .int a1, tq_u, .int p.1, .int a4, .int p.2.1, tq_u]) [] (tq_st p.2.2 L) (tq_Q q0)) (fun p : Int32 × tq_PI => tq_X S mX12_reaches (d + 2) tq_k0 144 ([.ref a0, .int a1, tq_u, .int p.1, .int a4, tq_u, tq_u]) [] (tq_st p.2 L) (tq_Q q0)) out) : tq_X S mX12_reaches (d + 2) tq_k0 73 ([.ref a0, .int a1, tq_u, .int a3, .int a4, .int a5, tq_u]) [] (tq_st I L) (tq_Q q0) := by
  unfold FX12_reaches_s73 at hf
  refine tq_iload rX12_reaches_73 rfl ?_
  refine tq_iconst (4 : Int32) rX12_reaches_75 (by decide) ?_
  refine tq_icmp_ge rX12_reaches_76 (fun c14 => ?_) (fun c14 => ?_)
  · rw [if_pos c14] at hf
    have hf := Option.some.inj hf
    subst hf
    exact tq_forget _ (tq_le_s (tq_le_s (tq_le_u (tq_le_s (tq_le_s (tq_le_u (tq_le_u tq_le_n))))))) hk
  · rw [if_neg c14] at hf
    refine tq_aload_n rX12_reaches_79 rfl ?_
    refine ty_getR rX12_reaches_80 f_X12_23 rfl h0 (hp_12_16 h0).1 ?_
    refine tq_iload rX12_reaches_83 rfl ?_
    obtain ⟨g15, hf⟩ := tq_chk hf
    refine ty_zald (v := 48) rX12_reaches_85 (hp_12_16 h0).2.1 (hp_12_16 h0).2.2 rfl (by decide) g15 ?_
    refine tq_if_eq rX12_reaches_86 (fun c16 => ?_) (fun c16 => ?_)
    · rw [if_pos c16] at hf
      have hf := Option.some.inj hf
      subst hf
      exact tq_forget _ (tq_le_s (tq_le_s (tq_le_u (tq_le_s (tq_le_s (tq_le_u (tq_le_u tq_le_n))))))) hk
    · rw [if_neg c16] at hf
      refine tq_aload_n rX12_reaches_89 rfl ?_
      refine tq_iload rX12_reaches_90 rfl ?_
      refine tq_iload rX12_reaches_92 rfl ?_
      obtain ⟨p17, e17, hf⟩ := Option.bind_eq_some_iff.mp hf
      refine ty_callVI p17 ([.int a4, .int a5]) ([]) rX12_reaches_94 l_X12_205 moX12_beside mvX12_beside h0 rfl rfl (Nat.le_of_ble_eq_true rfl) ⟨rfl, rfl⟩ (CX12_beside h0 e17) ?_
      refine tq_istore ([.ref a0, .int a1, tq_u, .int a3, .int a4, .int a5, .int p17]) rX12_reaches_97 (Nat.le_of_ble_eq_true rfl) rfl ?_
      refine tq_iload rX12_reaches_99 rfl ?_
      refine tq_iconst (-1 : Int32) rX12_reaches_101 (by decide) ?_
      refine tq_icmp_eq rX12_reaches_102 (fun c18 => ?_) (fun c18 => ?_)
      · rw [if_pos c18] at hf
        exact tq_forget _ (tq_le_s (tq_le_s (tq_le_u (tq_le_s (tq_le_s (tq_le_s (tq_le_u tq_le_n))))))) (FX12_reaches_j138L73_x  h0 hf hk)
      · rw [if_neg c18] at hf
        refine tq_aload_n rX12_reaches_105 rfl ?_
        refine ty_getR rX12_reaches_106 f_X12_23 rfl h0 (hp_12_16 h0).1 ?_
        refine tq_iload rX12_reaches_109 rfl ?_
        obtain ⟨g19, hf⟩ := tq_chk hf
        refine ty_zald (v := 48) rX12_reaches_111 (hp_12_16 h0).2.1 (hp_12_16 h0).2.2 rfl (by decide) g19 ?_
        refine tq_if_ne rX12_reaches_112 (fun c20 => ?_) (fun c20 => ?_)
        · rw [if_neg c20] at hf
          exact tq_forget _ (tq_le_s (tq_le_s (tq_le_u (tq_le_s (tq_le_s (tq_le_s (tq_le_u tq_le_n))))))) (FX12_reaches_j138L73_x  h0 hf hk)
        · rw [if_pos c20] at hf
          refine tq_aload_n rX12_reaches_115 rfl ?_
          refine tq_iload_n rX12_reaches_116 rfl ?_
          refine tq_iload rX12_reaches_117 rfl ?_
          obtain ⟨p21, e21, hf⟩ := Option.bind_eq_some_iff.mp hf
          refine ty_callVI p21 ([.int a1, .int p17]) ([]) rX12_reaches_119 l_X12_193 moX12_kindOf mvX12_kindOf h0 rfl rfl (Nat.le_of_ble_eq_true rfl) ⟨rfl, rfl⟩ (CX12_kindOf h0 e21) ?_
          refine tq_if_eq rX12_reaches_122 (fun c22 => ?_) (fun c22 => ?_)
          · rw [if_pos c22] at hf
            refine tq_aload_n rX12_reaches_128 rfl ?_
            refine ty_getR rX12_reaches_129 f_X12_23 rfl h0 (hp_12_16 h0).1 ?_
            refine tq_iload rX12_reaches_132 rfl ?_
            refine tq_iconst (1 : Int32) rX12_reaches_134 (by decide) ?_
            obtain ⟨g23, hf⟩ := tq_chk hf
            refine ty_zast (v := 48) rX12_reaches_135 (hp_12_16 h0).2.1 (hp_12_16 h0).2.2 rfl (by decide) g23 (by decide) ?_
            refine tq_iconst (1 : Int32) rX12_reaches_136 (by decide) ?_
            refine tq_istore_n ([.ref a0, .int a1, tq_u, .int (1 : Int32), .int a4, .int a5, .int p17]) rX12_reaches_137 (Nat.le_of_ble_eq_true rfl) rfl ?_
            exact tq_forget _ (tq_le_s (tq_le_s (tq_le_u (tq_le_s (tq_le_s (tq_le_s (tq_le_u tq_le_n))))))) (FX12_reaches_j138L73_x  h0 hf hk)
          · rw [if_neg c22] at hf
            refine tq_goto rX12_reaches_125 ?_
            exact tq_forget _ (tq_le_s (tq_le_s (tq_le_u (tq_le_s (tq_le_s (tq_le_s (tq_le_u tq_le_n))))))) (FX12_reaches_j138L73_x  h0 hf hk)

set_option maxRecDepth 100000 in
set_option maxHeartbeats 4000000 in
theorem FX12_reaches_s61_x {S : Nat × (Nat → Int32)} {d : Nat} {I : tq_PI} {L : tq_PL} {a0 : Nat} {a1 : Int32} {a3 : Int32} {a4 : Int32} (h0 : tq_sh0 a0 = 12) {q0 : Option Value → tq_PI → tq_PL → Prop} {out : (Int32 × Int32 × tq_PI) ⊕ (Int32 × tq_PI)} (hf : FX12_reaches_s61 I L a0 a1 a3 a4 = some out) (hk : Sum.elim (fun p : Int32 × Int32 × tq_PI => tq_X S mX12_reaches (d + 2) tq_k0 61 ([.ref a0, .int a1, tq_u, .int p.1, .int p.2.1, tq_u, tq_u]) [] (tq_st p.2.2 L) (tq_Q q0)) (fun p : Int32 × tq_PI => tq_X S mX12_reaches (d + 2) tq_k0 150 ([.ref a0, .int a1, tq_u, .int p.1, tq_u, tq_u, tq_u]) [] (tq_st p.2 L) (tq_Q q0)) out) : tq_X S mX12_reaches (d + 2) tq_k0 61 ([.ref a0, .int a1, tq_u, .int a3, .int a4, tq_u, tq_u]) [] (tq_st I L) (tq_Q q0) := by
  unfold FX12_reaches_s61 at hf
  refine tq_iload rX12_reaches_61 rfl ?_
  refine tq_aload_n rX12_reaches_63 rfl ?_
  obtain ⟨p12, e12, hf⟩ := tq_let_elim hf
  refine ty_callVI p12 ([]) ([.int a4]) rX12_reaches_64 l_X12_190 moX12_many mvX12_many h0 rfl rfl (Nat.le_of_ble_eq_true rfl) ⟨rfl, rfl⟩ (CX12_many h0 e12) ?_
  refine tq_icmp_ge rX12_reaches_67 (fun c13 => ?_) (fun c13 => ?_)
  · rw [if_pos c13] at hf
    have hf := Option.some.inj hf
    subst hf
    exact tq_forget _ (tq_le_s (tq_le_s (tq_le_u (tq_le_s (tq_le_u (tq_le_u (tq_le_u tq_le_n))))))) hk
  · rw [if_neg c13] at hf
    refine tq_iconst (0 : Int32) rX12_reaches_70 (by decide) ?_
    refine tq_istore ([.ref a0, .int a1, tq_u, .int a3, .int a4, .int (0 : Int32), tq_u]) rX12_reaches_71 (Nat.le_of_ble_eq_true rfl) rfl ?_
    obtain ⟨p24, e24, hf⟩ := Option.bind_eq_some_iff.mp hf
    refine tq_forget _ (tq_le_s (tq_le_s (tq_le_u (tq_le_s (tq_le_s (tq_le_s (tq_le_u tq_le_n))))))) ?_
    refine tq_it_elim (P := fun p : Int32 × Int32 × tq_PI => tq_X S mX12_reaches (d + 2) tq_k0 73 ([.ref a0, .int a1, tq_u, .int p.1, .int a4, .int p.2.1, tq_u]) [] (tq_st p.2.2 L) (tq_Q q0)) (R := fun p : Int32 × tq_PI => tq_X S mX12_reaches (d + 2) tq_k0 144 ([.ref a0, .int a1, tq_u, .int p.1, .int a4, tq_u, tq_u]) [] (tq_st p.2 L) (tq_Q q0)) (fun p o hp hk => FX12_reaches_s73_x  h0 hp hk) _ ((a3, (0 : Int32), I)) _ e24 ?_
    show tq_X _ _ _ _ _ _ _ _ _
    refine tq_iinc (a4 + 1) ([.ref a0, .int a1, tq_u, .int p24.1, .int (a4 + 1), tq_u, tq_u]) rX12_reaches_144 rfl (tq_inc (by decide)) (Nat.le_of_ble_eq_true rfl) rfl ?_
    refine tq_goto rX12_reaches_147 ?_
    have hf := Option.some.inj hf
    subst hf
    exact tq_forget _ (tq_le_s (tq_le_s (tq_le_u (tq_le_s (tq_le_s (tq_le_u (tq_le_u tq_le_n))))))) hk

set_option maxRecDepth 100000 in
set_option maxHeartbeats 4000000 in
theorem FX12_reaches_s52_x {S : Nat × (Nat → Int32)} {d : Nat} {I : tq_PI} {L : tq_PL} {a0 : Nat} {a1 : Int32} {a3 : Int32} (h0 : tq_sh0 a0 = 12) {q0 : Option Value → tq_PI → tq_PL → Prop} {out : (Int32 × tq_PI) ⊕ (tq_PI)} (hf : FX12_reaches_s52 I L a0 a1 a3 = some out) (hk : Sum.elim (fun p : Int32 × tq_PI => tq_X S mX12_reaches (d + 2) tq_k0 52 ([.ref a0, .int a1, tq_u, .int p.1, tq_u, tq_u, tq_u]) [] (tq_st p.2 L) (tq_Q q0)) (fun p : tq_PI => tq_X S mX12_reaches (d + 2) tq_k0 153 ([tq_u, tq_u, tq_u, tq_u, tq_u, tq_u, tq_u]) [] (tq_st p L) (tq_Q q0)) out) : tq_X S mX12_reaches (d + 2) tq_k0 52 ([.ref a0, .int a1, tq_u, .int a3, tq_u, tq_u, tq_u]) [] (tq_st I L) (tq_Q q0) := by
  unfold FX12_reaches_s52 at hf
  refine tq_iload_n rX12_reaches_52 rfl ?_
  refine tq_if_eq rX12_reaches_53 (fun c11 => ?_) (fun c11 => ?_)
  · rw [if_pos c11] at hf
    have hf := Option.some.inj hf
    subst hf
    exact tq_forget _ (tq_le_u (tq_le_u (tq_le_u (tq_le_u (tq_le_u (tq_le_u (tq_le_u tq_le_n))))))) hk
  · rw [if_neg c11] at hf
    refine tq_iconst (0 : Int32) rX12_reaches_56 (by decide) ?_
    refine tq_istore_n ([.ref a0, .int a1, tq_u, .int (0 : Int32), tq_u, tq_u, tq_u]) rX12_reaches_57 (Nat.le_of_ble_eq_true rfl) rfl ?_
    refine tq_iconst (0 : Int32) rX12_reaches_58 (by decide) ?_
    refine tq_istore ([.ref a0, .int a1, tq_u, .int (0 : Int32), .int (0 : Int32), tq_u, tq_u]) rX12_reaches_59 (Nat.le_of_ble_eq_true rfl) rfl ?_
    obtain ⟨p25, e25, hf⟩ := Option.bind_eq_some_iff.mp hf
    refine tq_forget _ (tq_le_s (tq_le_s (tq_le_u (tq_le_s (tq_le_s (tq_le_u (tq_le_u tq_le_n))))))) ?_
    refine tq_it_elim (P := fun p : Int32 × Int32 × tq_PI => tq_X S mX12_reaches (d + 2) tq_k0 61 ([.ref a0, .int a1, tq_u, .int p.1, .int p.2.1, tq_u, tq_u]) [] (tq_st p.2.2 L) (tq_Q q0)) (R := fun p : Int32 × tq_PI => tq_X S mX12_reaches (d + 2) tq_k0 150 ([.ref a0, .int a1, tq_u, .int p.1, tq_u, tq_u, tq_u]) [] (tq_st p.2 L) (tq_Q q0)) (fun p o hp hk => FX12_reaches_s61_x  h0 hp hk) _ (((0 : Int32), (0 : Int32), I)) _ e25 ?_
    show tq_X _ _ _ _ _ _ _ _ _
    refine tq_goto rX12_reaches_150 ?_
    have hf := Option.some.inj hf
    subst hf
    exact tq_forget _ (tq_le_s (tq_le_s (tq_le_u (tq_le_s (tq_le_u (tq_le_u (tq_le_u tq_le_n))))))) hk

set_option maxRecDepth 100000 in
set_option maxHeartbeats 4000000 in
theorem CX12_reaches {S : Nat × (Nat → Int32)} {d : Nat} {I : tq_PI} {L : tq_PL} {a0 : Nat} {a1 : Int32} {a2 : Int32} (h0 : tq_sh0 a0 = 12) {out : tq_PI} (hf : FX12_reaches I L a0 a1 a2 = some out) : tq_K S mX12_reaches (d + 2) [.ref a0, .int a1, .int a2] I L (tq_one2 (none) out L) := by
  unfold FX12_reaches at hf
  refine tq_K_of (by decide) (Nat.le_of_ble_eq_true rfl) (ls := [.ref a0, .int a1, .int a2, tq_u, tq_u, tq_u, tq_u]) rfl ?_
  refine tq_iconst (0 : Int32) rX12_reaches_0 (by decide) ?_
  refine tq_istore_n ([.ref a0, .int a1, .int a2, .int (0 : Int32), tq_u, tq_u, tq_u]) rX12_reaches_1 (Nat.le_of_ble_eq_true rfl) rfl ?_
  obtain ⟨p10, e10, hf⟩ := Option.bind_eq_some_iff.mp hf
  refine tq_forget _ (tq_le_s (tq_le_s (tq_le_s (tq_le_s (tq_le_u (tq_le_u (tq_le_u tq_le_n))))))) ?_
  refine tq_it_elim (P := fun p : Int32 × tq_PI => tq_X S mX12_reaches (d + 2) tq_k0 2 ([.ref a0, .int a1, .int a2, .int p.1, tq_u, tq_u, tq_u]) [] (tq_st p.2 L) (tq_Q (tq_one2 (none) out L))) (R := fun p : tq_PI => tq_X S mX12_reaches (d + 2) tq_k0 50 ([.ref a0, .int a1, tq_u, tq_u, tq_u, tq_u, tq_u]) [] (tq_st p L) (tq_Q (tq_one2 (none) out L))) (fun p o hp hk => FX12_reaches_s2_x  h0 hp hk) _ (((0 : Int32), I)) _ e10 ?_
  show tq_X _ _ _ _ _ _ _ _ _
  refine tq_iconst (1 : Int32) rX12_reaches_50 (by decide) ?_
  refine tq_istore_n ([.ref a0, .int a1, tq_u, .int (1 : Int32), tq_u, tq_u, tq_u]) rX12_reaches_51 (Nat.le_of_ble_eq_true rfl) rfl ?_
  obtain ⟨p26, e26, hf⟩ := Option.bind_eq_some_iff.mp hf
  refine tq_forget _ (tq_le_s (tq_le_s (tq_le_u (tq_le_s (tq_le_u (tq_le_u (tq_le_u tq_le_n))))))) ?_
  refine tq_it_elim (P := fun p : Int32 × tq_PI => tq_X S mX12_reaches (d + 2) tq_k0 52 ([.ref a0, .int a1, tq_u, .int p.1, tq_u, tq_u, tq_u]) [] (tq_st p.2 L) (tq_Q (tq_one2 (none) out L))) (R := fun p : tq_PI => tq_X S mX12_reaches (d + 2) tq_k0 153 ([tq_u, tq_u, tq_u, tq_u, tq_u, tq_u, tq_u]) [] (tq_st p L) (tq_Q (tq_one2 (none) out L))) (fun p o hp hk => FX12_reaches_s52_x  h0 hp hk) _ (((1 : Int32), p10)) _ e26 ?_
  show tq_X _ _ _ _ _ _ _ _ _
  refine ty_vret rX12_reaches_153 rfl rfl ?_
  have hf := Option.some.inj hf
  subst hf
  exact ⟨rfl, rfl, rfl⟩

abbrev mX12_isCut : tq_M := (yX12_isCut, cX12_isCut, 6, (Option.some Jvm.ClassFile.FieldType.boolean), 0, 0)
theorem moX12_isStone : tq_mok mX12_isStone 1 := ⟨tq_sg1 _ (List.mem_of_getElem? (i := 13) rfl), tq_sg7 _ (List.mem_of_getElem? (i := 100) rfl), ⟨by decide, by decide, by decide +kernel⟩, by decide⟩
theorem msX12_isStone : Cond.static mX12_isStone.1 ∈ lw_tbl := tq_sg7 _ (List.mem_of_getElem? (i := 99) rfl)
theorem l_X12_208 : tq_lok RX12 208 mX12_isStone.1 := Or.inl (tq_sg7 _ (List.mem_of_getElem? (i := 98) rfl))
theorem rX12_isCut_0 : tq_D cX12_isCut 0 (.aload_n 0) 1 1 := ⟨by decide +kernel, rfl⟩
theorem rX12_isCut_1 : tq_D cX12_isCut 1 (.iload_n 1) 1 2 := ⟨by decide +kernel, rfl⟩
theorem rX12_isCut_2 : tq_D cX12_isCut 2 (.iload_n 3) 1 3 := ⟨by decide +kernel, rfl⟩
theorem rX12_isCut_3 : tq_D cX12_isCut 3 (.invokevirtual 193) 3 6 := ⟨by decide +kernel, rfl⟩
theorem rX12_isCut_6 : tq_D cX12_isCut 6 (.invokestatic 208) 3 9 := ⟨by decide +kernel, rfl⟩
theorem rX12_isCut_9 : tq_J cX12_isCut 9 (.ifCond .ne) 14 12 := ⟨5, by decide +kernel, by decide, rfl⟩
theorem rX12_isCut_12 : tq_D cX12_isCut 12 (.iconst 0) 1 13 := ⟨by decide +kernel, rfl⟩
theorem rX12_isCut_13 : decode cX12_isCut 13 = .ok (.ireturn, 1) := by decide +kernel
theorem rX12_isCut_14 : tq_D cX12_isCut 14 (.iload_n 3) 1 15 := ⟨by decide +kernel, rfl⟩
theorem rX12_isCut_15 : tq_D cX12_isCut 15 (.aload_n 0) 1 16 := ⟨by decide +kernel, rfl⟩
theorem rX12_isCut_16 : tq_D cX12_isCut 16 (.getfield 148) 3 19 := ⟨by decide +kernel, rfl⟩
theorem rX12_isCut_19 : tq_D cX12_isCut 19 (.irem) 1 20 := ⟨by decide +kernel, rfl⟩
theorem rX12_isCut_20 : tq_D cX12_isCut 20 (.aload_n 0) 1 21 := ⟨by decide +kernel, rfl⟩
theorem rX12_isCut_21 : tq_D cX12_isCut 21 (.iload_n 2) 1 22 := ⟨by decide +kernel, rfl⟩
theorem rX12_isCut_22 : tq_D cX12_isCut 22 (.invokevirtual 202) 3 25 := ⟨by decide +kernel, rfl⟩
theorem rX12_isCut_25 : tq_J cX12_isCut 25 (.if_icmp .ne) 32 28 := ⟨7, by decide +kernel, by decide, rfl⟩
theorem rX12_isCut_28 : tq_D cX12_isCut 28 (.iconst 1) 1 29 := ⟨by decide +kernel, rfl⟩
theorem rX12_isCut_29 : tq_J cX12_isCut 29 .goto 33 32 := ⟨4, by decide +kernel, by decide, rfl⟩
theorem rX12_isCut_32 : tq_D cX12_isCut 32 (.iconst 0) 1 33 := ⟨by decide +kernel, rfl⟩
theorem rX12_isCut_33 : tq_D cX12_isCut 33 (.istore 4) 2 35 := ⟨by decide +kernel, rfl⟩
theorem rX12_isCut_35 : tq_D cX12_isCut 35 (.iconst 0) 1 36 := ⟨by decide +kernel, rfl⟩
theorem rX12_isCut_36 : tq_D cX12_isCut 36 (.istore 5) 2 38 := ⟨by decide +kernel, rfl⟩
theorem rX12_isCut_38 : tq_D cX12_isCut 38 (.iload 5) 2 40 := ⟨by decide +kernel, rfl⟩
theorem rX12_isCut_40 : tq_D cX12_isCut 40 (.iconst 4) 1 41 := ⟨by decide +kernel, rfl⟩
theorem rX12_isCut_41 : tq_J cX12_isCut 41 (.if_icmp .ge) 88 44 := ⟨47, by decide +kernel, by decide, rfl⟩
theorem rX12_isCut_44 : tq_D cX12_isCut 44 (.iload 4) 2 46 := ⟨by decide +kernel, rfl⟩
theorem rX12_isCut_46 : tq_J cX12_isCut 46 (.ifCond .ne) 75 49 := ⟨29, by decide +kernel, by decide, rfl⟩
theorem rX12_isCut_49 : tq_D cX12_isCut 49 (.aload_n 0) 1 50 := ⟨by decide +kernel, rfl⟩
theorem rX12_isCut_50 : tq_D cX12_isCut 50 (.iload_n 3) 1 51 := ⟨by decide +kernel, rfl⟩
theorem rX12_isCut_51 : tq_D cX12_isCut 51 (.iload 5) 2 53 := ⟨by decide +kernel, rfl⟩
theorem rX12_isCut_53 : tq_D cX12_isCut 53 (.invokevirtual 205) 3 56 := ⟨by decide +kernel, rfl⟩
theorem rX12_isCut_56 : tq_D cX12_isCut 56 (.iconst (-1)) 1 57 := ⟨by decide +kernel, rfl⟩
theorem rX12_isCut_57 : tq_J cX12_isCut 57 (.if_icmp .eq) 79 60 := ⟨22, by decide +kernel, by decide, rfl⟩
theorem rX12_isCut_60 : tq_D cX12_isCut 60 (.aload_n 0) 1 61 := ⟨by decide +kernel, rfl⟩
theorem rX12_isCut_61 : tq_D cX12_isCut 61 (.getfield 23) 3 64 := ⟨by decide +kernel, rfl⟩
theorem rX12_isCut_64 : tq_D cX12_isCut 64 (.aload_n 0) 1 65 := ⟨by decide +kernel, rfl⟩
theorem rX12_isCut_65 : tq_D cX12_isCut 65 (.iload_n 3) 1 66 := ⟨by decide +kernel, rfl⟩
theorem rX12_isCut_66 : tq_D cX12_isCut 66 (.iload 5) 2 68 := ⟨by decide +kernel, rfl⟩
theorem rX12_isCut_68 : tq_D cX12_isCut 68 (.invokevirtual 205) 3 71 := ⟨by decide +kernel, rfl⟩
theorem rX12_isCut_71 : tq_D cX12_isCut 71 (.baload) 1 72 := ⟨by decide +kernel, rfl⟩
theorem rX12_isCut_72 : tq_J cX12_isCut 72 (.ifCond .eq) 79 75 := ⟨7, by decide +kernel, by decide, rfl⟩
theorem rX12_isCut_75 : tq_D cX12_isCut 75 (.iconst 1) 1 76 := ⟨by decide +kernel, rfl⟩
theorem rX12_isCut_76 : tq_J cX12_isCut 76 .goto 80 79 := ⟨4, by decide +kernel, by decide, rfl⟩
theorem rX12_isCut_79 : tq_D cX12_isCut 79 (.iconst 0) 1 80 := ⟨by decide +kernel, rfl⟩
theorem rX12_isCut_80 : tq_D cX12_isCut 80 (.istore 4) 2 82 := ⟨by decide +kernel, rfl⟩
theorem rX12_isCut_82 : tq_D cX12_isCut 82 (.iinc 5 1) 3 85 := ⟨by decide +kernel, rfl⟩
theorem rX12_isCut_85 : tq_J cX12_isCut 85 .goto 38 88 := ⟨(-47), by decide +kernel, by decide, rfl⟩
theorem rX12_isCut_88 : tq_D cX12_isCut 88 (.iload 4) 2 90 := ⟨by decide +kernel, rfl⟩
theorem rX12_isCut_90 : decode cX12_isCut 90 = .ok (.ireturn, 1) := by decide +kernel
noncomputable def FX12_isCut_j80L38 (I : tq_PI) (L : tq_PL) (a0 : Nat) (a3 : Int32) (a5 : Int32) (b0 : Int32) : Option ((Int32 × Int32) ⊕ (Int32)) :=
  some (.inl (b0, (a5 + 1)))
noncomputable def FX12_isCut_j75L38 (I : tq_PI) (L : tq_PL) (a0 : Nat) (a3 : Int32) (a5 : Int32) : Option ((Int32 × Int32) ⊕ (Int32)) :=
  (FX12_isCut_j80L38 I L a0 a3 a5 ((1 : Int32)))
noncomputable def FX12_isCut_j79L38 (I : tq_PI) (L : tq_PL) (a0 : Nat) (a3 : Int32) (a5 : Int32) : Option ((Int32 × Int32) ⊕ (Int32)) :=
  (FX12_isCut_j80L38 I L a0 a3 a5 ((0 : Int32)))
noncomputable def FX12_isCut_s38 (I : tq_PI) (L : tq_PL) (a0 : Nat) (a3 : Int32) (a4 : Int32) (a5 : Int32) : Option ((Int32 × Int32) ⊕ (Int32)) :=
  (if (4 : Int32) ≤ a5 then some (.inr a4) else (if a4 = 0 then ((FX12_beside I L a0 a3 a5).bind fun p9 => (if p9 = (-1 : Int32) then (FX12_isCut_j79L38 I L a0 a3 a5) else ((FX12_beside I L a0 a3 a5).bind fun p11 => (if 0 ≤ p11 ∧ p11 < 48 then (if (I (tq_rg a0 16) p11.toNatClampNeg) = 0 then (FX12_isCut_j79L38 I L a0 a3 a5) else (FX12_isCut_j75L38 I L a0 a3 a5)) else none)))) else (FX12_isCut_j75L38 I L a0 a3 a5)))
noncomputable def FX12_isCut_j33 (I : tq_PI) (L : tq_PL) (a0 : Nat) (a3 : Int32) (b0 : Int32) : Option (Bool) :=
  ((tq_it (fun p : Int32 × Int32 => FX12_isCut_s38 I L a0 a3 p.1 p.2) tq_N (b0, (0 : Int32))).bind fun p14 => (if p14 = 0 ∨ p14 = 1 then some (decide (p14 = 1)) else none))
noncomputable def FX12_isCut (I : tq_PI) (L : tq_PL) (a0 : Nat) (a1 : Int32) (a2 : Int32) (a3 : Int32) : Option (Bool) :=
  ((FX12_kindOf I L a0 a1 a3).bind fun p1 => (tq_let (FX12_isStone I L p1) fun p2 => (if (tq_b p2) = 0 then some false else (if ¬ (I a0 13) = 0 then (tq_let (FX12_outermost I L a0 a2) fun p5 => (if (a3 - a3 / (I a0 13) * (I a0 13)) = p5 then (FX12_isCut_j33 I L a0 a3 ((1 : Int32))) else (FX12_isCut_j33 I L a0 a3 ((0 : Int32))))) else none))))
set_option maxRecDepth 100000 in
set_option maxHeartbeats 4000000 in
theorem FX12_isCut_j80L38_x {S : Nat × (Nat → Int32)} {d : Nat} {I : tq_PI} {L : tq_PL} {a0 : Nat} {a3 : Int32} {a5 : Int32} {b0 : Int32} (h0 : tq_sh0 a0 = 12) {q0 : Option Value → tq_PI → tq_PL → Prop} {out : (Int32 × Int32) ⊕ (Int32)} (hf : FX12_isCut_j80L38 I L a0 a3 a5 b0 = some out) (hk : Sum.elim (fun p : Int32 × Int32 => tq_X S mX12_isCut (d + 2) tq_k0 38 ([.ref a0, tq_u, tq_u, .int a3, .int p.1, .int p.2]) [] (tq_st I L) (tq_Q q0)) (fun p : Int32 => tq_X S mX12_isCut (d + 2) tq_k0 88 ([tq_u, tq_u, tq_u, tq_u, .int p, tq_u]) [] (tq_st I L) (tq_Q q0)) out) : tq_X S mX12_isCut (d + 2) tq_k0 80 ([.ref a0, tq_u, tq_u, .int a3, tq_u, .int a5]) ([.int b0]) (tq_st I L) (tq_Q q0) := by
  unfold FX12_isCut_j80L38 at hf
  refine tq_istore ([.ref a0, tq_u, tq_u, .int a3, .int b0, .int a5]) rX12_isCut_80 (Nat.le_of_ble_eq_true rfl) rfl ?_
  refine tq_iinc (a5 + 1) ([.ref a0, tq_u, tq_u, .int a3, .int b0, .int (a5 + 1)]) rX12_isCut_82 rfl (tq_inc (by decide)) (Nat.le_of_ble_eq_true rfl) rfl ?_
  refine tq_goto rX12_isCut_85 ?_
  have hf := Option.some.inj hf
  subst hf
  exact tq_forget _ (tq_le_s (tq_le_u (tq_le_u (tq_le_s (tq_le_s (tq_le_s tq_le_n)))))) hk

set_option maxRecDepth 100000 in
set_option maxHeartbeats 4000000 in
theorem FX12_isCut_j75L38_x {S : Nat × (Nat → Int32)} {d : Nat} {I : tq_PI} {L : tq_PL} {a0 : Nat} {a3 : Int32} {a5 : Int32} (h0 : tq_sh0 a0 = 12) {q0 : Option Value → tq_PI → tq_PL → Prop} {out : (Int32 × Int32) ⊕ (Int32)} (hf : FX12_isCut_j75L38 I L a0 a3 a5 = some out) (hk : Sum.elim (fun p : Int32 × Int32 => tq_X S mX12_isCut (d + 2) tq_k0 38 ([.ref a0, tq_u, tq_u, .int a3, .int p.1, .int p.2]) [] (tq_st I L) (tq_Q q0)) (fun p : Int32 => tq_X S mX12_isCut (d + 2) tq_k0 88 ([tq_u, tq_u, tq_u, tq_u, .int p, tq_u]) [] (tq_st I L) (tq_Q q0)) out) : tq_X S mX12_isCut (d + 2) tq_k0 75 ([.ref a0, tq_u, tq_u, .int a3, tq_u, .int a5]) ([]) (tq_st I L) (tq_Q q0) := by
  unfold FX12_isCut_j75L38 at hf
  refine tq_iconst (1 : Int32) rX12_isCut_75 (by decide) ?_
  refine tq_goto rX12_isCut_76 ?_
  exact tq_forget _ (tq_le_s (tq_le_u (tq_le_u (tq_le_s (tq_le_u (tq_le_s tq_le_n)))))) (FX12_isCut_j80L38_x  h0 hf hk)

set_option maxRecDepth 100000 in
set_option maxHeartbeats 4000000 in
theorem FX12_isCut_j79L38_x {S : Nat × (Nat → Int32)} {d : Nat} {I : tq_PI} {L : tq_PL} {a0 : Nat} {a3 : Int32} {a5 : Int32} (h0 : tq_sh0 a0 = 12) {q0 : Option Value → tq_PI → tq_PL → Prop} {out : (Int32 × Int32) ⊕ (Int32)} (hf : FX12_isCut_j79L38 I L a0 a3 a5 = some out) (hk : Sum.elim (fun p : Int32 × Int32 => tq_X S mX12_isCut (d + 2) tq_k0 38 ([.ref a0, tq_u, tq_u, .int a3, .int p.1, .int p.2]) [] (tq_st I L) (tq_Q q0)) (fun p : Int32 => tq_X S mX12_isCut (d + 2) tq_k0 88 ([tq_u, tq_u, tq_u, tq_u, .int p, tq_u]) [] (tq_st I L) (tq_Q q0)) out) : tq_X S mX12_isCut (d + 2) tq_k0 79 ([.ref a0, tq_u, tq_u, .int a3, tq_u, .int a5]) ([]) (tq_st I L) (tq_Q q0) := by
  unfold FX12_isCut_j79L38 at hf
  refine tq_iconst (0 : Int32) rX12_isCut_79 (by decide) ?_
  exact tq_forget _ (tq_le_s (tq_le_u (tq_le_u (tq_le_s (tq_le_u (tq_le_s tq_le_n)))))) (FX12_isCut_j80L38_x  h0 hf hk)

set_option maxRecDepth 100000 in
set_option maxHeartbeats 4000000 in
theorem FX12_isCut_s38_x {S : Nat × (Nat → Int32)} {d : Nat} {I : tq_PI} {L : tq_PL} {a0 : Nat} {a3 : Int32} {a4 : Int32} {a5 : Int32} (h0 : tq_sh0 a0 = 12) {q0 : Option Value → tq_PI → tq_PL → Prop} {out : (Int32 × Int32) ⊕ (Int32)} (hf : FX12_isCut_s38 I L a0 a3 a4 a5 = some out) (hk : Sum.elim (fun p : Int32 × Int32 => tq_X S mX12_isCut (d + 2) tq_k0 38 ([.ref a0, tq_u, tq_u, .int a3, .int p.1, .int p.2]) [] (tq_st I L) (tq_Q q0)) (fun p : Int32 => tq_X S mX12_isCut (d + 2) tq_k0 88 ([tq_u, tq_u, tq_u, tq_u, .int p, tq_u]) [] (tq_st I L) (tq_Q q0)) out) : tq_X S mX12_isCut (d + 2) tq_k0 38 ([.ref a0, tq_u, tq_u, .int a3, .int a4, .int a5]) [] (tq_st I L) (tq_Q q0) := by
  unfold FX12_isCut_s38 at hf
  refine tq_iload rX12_isCut_38 rfl ?_
  refine tq_iconst (4 : Int32) rX12_isCut_40 (by decide) ?_
  refine tq_icmp_ge rX12_isCut_41 (fun c7 => ?_) (fun c7 => ?_)
  · rw [if_pos c7] at hf
    have hf := Option.some.inj hf
    subst hf
    exact tq_forget _ (tq_le_u (tq_le_u (tq_le_u (tq_le_u (tq_le_s (tq_le_u tq_le_n)))))) hk
  · rw [if_neg c7] at hf
    refine tq_iload rX12_isCut_44 rfl ?_
    refine tq_if_ne rX12_isCut_46 (fun c8 => ?_) (fun c8 => ?_)
    · rw [if_neg c8] at hf
      exact tq_forget _ (tq_le_s (tq_le_u (tq_le_u (tq_le_s (tq_le_u (tq_le_s tq_le_n)))))) (FX12_isCut_j75L38_x  h0 hf hk)
    · rw [if_pos c8] at hf
      refine tq_aload_n rX12_isCut_49 rfl ?_
      refine tq_iload_n rX12_isCut_50 rfl ?_
      refine tq_iload rX12_isCut_51 rfl ?_
      obtain ⟨p9, e9, hf⟩ := Option.bind_eq_some_iff.mp hf
      refine ty_callVI p9 ([.int a3, .int a5]) ([]) rX12_isCut_53 l_X12_205 moX12_beside mvX12_beside h0 rfl rfl (Nat.le_of_ble_eq_true rfl) ⟨rfl, rfl⟩ (CX12_beside h0 e9) ?_
      refine tq_iconst (-1 : Int32) rX12_isCut_56 (by decide) ?_
      refine tq_icmp_eq rX12_isCut_57 (fun c10 => ?_) (fun c10 => ?_)
      · rw [if_pos c10] at hf
        exact tq_forget _ (tq_le_s (tq_le_u (tq_le_u (tq_le_s (tq_le_u (tq_le_s tq_le_n)))))) (FX12_isCut_j79L38_x  h0 hf hk)
      · rw [if_neg c10] at hf
        refine tq_aload_n rX12_isCut_60 rfl ?_
        refine ty_getR rX12_isCut_61 f_X12_23 rfl h0 (hp_12_16 h0).1 ?_
        refine tq_aload_n rX12_isCut_64 rfl ?_
        refine tq_iload_n rX12_isCut_65 rfl ?_
        refine tq_iload rX12_isCut_66 rfl ?_
        obtain ⟨p11, e11, hf⟩ := Option.bind_eq_some_iff.mp hf
        refine ty_callVI p11 ([.int a3, .int a5]) ([.ref (tq_rg a0 16)]) rX12_isCut_68 l_X12_205 moX12_beside mvX12_beside h0 rfl rfl (Nat.le_of_ble_eq_true rfl) ⟨rfl, rfl⟩ (CX12_beside h0 e11) ?_
        obtain ⟨g12, hf⟩ := tq_chk hf
        refine ty_zald (v := 48) rX12_isCut_71 (hp_12_16 h0).2.1 (hp_12_16 h0).2.2 rfl (by decide) g12 ?_
        refine tq_if_eq rX12_isCut_72 (fun c13 => ?_) (fun c13 => ?_)
        · rw [if_pos c13] at hf
          exact tq_forget _ (tq_le_s (tq_le_u (tq_le_u (tq_le_s (tq_le_u (tq_le_s tq_le_n)))))) (FX12_isCut_j79L38_x  h0 hf hk)
        · rw [if_neg c13] at hf
          exact tq_forget _ (tq_le_s (tq_le_u (tq_le_u (tq_le_s (tq_le_u (tq_le_s tq_le_n)))))) (FX12_isCut_j75L38_x  h0 hf hk)

set_option maxRecDepth 100000 in
set_option maxHeartbeats 4000000 in
theorem FX12_isCut_j33_x {S : Nat × (Nat → Int32)} {d : Nat} {I : tq_PI} {L : tq_PL} {a0 : Nat} {a3 : Int32} {b0 : Int32} (h0 : tq_sh0 a0 = 12) {q0 : Option Value → tq_PI → tq_PL → Prop} {out : Bool} (hf : FX12_isCut_j33 I L a0 a3 b0 = some out) (hk : q0 (some (.int (tq_b out))) I L) : tq_X S mX12_isCut (d + 2) tq_k0 33 ([.ref a0, tq_u, tq_u, .int a3, tq_u, tq_u]) ([.int b0]) (tq_st I L) (tq_Q q0) := by
  unfold FX12_isCut_j33 at hf
  refine tq_istore ([.ref a0, tq_u, tq_u, .int a3, .int b0, tq_u]) rX12_isCut_33 (Nat.le_of_ble_eq_true rfl) rfl ?_
  refine tq_iconst (0 : Int32) rX12_isCut_35 (by decide) ?_
  refine tq_istore ([.ref a0, tq_u, tq_u, .int a3, .int b0, .int (0 : Int32)]) rX12_isCut_36 (Nat.le_of_ble_eq_true rfl) rfl ?_
  obtain ⟨p14, e14, hf⟩ := Option.bind_eq_some_iff.mp hf
  refine tq_forget _ (tq_le_s (tq_le_u (tq_le_u (tq_le_s (tq_le_s (tq_le_s tq_le_n)))))) ?_
  refine tq_it_elim (P := fun p : Int32 × Int32 => tq_X S mX12_isCut (d + 2) tq_k0 38 ([.ref a0, tq_u, tq_u, .int a3, .int p.1, .int p.2]) [] (tq_st I L) (tq_Q q0)) (R := fun p : Int32 => tq_X S mX12_isCut (d + 2) tq_k0 88 ([tq_u, tq_u, tq_u, tq_u, .int p, tq_u]) [] (tq_st I L) (tq_Q q0)) (fun p o hp hk => FX12_isCut_s38_x  h0 hp hk) _ ((b0, (0 : Int32))) _ e14 ?_
  show tq_X _ _ _ _ _ _ _ _ _
  refine tq_iload rX12_isCut_88 rfl ?_
  obtain ⟨g15, hf⟩ := tq_chk hf
  refine ty_zret (ty := .boolean) rX12_isCut_90 rfl (tq_fitZ g15).1 rfl ?_
  have hf := Option.some.inj hf
  subst hf
  have e9 : tq_b (decide (p14 = 1)) = p14 := by rcases g15 with g15 | g15 <;> rw [g15] <;> rfl
  rw [e9] at hk
  exact hk

set_option maxRecDepth 100000 in
set_option maxHeartbeats 4000000 in
theorem CX12_isCut {S : Nat × (Nat → Int32)} {d : Nat} {I : tq_PI} {L : tq_PL} {a0 : Nat} {a1 : Int32} {a2 : Int32} {a3 : Int32} (h0 : tq_sh0 a0 = 12) {out : Bool} (hf : FX12_isCut I L a0 a1 a2 a3 = some out) : tq_K S mX12_isCut (d + 2) [.ref a0, .int a1, .int a2, .int a3] I L (tq_one2 (some (.int (tq_b out))) I L) := by
  unfold FX12_isCut at hf
  refine tq_K_of (by decide) (Nat.le_of_ble_eq_true rfl) (ls := [.ref a0, .int a1, .int a2, .int a3, tq_u, tq_u]) rfl ?_
  refine tq_aload_n rX12_isCut_0 rfl ?_
  refine tq_iload_n rX12_isCut_1 rfl ?_
  refine tq_iload_n rX12_isCut_2 rfl ?_
  obtain ⟨p1, e1, hf⟩ := Option.bind_eq_some_iff.mp hf
  refine ty_callVI p1 ([.int a1, .int a3]) ([]) rX12_isCut_3 l_X12_193 moX12_kindOf mvX12_kindOf h0 rfl rfl (Nat.le_of_ble_eq_true rfl) ⟨rfl, rfl⟩ (CX12_kindOf h0 e1) ?_
  obtain ⟨p2, e2, hf⟩ := tq_let_elim hf
  refine ty_callSI (tq_b p2) ([.int p1]) ([]) rX12_isCut_6 l_X12_208 moX12_isStone msX12_isStone rfl rfl (Nat.le_of_ble_eq_true rfl) ⟨rfl, rfl⟩ (CX12_isStone  e2) ?_
  refine tq_if_ne rX12_isCut_9 (fun c3 => ?_) (fun c3 => ?_)
  · rw [if_neg c3] at hf
    refine tq_iload_n rX12_isCut_14 rfl ?_
    refine tq_aload_n rX12_isCut_15 rfl ?_
    refine ty_getI rX12_isCut_16 f_X12_148 rfl h0 ?_
    obtain ⟨g4, hf⟩ := tq_chk hf
    refine tq_irem rX12_isCut_19 g4 ?_
    refine tq_aload_n rX12_isCut_20 rfl ?_
    refine tq_iload_n rX12_isCut_21 rfl ?_
    obtain ⟨p5, e5, hf⟩ := tq_let_elim hf
    refine ty_callVI p5 ([.int a2]) ([.int (a3 - a3 / (I a0 13) * (I a0 13))]) rX12_isCut_22 l_X12_202 moX12_outermost mvX12_outermost h0 rfl rfl (Nat.le_of_ble_eq_true rfl) ⟨rfl, rfl⟩ (CX12_outermost h0 e5) ?_
    refine tq_icmp_ne rX12_isCut_25 (fun c6 => ?_) (fun c6 => ?_)
    · rw [if_neg c6] at hf
      refine tq_iconst (0 : Int32) rX12_isCut_32 (by decide) ?_
      exact tq_forget _ (tq_le_s (tq_le_u (tq_le_u (tq_le_s (tq_le_u (tq_le_u tq_le_n)))))) (FX12_isCut_j33_x  h0 hf ⟨rfl, rfl, rfl⟩)
    · rw [if_pos c6] at hf
      refine tq_iconst (1 : Int32) rX12_isCut_28 (by decide) ?_
      refine tq_goto rX12_isCut_29 ?_
      exact tq_forget _ (tq_le_s (tq_le_u (tq_le_u (tq_le_s (tq_le_u (tq_le_u tq_le_n)))))) (FX12_isCut_j33_x  h0 hf ⟨rfl, rfl, rfl⟩)
  · rw [if_pos c3] at hf
    refine tq_iconst (0 : Int32) rX12_isCut_12 (by decide) ?_
    refine ty_zret (ty := .boolean) rX12_isCut_13 rfl rfl rfl ?_
    have hf := Option.some.inj hf
    subst hf
    exact ⟨rfl, rfl, rfl⟩

abbrev mX12_costOf : tq_M := (yX12_costOf, cX12_costOf, 3, (Option.some Jvm.ClassFile.FieldType.int), 0, 0)
theorem rX12_costOf_0 : tq_D cX12_costOf 0 (.aload_n 0) 1 1 := ⟨by decide +kernel, rfl⟩
theorem rX12_costOf_1 : tq_D cX12_costOf 1 (.iload_n 1) 1 2 := ⟨by decide +kernel, rfl⟩
theorem rX12_costOf_2 : tq_D cX12_costOf 2 (.iload_n 2) 1 3 := ⟨by decide +kernel, rfl⟩
theorem rX12_costOf_3 : tq_D cX12_costOf 3 (.invokevirtual 193) 3 6 := ⟨by decide +kernel, rfl⟩
theorem rX12_costOf_6 : tq_D cX12_costOf 6 (.invokestatic 208) 3 9 := ⟨by decide +kernel, rfl⟩
theorem rX12_costOf_9 : tq_J cX12_costOf 9 (.ifCond .eq) 16 12 := ⟨7, by decide +kernel, by decide, rfl⟩
theorem rX12_costOf_12 : tq_D cX12_costOf 12 (.iconst 1) 1 13 := ⟨by decide +kernel, rfl⟩
theorem rX12_costOf_13 : tq_J cX12_costOf 13 .goto 17 16 := ⟨4, by decide +kernel, by decide, rfl⟩
theorem rX12_costOf_16 : tq_D cX12_costOf 16 (.iconst 0) 1 17 := ⟨by decide +kernel, rfl⟩
theorem rX12_costOf_17 : decode cX12_costOf 17 = .ok (.ireturn, 1) := by decide +kernel
noncomputable def FX12_costOf (I : tq_PI) (L : tq_PL) (a0 : Nat) (a1 : Int32) (a2 : Int32) : Option (Int32) :=
  ((FX12_kindOf I L a0 a1 a2).bind fun p1 => (tq_let (FX12_isStone I L p1) fun p2 => (if (tq_b p2) = 0 then some (0 : Int32) else some (1 : Int32))))
set_option maxRecDepth 100000 in
set_option maxHeartbeats 4000000 in
theorem CX12_costOf {S : Nat × (Nat → Int32)} {d : Nat} {I : tq_PI} {L : tq_PL} {a0 : Nat} {a1 : Int32} {a2 : Int32} (h0 : tq_sh0 a0 = 12) {out : Int32} (hf : FX12_costOf I L a0 a1 a2 = some out) : tq_K S mX12_costOf (d + 1) [.ref a0, .int a1, .int a2] I L (tq_one2 (some (.int out)) I L) := by
  unfold FX12_costOf at hf
  refine tq_K_of (by decide) (Nat.le_of_ble_eq_true rfl) (ls := [.ref a0, .int a1, .int a2]) rfl ?_
  refine tq_aload_n rX12_costOf_0 rfl ?_
  refine tq_iload_n rX12_costOf_1 rfl ?_
  refine tq_iload_n rX12_costOf_2 rfl ?_
  obtain ⟨p1, e1, hf⟩ := Option.bind_eq_some_iff.mp hf
  refine ty_callVI p1 ([.int a1, .int a2]) ([]) rX12_costOf_3 l_X12_193 moX12_kindOf mvX12_kindOf h0 rfl rfl (Nat.le_of_ble_eq_true rfl) ⟨rfl, rfl⟩ (CX12_kindOf h0 e1) ?_
  obtain ⟨p2, e2, hf⟩ := tq_let_elim hf
  refine ty_callSI (tq_b p2) ([.int p1]) ([]) rX12_costOf_6 l_X12_208 moX12_isStone msX12_isStone rfl rfl (Nat.le_of_ble_eq_true rfl) ⟨rfl, rfl⟩ (CX12_isStone  e2) ?_
  refine tq_if_eq rX12_costOf_9 (fun c3 => ?_) (fun c3 => ?_)
  · rw [if_pos c3] at hf
    refine tq_iconst (0 : Int32) rX12_costOf_16 (by decide) ?_
    refine ty_iret rX12_costOf_17 rfl rfl ?_
    have hf := Option.some.inj hf
    subst hf
    exact ⟨rfl, rfl, rfl⟩
  · rw [if_neg c3] at hf
    refine tq_iconst (1 : Int32) rX12_costOf_12 (by decide) ?_
    refine tq_goto rX12_costOf_13 ?_
    refine ty_iret rX12_costOf_17 rfl rfl ?_
    have hf := Option.some.inj hf
    subst hf
    exact ⟨rfl, rfl, rfl⟩

abbrev mX12_laysWays : tq_M := (yX12_laysWays, cX12_laysWays, 7, (Option.none : Option Jvm.ClassFile.FieldType), 0, 0)
theorem moX12_costOf : tq_mok mX12_costOf 2 := ⟨tq_sg1 _ (List.mem_of_getElem? (i := 13) rfl), tq_sg7 _ (List.mem_of_getElem? (i := 97) rfl), ⟨by decide, by decide, by decide +kernel⟩, by decide⟩
theorem mvX12_costOf : 12 < 13 ∧ (tq_cl 12).1 = mX12_costOf.1.cls ∧ Cond.instanceMethod mX12_costOf.1 ∈ lw_tbl ∧ Cond.selects mX12_costOf.1.cls mX12_costOf.1 mX12_costOf.1 ∈ lw_tbl := ⟨by decide, rfl, tq_sg7 _ (List.mem_of_getElem? (i := 96) rfl), List.mem_append_left _ (List.mem_map.mpr ⟨_, List.mem_of_getElem? (i := 65) rfl, rfl⟩)⟩
theorem f_X12_26 : tq_fok RX12 26 12 17 := ⟨by decide, by decide, Or.inl (tq_sg6 _ (List.mem_of_getElem? (i := 90) rfl))⟩
theorem k_X12_214 : Cond.constant RX12 214 (99999) ∈ lw_tbl := tq_sg7 _ (List.mem_of_getElem? (i := 101) rfl)
theorem l_X12_211 : tq_lok RX12 211 mX12_costOf.1 := Or.inl (tq_sg7 _ (List.mem_of_getElem? (i := 94) rfl))
theorem rX12_laysWays_0 : tq_D cX12_laysWays 0 (.iconst 0) 1 1 := ⟨by decide +kernel, rfl⟩
theorem rX12_laysWays_1 : tq_D cX12_laysWays 1 (.istore_n 3) 1 2 := ⟨by decide +kernel, rfl⟩
theorem rX12_laysWays_2 : tq_D cX12_laysWays 2 (.iload_n 3) 1 3 := ⟨by decide +kernel, rfl⟩
theorem rX12_laysWays_3 : tq_D cX12_laysWays 3 (.aload_n 0) 1 4 := ⟨by decide +kernel, rfl⟩
theorem rX12_laysWays_4 : tq_D cX12_laysWays 4 (.invokevirtual 190) 3 7 := ⟨by decide +kernel, rfl⟩
theorem rX12_laysWays_7 : tq_J cX12_laysWays 7 (.if_icmp .ge) 62 10 := ⟨55, by decide +kernel, by decide, rfl⟩
theorem rX12_laysWays_10 : tq_D cX12_laysWays 10 (.aload_n 0) 1 11 := ⟨by decide +kernel, rfl⟩
theorem rX12_laysWays_11 : tq_D cX12_laysWays 11 (.getfield 26) 3 14 := ⟨by decide +kernel, rfl⟩
theorem rX12_laysWays_14 : tq_D cX12_laysWays 14 (.iload_n 3) 1 15 := ⟨by decide +kernel, rfl⟩
theorem rX12_laysWays_15 : tq_D cX12_laysWays 15 (.iload_n 3) 1 16 := ⟨by decide +kernel, rfl⟩
theorem rX12_laysWays_16 : tq_D cX12_laysWays 16 (.aload_n 0) 1 17 := ⟨by decide +kernel, rfl⟩
theorem rX12_laysWays_17 : tq_D cX12_laysWays 17 (.getfield 148) 3 20 := ⟨by decide +kernel, rfl⟩
theorem rX12_laysWays_20 : tq_D cX12_laysWays 20 (.irem) 1 21 := ⟨by decide +kernel, rfl⟩
theorem rX12_laysWays_21 : tq_D cX12_laysWays 21 (.aload_n 0) 1 22 := ⟨by decide +kernel, rfl⟩
theorem rX12_laysWays_22 : tq_D cX12_laysWays 22 (.iload_n 2) 1 23 := ⟨by decide +kernel, rfl⟩
theorem rX12_laysWays_23 : tq_D cX12_laysWays 23 (.invokevirtual 202) 3 26 := ⟨by decide +kernel, rfl⟩
theorem rX12_laysWays_26 : tq_J cX12_laysWays 26 (.if_icmp .ne) 53 29 := ⟨27, by decide +kernel, by decide, rfl⟩
theorem rX12_laysWays_29 : tq_D cX12_laysWays 29 (.aload_n 0) 1 30 := ⟨by decide +kernel, rfl⟩
theorem rX12_laysWays_30 : tq_D cX12_laysWays 30 (.iload_n 1) 1 31 := ⟨by decide +kernel, rfl⟩
theorem rX12_laysWays_31 : tq_D cX12_laysWays 31 (.iload_n 3) 1 32 := ⟨by decide +kernel, rfl⟩
theorem rX12_laysWays_32 : tq_D cX12_laysWays 32 (.invokevirtual 193) 3 35 := ⟨by decide +kernel, rfl⟩
theorem rX12_laysWays_35 : tq_D cX12_laysWays 35 (.iconst 4) 1 36 := ⟨by decide +kernel, rfl⟩
theorem rX12_laysWays_36 : tq_J cX12_laysWays 36 (.if_icmp .eq) 53 39 := ⟨17, by decide +kernel, by decide, rfl⟩
theorem rX12_laysWays_39 : tq_D cX12_laysWays 39 (.bipush 100) 2 41 := ⟨by decide +kernel, rfl⟩
theorem rX12_laysWays_41 : tq_D cX12_laysWays 41 (.aload_n 0) 1 42 := ⟨by decide +kernel, rfl⟩
theorem rX12_laysWays_42 : tq_D cX12_laysWays 42 (.iload_n 1) 1 43 := ⟨by decide +kernel, rfl⟩
theorem rX12_laysWays_43 : tq_D cX12_laysWays 43 (.iload_n 3) 1 44 := ⟨by decide +kernel, rfl⟩
theorem rX12_laysWays_44 : tq_D cX12_laysWays 44 (.invokevirtual 211) 3 47 := ⟨by decide +kernel, rfl⟩
theorem rX12_laysWays_47 : tq_D cX12_laysWays 47 (.imul) 1 48 := ⟨by decide +kernel, rfl⟩
theorem rX12_laysWays_48 : tq_D cX12_laysWays 48 (.iconst 1) 1 49 := ⟨by decide +kernel, rfl⟩
theorem rX12_laysWays_49 : tq_D cX12_laysWays 49 (.iadd) 1 50 := ⟨by decide +kernel, rfl⟩
theorem rX12_laysWays_50 : tq_J cX12_laysWays 50 .goto 55 53 := ⟨5, by decide +kernel, by decide, rfl⟩
theorem rX12_laysWays_53 : tq_D cX12_laysWays 53 (.ldc 214) 2 55 := ⟨by decide +kernel, rfl⟩
theorem rX12_laysWays_55 : tq_D cX12_laysWays 55 (.iastore) 1 56 := ⟨by decide +kernel, rfl⟩
theorem rX12_laysWays_56 : tq_D cX12_laysWays 56 (.iinc 3 1) 3 59 := ⟨by decide +kernel, rfl⟩
theorem rX12_laysWays_59 : tq_J cX12_laysWays 59 .goto 2 62 := ⟨(-57), by decide +kernel, by decide, rfl⟩
theorem rX12_laysWays_62 : tq_D cX12_laysWays 62 (.iconst 1) 1 63 := ⟨by decide +kernel, rfl⟩
theorem rX12_laysWays_63 : tq_D cX12_laysWays 63 (.istore_n 3) 1 64 := ⟨by decide +kernel, rfl⟩
theorem rX12_laysWays_64 : tq_D cX12_laysWays 64 (.iload_n 3) 1 65 := ⟨by decide +kernel, rfl⟩
theorem rX12_laysWays_65 : tq_J cX12_laysWays 65 (.ifCond .eq) 195 68 := ⟨130, by decide +kernel, by decide, rfl⟩
theorem rX12_laysWays_68 : tq_D cX12_laysWays 68 (.iconst 0) 1 69 := ⟨by decide +kernel, rfl⟩
theorem rX12_laysWays_69 : tq_D cX12_laysWays 69 (.istore_n 3) 1 70 := ⟨by decide +kernel, rfl⟩
theorem rX12_laysWays_70 : tq_D cX12_laysWays 70 (.iconst 0) 1 71 := ⟨by decide +kernel, rfl⟩
theorem rX12_laysWays_71 : tq_D cX12_laysWays 71 (.istore 4) 2 73 := ⟨by decide +kernel, rfl⟩
theorem rX12_laysWays_73 : tq_D cX12_laysWays 73 (.iload 4) 2 75 := ⟨by decide +kernel, rfl⟩
theorem rX12_laysWays_75 : tq_D cX12_laysWays 75 (.aload_n 0) 1 76 := ⟨by decide +kernel, rfl⟩
theorem rX12_laysWays_76 : tq_D cX12_laysWays 76 (.invokevirtual 190) 3 79 := ⟨by decide +kernel, rfl⟩
theorem rX12_laysWays_79 : tq_J cX12_laysWays 79 (.if_icmp .ge) 192 82 := ⟨113, by decide +kernel, by decide, rfl⟩
theorem rX12_laysWays_82 : tq_D cX12_laysWays 82 (.iconst 0) 1 83 := ⟨by decide +kernel, rfl⟩
theorem rX12_laysWays_83 : tq_D cX12_laysWays 83 (.istore 5) 2 85 := ⟨by decide +kernel, rfl⟩
theorem rX12_laysWays_85 : tq_D cX12_laysWays 85 (.iload 5) 2 87 := ⟨by decide +kernel, rfl⟩
theorem rX12_laysWays_87 : tq_D cX12_laysWays 87 (.iconst 4) 1 88 := ⟨by decide +kernel, rfl⟩
theorem rX12_laysWays_88 : tq_J cX12_laysWays 88 (.if_icmp .ge) 186 91 := ⟨98, by decide +kernel, by decide, rfl⟩
theorem rX12_laysWays_91 : tq_D cX12_laysWays 91 (.aload_n 0) 1 92 := ⟨by decide +kernel, rfl⟩
theorem rX12_laysWays_92 : tq_D cX12_laysWays 92 (.iload 4) 2 94 := ⟨by decide +kernel, rfl⟩
theorem rX12_laysWays_94 : tq_D cX12_laysWays 94 (.iload 5) 2 96 := ⟨by decide +kernel, rfl⟩
theorem rX12_laysWays_96 : tq_D cX12_laysWays 96 (.invokevirtual 205) 3 99 := ⟨by decide +kernel, rfl⟩
theorem rX12_laysWays_99 : tq_D cX12_laysWays 99 (.istore 6) 2 101 := ⟨by decide +kernel, rfl⟩
theorem rX12_laysWays_101 : tq_D cX12_laysWays 101 (.iload 6) 2 103 := ⟨by decide +kernel, rfl⟩
theorem rX12_laysWays_103 : tq_D cX12_laysWays 103 (.iconst (-1)) 1 104 := ⟨by decide +kernel, rfl⟩
theorem rX12_laysWays_104 : tq_J cX12_laysWays 104 (.if_icmp .eq) 180 107 := ⟨76, by decide +kernel, by decide, rfl⟩
theorem rX12_laysWays_107 : tq_D cX12_laysWays 107 (.aload_n 0) 1 108 := ⟨by decide +kernel, rfl⟩
theorem rX12_laysWays_108 : tq_D cX12_laysWays 108 (.iload_n 1) 1 109 := ⟨by decide +kernel, rfl⟩
theorem rX12_laysWays_109 : tq_D cX12_laysWays 109 (.iload 6) 2 111 := ⟨by decide +kernel, rfl⟩
theorem rX12_laysWays_111 : tq_D cX12_laysWays 111 (.invokevirtual 193) 3 114 := ⟨by decide +kernel, rfl⟩
theorem rX12_laysWays_114 : tq_D cX12_laysWays 114 (.iconst 4) 1 115 := ⟨by decide +kernel, rfl⟩
theorem rX12_laysWays_115 : tq_J cX12_laysWays 115 (.if_icmp .eq) 180 118 := ⟨65, by decide +kernel, by decide, rfl⟩
theorem rX12_laysWays_118 : tq_D cX12_laysWays 118 (.aload_n 0) 1 119 := ⟨by decide +kernel, rfl⟩
theorem rX12_laysWays_119 : tq_D cX12_laysWays 119 (.getfield 26) 3 122 := ⟨by decide +kernel, rfl⟩
theorem rX12_laysWays_122 : tq_D cX12_laysWays 122 (.iload 4) 2 124 := ⟨by decide +kernel, rfl⟩
theorem rX12_laysWays_124 : tq_D cX12_laysWays 124 (.iaload) 1 125 := ⟨by decide +kernel, rfl⟩
theorem rX12_laysWays_125 : tq_D cX12_laysWays 125 (.bipush 100) 2 127 := ⟨by decide +kernel, rfl⟩
theorem rX12_laysWays_127 : tq_D cX12_laysWays 127 (.aload_n 0) 1 128 := ⟨by decide +kernel, rfl⟩
theorem rX12_laysWays_128 : tq_D cX12_laysWays 128 (.iload_n 1) 1 129 := ⟨by decide +kernel, rfl⟩
theorem rX12_laysWays_129 : tq_D cX12_laysWays 129 (.iload 6) 2 131 := ⟨by decide +kernel, rfl⟩
theorem rX12_laysWays_131 : tq_D cX12_laysWays 131 (.invokevirtual 211) 3 134 := ⟨by decide +kernel, rfl⟩
theorem rX12_laysWays_134 : tq_D cX12_laysWays 134 (.imul) 1 135 := ⟨by decide +kernel, rfl⟩
theorem rX12_laysWays_135 : tq_D cX12_laysWays 135 (.iadd) 1 136 := ⟨by decide +kernel, rfl⟩
theorem rX12_laysWays_136 : tq_D cX12_laysWays 136 (.iconst 1) 1 137 := ⟨by decide +kernel, rfl⟩
theorem rX12_laysWays_137 : tq_D cX12_laysWays 137 (.iadd) 1 138 := ⟨by decide +kernel, rfl⟩
theorem rX12_laysWays_138 : tq_D cX12_laysWays 138 (.aload_n 0) 1 139 := ⟨by decide +kernel, rfl⟩
theorem rX12_laysWays_139 : tq_D cX12_laysWays 139 (.getfield 26) 3 142 := ⟨by decide +kernel, rfl⟩
theorem rX12_laysWays_142 : tq_D cX12_laysWays 142 (.iload 6) 2 144 := ⟨by decide +kernel, rfl⟩
theorem rX12_laysWays_144 : tq_D cX12_laysWays 144 (.iaload) 1 145 := ⟨by decide +kernel, rfl⟩
theorem rX12_laysWays_145 : tq_J cX12_laysWays 145 (.if_icmp .lt) 151 148 := ⟨6, by decide +kernel, by decide, rfl⟩
theorem rX12_laysWays_148 : tq_J cX12_laysWays 148 .goto 180 151 := ⟨32, by decide +kernel, by decide, rfl⟩
theorem rX12_laysWays_151 : tq_D cX12_laysWays 151 (.aload_n 0) 1 152 := ⟨by decide +kernel, rfl⟩
theorem rX12_laysWays_152 : tq_D cX12_laysWays 152 (.getfield 26) 3 155 := ⟨by decide +kernel, rfl⟩
theorem rX12_laysWays_155 : tq_D cX12_laysWays 155 (.iload 6) 2 157 := ⟨by decide +kernel, rfl⟩
theorem rX12_laysWays_157 : tq_D cX12_laysWays 157 (.aload_n 0) 1 158 := ⟨by decide +kernel, rfl⟩
theorem rX12_laysWays_158 : tq_D cX12_laysWays 158 (.getfield 26) 3 161 := ⟨by decide +kernel, rfl⟩
theorem rX12_laysWays_161 : tq_D cX12_laysWays 161 (.iload 4) 2 163 := ⟨by decide +kernel, rfl⟩
theorem rX12_laysWays_163 : tq_D cX12_laysWays 163 (.iaload) 1 164 := ⟨by decide +kernel, rfl⟩
theorem rX12_laysWays_164 : tq_D cX12_laysWays 164 (.bipush 100) 2 166 := ⟨by decide +kernel, rfl⟩
theorem rX12_laysWays_166 : tq_D cX12_laysWays 166 (.aload_n 0) 1 167 := ⟨by decide +kernel, rfl⟩
theorem rX12_laysWays_167 : tq_D cX12_laysWays 167 (.iload_n 1) 1 168 := ⟨by decide +kernel, rfl⟩
theorem rX12_laysWays_168 : tq_D cX12_laysWays 168 (.iload 6) 2 170 := ⟨by decide +kernel, rfl⟩
theorem rX12_laysWays_170 : tq_D cX12_laysWays 170 (.invokevirtual 211) 3 173 := ⟨by decide +kernel, rfl⟩
theorem rX12_laysWays_173 : tq_D cX12_laysWays 173 (.imul) 1 174 := ⟨by decide +kernel, rfl⟩
theorem rX12_laysWays_174 : tq_D cX12_laysWays 174 (.iadd) 1 175 := ⟨by decide +kernel, rfl⟩
theorem rX12_laysWays_175 : tq_D cX12_laysWays 175 (.iconst 1) 1 176 := ⟨by decide +kernel, rfl⟩
theorem rX12_laysWays_176 : tq_D cX12_laysWays 176 (.iadd) 1 177 := ⟨by decide +kernel, rfl⟩
theorem rX12_laysWays_177 : tq_D cX12_laysWays 177 (.iastore) 1 178 := ⟨by decide +kernel, rfl⟩
theorem rX12_laysWays_178 : tq_D cX12_laysWays 178 (.iconst 1) 1 179 := ⟨by decide +kernel, rfl⟩
theorem rX12_laysWays_179 : tq_D cX12_laysWays 179 (.istore_n 3) 1 180 := ⟨by decide +kernel, rfl⟩
theorem rX12_laysWays_180 : tq_D cX12_laysWays 180 (.iinc 5 1) 3 183 := ⟨by decide +kernel, rfl⟩
theorem rX12_laysWays_183 : tq_J cX12_laysWays 183 .goto 85 186 := ⟨(-98), by decide +kernel, by decide, rfl⟩
theorem rX12_laysWays_186 : tq_D cX12_laysWays 186 (.iinc 4 1) 3 189 := ⟨by decide +kernel, rfl⟩
theorem rX12_laysWays_189 : tq_J cX12_laysWays 189 .goto 73 192 := ⟨(-116), by decide +kernel, by decide, rfl⟩
theorem rX12_laysWays_192 : tq_J cX12_laysWays 192 .goto 64 195 := ⟨(-128), by decide +kernel, by decide, rfl⟩
theorem rX12_laysWays_195 : decode cX12_laysWays 195 = .ok (.return_, 1) := by decide +kernel
noncomputable def FX12_laysWays_j55L2 (I : tq_PI) (L : tq_PL) (a0 : Nat) (a1 : Int32) (a2 : Int32) (a3 : Int32) (b0 : Int32) (b1 : Int32) (b2 : Nat) : Option ((Int32 × tq_PI) ⊕ (tq_PI)) :=
  (if 0 ≤ b1 ∧ b1 < 48 then some (.inl ((a3 + 1), (tq_up2 I b2 b1.toNatClampNeg b0))) else none)
noncomputable def FX12_laysWays_j53L2 (I : tq_PI) (L : tq_PL) (a0 : Nat) (a1 : Int32) (a2 : Int32) (a3 : Int32) (b0 : Int32) (b1 : Nat) : Option ((Int32 × tq_PI) ⊕ (tq_PI)) :=
  (FX12_laysWays_j55L2 I L a0 a1 a2 a3 ((99999 : Int32)) b0 b1)
noncomputable def FX12_laysWays_s2 (I : tq_PI) (L : tq_PL) (a0 : Nat) (a1 : Int32) (a2 : Int32) (a3 : Int32) : Option ((Int32 × tq_PI) ⊕ (tq_PI)) :=
  (tq_let (FX12_many I L a0) fun p1 => (if p1 ≤ a3 then some (.inr I) else (if ¬ (I a0 13) = 0 then (tq_let (FX12_outermost I L a0 a2) fun p4 => (if (a3 - a3 / (I a0 13) * (I a0 13)) = p4 then ((FX12_kindOf I L a0 a1 a3).bind fun p7 => (if p7 = (4 : Int32) then (FX12_laysWays_j53L2 I L a0 a1 a2 a3 a3 ((tq_rg a0 17))) else ((FX12_costOf I L a0 a1 a3).bind fun p9 => (FX12_laysWays_j55L2 I L a0 a1 a2 a3 ((((100 : Int32) * p9) + (1 : Int32))) a3 ((tq_rg a0 17)))))) else (FX12_laysWays_j53L2 I L a0 a1 a2 a3 a3 ((tq_rg a0 17))))) else none)))
noncomputable def FX12_laysWays_j180L85 (I : tq_PI) (L : tq_PL) (a0 : Nat) (a1 : Int32) (a3 : Int32) (a4 : Int32) (a5 : Int32) : Option ((Int32 × Int32 × tq_PI) ⊕ (Int32 × tq_PI)) :=
  some (.inl (a3, (a5 + 1), I))
noncomputable def FX12_laysWays_s85 (I : tq_PI) (L : tq_PL) (a0 : Nat) (a1 : Int32) (a4 : Int32) (a3 : Int32) (a5 : Int32) : Option ((Int32 × Int32 × tq_PI) ⊕ (Int32 × tq_PI)) :=
  (if (4 : Int32) ≤ a5 then some (.inr (a3, I)) else ((FX12_beside I L a0 a4 a5).bind fun p15 => (if p15 = (-1 : Int32) then (FX12_laysWays_j180L85 I L a0 a1 a3 a4 a5) else ((FX12_kindOf I L a0 a1 p15).bind fun p17 => (if p17 = (4 : Int32) then (FX12_laysWays_j180L85 I L a0 a1 a3 a4 a5) else (if 0 ≤ a4 ∧ a4 < 48 then ((FX12_costOf I L a0 a1 p15).bind fun p20 => (if 0 ≤ p15 ∧ p15 < 48 then (if (((I (tq_rg a0 17) a4.toNatClampNeg) + ((100 : Int32) * p20)) + (1 : Int32)) < (I (tq_rg a0 17) p15.toNatClampNeg) then (if 0 ≤ a4 ∧ a4 < 48 then ((FX12_costOf I L a0 a1 p15).bind fun p24 => (if 0 ≤ p15 ∧ p15 < 48 then (FX12_laysWays_j180L85 ((tq_up2 I (tq_rg a0 17) p15.toNatClampNeg (((I (tq_rg a0 17) a4.toNatClampNeg) + ((100 : Int32) * p24)) + (1 : Int32)))) L a0 a1 ((1 : Int32)) a4 a5) else none)) else none) else (FX12_laysWays_j180L85 I L a0 a1 a3 a4 a5)) else none)) else none))))))
noncomputable def FX12_laysWays_s73 (I : tq_PI) (L : tq_PL) (a0 : Nat) (a1 : Int32) (a3 : Int32) (a4 : Int32) : Option ((Int32 × Int32 × tq_PI) ⊕ (Int32 × tq_PI)) :=
  (tq_let (FX12_many I L a0) fun p12 => (if p12 ≤ a4 then some (.inr (a3, I)) else ((tq_it (fun p : Int32 × Int32 × tq_PI => FX12_laysWays_s85 p.2.2 L a0 a1 a4 p.1 p.2.1) tq_N (a3, (0 : Int32), I)).bind fun p26 => some (.inl (p26.1, (a4 + 1), p26.2)))))
noncomputable def FX12_laysWays_s64 (I : tq_PI) (L : tq_PL) (a0 : Nat) (a1 : Int32) (a3 : Int32) : Option ((Int32 × tq_PI) ⊕ (tq_PI)) :=
  (if a3 = 0 then some (.inr I) else ((tq_it (fun p : Int32 × Int32 × tq_PI => FX12_laysWays_s73 p.2.2 L a0 a1 p.1 p.2.1) tq_N ((0 : Int32), (0 : Int32), I)).bind fun p27 => some (.inl (p27.1, p27.2))))
noncomputable def FX12_laysWays (I : tq_PI) (L : tq_PL) (a0 : Nat) (a1 : Int32) (a2 : Int32) : Option (tq_PI) :=
  ((tq_it (fun p : Int32 × tq_PI => FX12_laysWays_s2 p.2 L a0 a1 a2 p.1) tq_N ((0 : Int32), I)).bind fun p10 => ((tq_it (fun p : Int32 × tq_PI => FX12_laysWays_s64 p.2 L a0 a1 p.1) tq_N ((1 : Int32), p10)).bind fun p28 => some p28))
set_option maxRecDepth 100000 in
set_option maxHeartbeats 4000000 in
theorem FX12_laysWays_j55L2_x {S : Nat × (Nat → Int32)} {d : Nat} {I : tq_PI} {L : tq_PL} {a0 : Nat} {a1 : Int32} {a2 : Int32} {a3 : Int32} {b0 : Int32} {b1 : Int32} {b2 : Nat} (h0 : tq_sh0 a0 = 12) (k2 : tq_sh0 b2 = 100) (k2n : tq_ln0 b2 = 48) {q0 : Option Value → tq_PI → tq_PL → Prop} {out : (Int32 × tq_PI) ⊕ (tq_PI)} (hf : FX12_laysWays_j55L2 I L a0 a1 a2 a3 b0 b1 b2 = some out) (hk : Sum.elim (fun p : Int32 × tq_PI => tq_X S mX12_laysWays (d + 2) tq_k0 2 ([.ref a0, .int a1, .int a2, .int p.1, tq_u, tq_u, tq_u]) [] (tq_st p.2 L) (tq_Q q0)) (fun p : tq_PI => tq_X S mX12_laysWays (d + 2) tq_k0 62 ([.ref a0, .int a1, tq_u, tq_u, tq_u, tq_u, tq_u]) [] (tq_st p L) (tq_Q q0)) out) : tq_X S mX12_laysWays (d + 2) tq_k0 55 ([.ref a0, .int a1, .int a2, .int a3, tq_u, tq_u, tq_u]) ([.int b0, .int b1, .ref b2]) (tq_st I L) (tq_Q q0) := by
  unfold FX12_laysWays_j55L2 at hf
  obtain ⟨g6, hf⟩ := tq_chk hf
  refine ty_iast (v := 48) rX12_laysWays_55 k2 k2n rfl (by decide) g6 ?_
  refine tq_iinc (a3 + 1) ([.ref a0, .int a1, .int a2, .int (a3 + 1), tq_u, tq_u, tq_u]) rX12_laysWays_56 rfl (tq_inc (by decide)) (Nat.le_of_ble_eq_true rfl) rfl ?_
  refine tq_goto rX12_laysWays_59 ?_
  have hf := Option.some.inj hf
  subst hf
  exact tq_forget _ (tq_le_s (tq_le_s (tq_le_s (tq_le_s (tq_le_u (tq_le_u (tq_le_u tq_le_n))))))) hk

set_option maxRecDepth 100000 in
set_option maxHeartbeats 4000000 in
theorem FX12_laysWays_j53L2_x {S : Nat × (Nat → Int32)} {d : Nat} {I : tq_PI} {L : tq_PL} {a0 : Nat} {a1 : Int32} {a2 : Int32} {a3 : Int32} {b0 : Int32} {b1 : Nat} (h0 : tq_sh0 a0 = 12) (k1 : tq_sh0 b1 = 100) (k1n : tq_ln0 b1 = 48) {q0 : Option Value → tq_PI → tq_PL → Prop} {out : (Int32 × tq_PI) ⊕ (tq_PI)} (hf : FX12_laysWays_j53L2 I L a0 a1 a2 a3 b0 b1 = some out) (hk : Sum.elim (fun p : Int32 × tq_PI => tq_X S mX12_laysWays (d + 2) tq_k0 2 ([.ref a0, .int a1, .int a2, .int p.1, tq_u, tq_u, tq_u]) [] (tq_st p.2 L) (tq_Q q0)) (fun p : tq_PI => tq_X S mX12_laysWays (d + 2) tq_k0 62 ([.ref a0, .int a1, tq_u, tq_u, tq_u, tq_u, tq_u]) [] (tq_st p L) (tq_Q q0)) out) : tq_X S mX12_laysWays (d + 2) tq_k0 53 ([.ref a0, .int a1, .int a2, .int a3, tq_u, tq_u, tq_u]) ([.int b0, .ref b1]) (tq_st I L) (tq_Q q0) := by
  unfold FX12_laysWays_j53L2 at hf
  refine tq_ldc rX12_laysWays_53 (k_X12_214) ?_
  exact tq_forget _ (tq_le_s (tq_le_s (tq_le_s (tq_le_s (tq_le_u (tq_le_u (tq_le_u tq_le_n))))))) (FX12_laysWays_j55L2_x  h0 k1 k1n hf hk)

set_option maxRecDepth 100000 in
set_option maxHeartbeats 4000000 in
theorem FX12_laysWays_s2_x {S : Nat × (Nat → Int32)} {d : Nat} {I : tq_PI} {L : tq_PL} {a0 : Nat} {a1 : Int32} {a2 : Int32} {a3 : Int32} (h0 : tq_sh0 a0 = 12) {q0 : Option Value → tq_PI → tq_PL → Prop} {out : (Int32 × tq_PI) ⊕ (tq_PI)} (hf : FX12_laysWays_s2 I L a0 a1 a2 a3 = some out) (hk : Sum.elim (fun p : Int32 × tq_PI => tq_X S mX12_laysWays (d + 2) tq_k0 2 ([.ref a0, .int a1, .int a2, .int p.1, tq_u, tq_u, tq_u]) [] (tq_st p.2 L) (tq_Q q0)) (fun p : tq_PI => tq_X S mX12_laysWays (d + 2) tq_k0 62 ([.ref a0, .int a1, tq_u, tq_u, tq_u, tq_u, tq_u]) [] (tq_st p L) (tq_Q q0)) out) : tq_X S mX12_laysWays (d + 2) tq_k0 2 ([.ref a0, .int a1, .int a2, .int a3, tq_u, tq_u, tq_u]) [] (tq_st I L) (tq_Q q0) := by
  unfold FX12_laysWays_s2 at hf
  refine tq_iload_n rX12_laysWays_2 rfl ?_
  refine tq_aload_n rX12_laysWays_3 rfl ?_
  obtain ⟨p1, e1, hf⟩ := tq_let_elim hf
  refine ty_callVI p1 ([]) ([.int a3]) rX12_laysWays_4 l_X12_190 moX12_many mvX12_many h0 rfl rfl (Nat.le_of_ble_eq_true rfl) ⟨rfl, rfl⟩ (CX12_many h0 e1) ?_
  refine tq_icmp_ge rX12_laysWays_7 (fun c2 => ?_) (fun c2 => ?_)
  · rw [if_pos c2] at hf
    have hf := Option.some.inj hf
    subst hf
    exact tq_forget _ (tq_le_s (tq_le_s (tq_le_u (tq_le_u (tq_le_u (tq_le_u (tq_le_u tq_le_n))))))) hk
  · rw [if_neg c2] at hf
    refine tq_aload_n rX12_laysWays_10 rfl ?_
    refine ty_getR rX12_laysWays_11 f_X12_26 rfl h0 (hp_12_17 h0).1 ?_
    refine tq_iload_n rX12_laysWays_14 rfl ?_
    refine tq_iload_n rX12_laysWays_15 rfl ?_
    refine tq_aload_n rX12_laysWays_16 rfl ?_
    refine ty_getI rX12_laysWays_17 f_X12_148 rfl h0 ?_
    obtain ⟨g3, hf⟩ := tq_chk hf
    refine tq_irem rX12_laysWays_20 g3 ?_
    refine tq_aload_n rX12_laysWays_21 rfl ?_
    refine tq_iload_n rX12_laysWays_22 rfl ?_
    obtain ⟨p4, e4, hf⟩ := tq_let_elim hf
    refine ty_callVI p4 ([.int a2]) ([.int (a3 - a3 / (I a0 13) * (I a0 13)), .int a3, .ref (tq_rg a0 17)]) rX12_laysWays_23 l_X12_202 moX12_outermost mvX12_outermost h0 rfl rfl (Nat.le_of_ble_eq_true rfl) ⟨rfl, rfl⟩ (CX12_outermost h0 e4) ?_
    refine tq_icmp_ne rX12_laysWays_26 (fun c5 => ?_) (fun c5 => ?_)
    · rw [if_neg c5] at hf
      exact tq_forget _ (tq_le_s (tq_le_s (tq_le_s (tq_le_s (tq_le_u (tq_le_u (tq_le_u tq_le_n))))))) (FX12_laysWays_j53L2_x  h0 (hp_12_17 h0).2.1 (hp_12_17 h0).2.2 hf hk)
    · rw [if_pos c5] at hf
      refine tq_aload_n rX12_laysWays_29 rfl ?_
      refine tq_iload_n rX12_laysWays_30 rfl ?_
      refine tq_iload_n rX12_laysWays_31 rfl ?_
      obtain ⟨p7, e7, hf⟩ := Option.bind_eq_some_iff.mp hf
      refine ty_callVI p7 ([.int a1, .int a3]) ([.int a3, .ref (tq_rg a0 17)]) rX12_laysWays_32 l_X12_193 moX12_kindOf mvX12_kindOf h0 rfl rfl (Nat.le_of_ble_eq_true rfl) ⟨rfl, rfl⟩ (CX12_kindOf h0 e7) ?_
      refine tq_iconst (4 : Int32) rX12_laysWays_35 (by decide) ?_
      refine tq_icmp_eq rX12_laysWays_36 (fun c8 => ?_) (fun c8 => ?_)
      · rw [if_pos c8] at hf
        exact tq_forget _ (tq_le_s (tq_le_s (tq_le_s (tq_le_s (tq_le_u (tq_le_u (tq_le_u tq_le_n))))))) (FX12_laysWays_j53L2_x  h0 (hp_12_17 h0).2.1 (hp_12_17 h0).2.2 hf hk)
      · rw [if_neg c8] at hf
        refine tq_bipush (100 : Int32) rX12_laysWays_39 (by decide) ?_
        refine tq_aload_n rX12_laysWays_41 rfl ?_
        refine tq_iload_n rX12_laysWays_42 rfl ?_
        refine tq_iload_n rX12_laysWays_43 rfl ?_
        obtain ⟨p9, e9, hf⟩ := Option.bind_eq_some_iff.mp hf
        refine ty_callVI p9 ([.int a1, .int a3]) ([.int (100 : Int32), .int a3, .ref (tq_rg a0 17)]) rX12_laysWays_44 l_X12_211 moX12_costOf mvX12_costOf h0 rfl rfl (Nat.le_of_ble_eq_true rfl) ⟨rfl, rfl⟩ (CX12_costOf h0 e9) ?_
        refine tq_imul rX12_laysWays_47 ?_
        refine tq_iconst (1 : Int32) rX12_laysWays_48 (by decide) ?_
        refine tq_iadd rX12_laysWays_49 ?_
        refine tq_goto rX12_laysWays_50 ?_
        exact tq_forget _ (tq_le_s (tq_le_s (tq_le_s (tq_le_s (tq_le_u (tq_le_u (tq_le_u tq_le_n))))))) (FX12_laysWays_j55L2_x  h0 (hp_12_17 h0).2.1 (hp_12_17 h0).2.2 hf hk)

set_option maxRecDepth 100000 in
set_option maxHeartbeats 4000000 in
theorem FX12_laysWays_j180L85_x {S : Nat × (Nat → Int32)} {d : Nat} {I : tq_PI} {L : tq_PL} {a0 : Nat} {a1 : Int32} {a3 : Int32} {a4 : Int32} {a5 : Int32} (h0 : tq_sh0 a0 = 12) {q0 : Option Value → tq_PI → tq_PL → Prop} {out : (Int32 × Int32 × tq_PI) ⊕ (Int32 × tq_PI)} (hf : FX12_laysWays_j180L85 I L a0 a1 a3 a4 a5 = some out) (hk : Sum.elim (fun p : Int32 × Int32 × tq_PI => tq_X S mX12_laysWays (d + 2) tq_k0 85 ([.ref a0, .int a1, tq_u, .int p.1, .int a4, .int p.2.1, tq_u]) [] (tq_st p.2.2 L) (tq_Q q0)) (fun p : Int32 × tq_PI => tq_X S mX12_laysWays (d + 2) tq_k0 186 ([.ref a0, .int a1, tq_u, .int p.1, .int a4, tq_u, tq_u]) [] (tq_st p.2 L) (tq_Q q0)) out) : tq_X S mX12_laysWays (d + 2) tq_k0 180 ([.ref a0, .int a1, tq_u, .int a3, .int a4, .int a5, tq_u]) ([]) (tq_st I L) (tq_Q q0) := by
  unfold FX12_laysWays_j180L85 at hf
  refine tq_iinc (a5 + 1) ([.ref a0, .int a1, tq_u, .int a3, .int a4, .int (a5 + 1), tq_u]) rX12_laysWays_180 rfl (tq_inc (by decide)) (Nat.le_of_ble_eq_true rfl) rfl ?_
  refine tq_goto rX12_laysWays_183 ?_
  have hf := Option.some.inj hf
  subst hf
  exact tq_forget _ (tq_le_s (tq_le_s (tq_le_u (tq_le_s (tq_le_s (tq_le_s (tq_le_u tq_le_n))))))) hk

set_option maxRecDepth 100000 in
set_option maxHeartbeats 4000000 in
theorem FX12_laysWays_s85_x {S : Nat × (Nat → Int32)} {d : Nat} {I : tq_PI} {L : tq_PL} {a0 : Nat} {a1 : Int32} {a4 : Int32} {a3 : Int32} {a5 : Int32} (h0 : tq_sh0 a0 = 12) {q0 : Option Value → tq_PI → tq_PL → Prop} {out : (Int32 × Int32 × tq_PI) ⊕ (Int32 × tq_PI)} (hf : FX12_laysWays_s85 I L a0 a1 a4 a3 a5 = some out) (hk : Sum.elim (fun p : Int32 × Int32 × tq_PI => tq_X S mX12_laysWays (d + 2) tq_k0 85 ([.ref a0, .int a1, tq_u, .int p.1, .int a4, .int p.2.1, tq_u]) [] (tq_st p.2.2 L) (tq_Q q0)) (fun p : Int32 × tq_PI => tq_X S mX12_laysWays (d + 2) tq_k0 186 ([.ref a0, .int a1, tq_u, .int p.1, .int a4, tq_u, tq_u]) [] (tq_st p.2 L) (tq_Q q0)) out) : tq_X S mX12_laysWays (d + 2) tq_k0 85 ([.ref a0, .int a1, tq_u, .int a3, .int a4, .int a5, tq_u]) [] (tq_st I L) (tq_Q q0) := by
  unfold FX12_laysWays_s85 at hf
  refine tq_iload rX12_laysWays_85 rfl ?_
  refine tq_iconst (4 : Int32) rX12_laysWays_87 (by decide) ?_
  refine tq_icmp_ge rX12_laysWays_88 (fun c14 => ?_) (fun c14 => ?_)
  · rw [if_pos c14] at hf
    have hf := Option.some.inj hf
    subst hf
    exact tq_forget _ (tq_le_s (tq_le_s (tq_le_u (tq_le_s (tq_le_s (tq_le_u (tq_le_u tq_le_n))))))) hk
  · rw [if_neg c14] at hf
    refine tq_aload_n rX12_laysWays_91 rfl ?_
    refine tq_iload rX12_laysWays_92 rfl ?_
    refine tq_iload rX12_laysWays_94 rfl ?_
    obtain ⟨p15, e15, hf⟩ := Option.bind_eq_some_iff.mp hf
    refine ty_callVI p15 ([.int a4, .int a5]) ([]) rX12_laysWays_96 l_X12_205 moX12_beside mvX12_beside h0 rfl rfl (Nat.le_of_ble_eq_true rfl) ⟨rfl, rfl⟩ (CX12_beside h0 e15) ?_
    refine tq_istore ([.ref a0, .int a1, tq_u, .int a3, .int a4, .int a5, .int p15]) rX12_laysWays_99 (Nat.le_of_ble_eq_true rfl) rfl ?_
    refine tq_iload rX12_laysWays_101 rfl ?_
    refine tq_iconst (-1 : Int32) rX12_laysWays_103 (by decide) ?_
    refine tq_icmp_eq rX12_laysWays_104 (fun c16 => ?_) (fun c16 => ?_)
    · rw [if_pos c16] at hf
      exact tq_forget _ (tq_le_s (tq_le_s (tq_le_u (tq_le_s (tq_le_s (tq_le_s (tq_le_u tq_le_n))))))) (FX12_laysWays_j180L85_x  h0 hf hk)
    · rw [if_neg c16] at hf
      refine tq_aload_n rX12_laysWays_107 rfl ?_
      refine tq_iload_n rX12_laysWays_108 rfl ?_
      refine tq_iload rX12_laysWays_109 rfl ?_
      obtain ⟨p17, e17, hf⟩ := Option.bind_eq_some_iff.mp hf
      refine ty_callVI p17 ([.int a1, .int p15]) ([]) rX12_laysWays_111 l_X12_193 moX12_kindOf mvX12_kindOf h0 rfl rfl (Nat.le_of_ble_eq_true rfl) ⟨rfl, rfl⟩ (CX12_kindOf h0 e17) ?_
      refine tq_iconst (4 : Int32) rX12_laysWays_114 (by decide) ?_
      refine tq_icmp_eq rX12_laysWays_115 (fun c18 => ?_) (fun c18 => ?_)
      · rw [if_pos c18] at hf
        exact tq_forget _ (tq_le_s (tq_le_s (tq_le_u (tq_le_s (tq_le_s (tq_le_s (tq_le_u tq_le_n))))))) (FX12_laysWays_j180L85_x  h0 hf hk)
      · rw [if_neg c18] at hf
        refine tq_aload_n rX12_laysWays_118 rfl ?_
        refine ty_getR rX12_laysWays_119 f_X12_26 rfl h0 (hp_12_17 h0).1 ?_
        refine tq_iload rX12_laysWays_122 rfl ?_
        obtain ⟨g19, hf⟩ := tq_chk hf
        refine ty_iald (v := 48) rX12_laysWays_124 (hp_12_17 h0).2.1 (hp_12_17 h0).2.2 rfl (by decide) g19 ?_
        refine tq_bipush (100 : Int32) rX12_laysWays_125 (by decide) ?_
        refine tq_aload_n rX12_laysWays_127 rfl ?_
        refine tq_iload_n rX12_laysWays_128 rfl ?_
        refine tq_iload rX12_laysWays_129 rfl ?_
        obtain ⟨p20, e20, hf⟩ := Option.bind_eq_some_iff.mp hf
        refine ty_callVI p20 ([.int a1, .int p15]) ([.int (100 : Int32), .int (I (tq_rg a0 17) a4.toNatClampNeg)]) rX12_laysWays_131 l_X12_211 moX12_costOf mvX12_costOf h0 rfl rfl (Nat.le_of_ble_eq_true rfl) ⟨rfl, rfl⟩ (CX12_costOf h0 e20) ?_
        refine tq_imul rX12_laysWays_134 ?_
        refine tq_iadd rX12_laysWays_135 ?_
        refine tq_iconst (1 : Int32) rX12_laysWays_136 (by decide) ?_
        refine tq_iadd rX12_laysWays_137 ?_
        refine tq_aload_n rX12_laysWays_138 rfl ?_
        refine ty_getR rX12_laysWays_139 f_X12_26 rfl h0 (hp_12_17 h0).1 ?_
        refine tq_iload rX12_laysWays_142 rfl ?_
        obtain ⟨g21, hf⟩ := tq_chk hf
        refine ty_iald (v := 48) rX12_laysWays_144 (hp_12_17 h0).2.1 (hp_12_17 h0).2.2 rfl (by decide) g21 ?_
        refine tq_icmp_lt rX12_laysWays_145 (fun c22 => ?_) (fun c22 => ?_)
        · rw [if_pos c22] at hf
          refine tq_aload_n rX12_laysWays_151 rfl ?_
          refine ty_getR rX12_laysWays_152 f_X12_26 rfl h0 (hp_12_17 h0).1 ?_
          refine tq_iload rX12_laysWays_155 rfl ?_
          refine tq_aload_n rX12_laysWays_157 rfl ?_
          refine ty_getR rX12_laysWays_158 f_X12_26 rfl h0 (hp_12_17 h0).1 ?_
          refine tq_iload rX12_laysWays_161 rfl ?_
          obtain ⟨g23, hf⟩ := tq_chk hf
          refine ty_iald (v := 48) rX12_laysWays_163 (hp_12_17 h0).2.1 (hp_12_17 h0).2.2 rfl (by decide) g23 ?_
          refine tq_bipush (100 : Int32) rX12_laysWays_164 (by decide) ?_
          refine tq_aload_n rX12_laysWays_166 rfl ?_
          refine tq_iload_n rX12_laysWays_167 rfl ?_
          refine tq_iload rX12_laysWays_168 rfl ?_
          obtain ⟨p24, e24, hf⟩ := Option.bind_eq_some_iff.mp hf
          refine ty_callVI p24 ([.int a1, .int p15]) ([.int (100 : Int32), .int (I (tq_rg a0 17) a4.toNatClampNeg), .int p15, .ref (tq_rg a0 17)]) rX12_laysWays_170 l_X12_211 moX12_costOf mvX12_costOf h0 rfl rfl (Nat.le_of_ble_eq_true rfl) ⟨rfl, rfl⟩ (CX12_costOf h0 e24) ?_
          refine tq_imul rX12_laysWays_173 ?_
          refine tq_iadd rX12_laysWays_174 ?_
          refine tq_iconst (1 : Int32) rX12_laysWays_175 (by decide) ?_
          refine tq_iadd rX12_laysWays_176 ?_
          obtain ⟨g25, hf⟩ := tq_chk hf
          refine ty_iast (v := 48) rX12_laysWays_177 (hp_12_17 h0).2.1 (hp_12_17 h0).2.2 rfl (by decide) g25 ?_
          refine tq_iconst (1 : Int32) rX12_laysWays_178 (by decide) ?_
          refine tq_istore_n ([.ref a0, .int a1, tq_u, .int (1 : Int32), .int a4, .int a5, .int p15]) rX12_laysWays_179 (Nat.le_of_ble_eq_true rfl) rfl ?_
          exact tq_forget _ (tq_le_s (tq_le_s (tq_le_u (tq_le_s (tq_le_s (tq_le_s (tq_le_u tq_le_n))))))) (FX12_laysWays_j180L85_x  h0 hf hk)
        · rw [if_neg c22] at hf
          refine tq_goto rX12_laysWays_148 ?_
          exact tq_forget _ (tq_le_s (tq_le_s (tq_le_u (tq_le_s (tq_le_s (tq_le_s (tq_le_u tq_le_n))))))) (FX12_laysWays_j180L85_x  h0 hf hk)

set_option maxRecDepth 100000 in
set_option maxHeartbeats 4000000 in
theorem FX12_laysWays_s73_x {S : Nat × (Nat → Int32)} {d : Nat} {I : tq_PI} {L : tq_PL} {a0 : Nat} {a1 : Int32} {a3 : Int32} {a4 : Int32} (h0 : tq_sh0 a0 = 12) {q0 : Option Value → tq_PI → tq_PL → Prop} {out : (Int32 × Int32 × tq_PI) ⊕ (Int32 × tq_PI)} (hf : FX12_laysWays_s73 I L a0 a1 a3 a4 = some out) (hk : Sum.elim (fun p : Int32 × Int32 × tq_PI => tq_X S mX12_laysWays (d + 2) tq_k0 73 ([.ref a0, .int a1, tq_u, .int p.1, .int p.2.1, tq_u, tq_u]) [] (tq_st p.2.2 L) (tq_Q q0)) (fun p : Int32 × tq_PI => tq_X S mX12_laysWays (d + 2) tq_k0 192 ([.ref a0, .int a1, tq_u, .int p.1, tq_u, tq_u, tq_u]) [] (tq_st p.2 L) (tq_Q q0)) out) : tq_X S mX12_laysWays (d + 2) tq_k0 73 ([.ref a0, .int a1, tq_u, .int a3, .int a4, tq_u, tq_u]) [] (tq_st I L) (tq_Q q0) := by
  unfold FX12_laysWays_s73 at hf
  refine tq_iload rX12_laysWays_73 rfl ?_
  refine tq_aload_n rX12_laysWays_75 rfl ?_
  obtain ⟨p12, e12, hf⟩ := tq_let_elim hf
  refine ty_callVI p12 ([]) ([.int a4]) rX12_laysWays_76 l_X12_190 moX12_many mvX12_many h0 rfl rfl (Nat.le_of_ble_eq_true rfl) ⟨rfl, rfl⟩ (CX12_many h0 e12) ?_
  refine tq_icmp_ge rX12_laysWays_79 (fun c13 => ?_) (fun c13 => ?_)
  · rw [if_pos c13] at hf
    have hf := Option.some.inj hf
    subst hf
    exact tq_forget _ (tq_le_s (tq_le_s (tq_le_u (tq_le_s (tq_le_u (tq_le_u (tq_le_u tq_le_n))))))) hk
  · rw [if_neg c13] at hf
    refine tq_iconst (0 : Int32) rX12_laysWays_82 (by decide) ?_
    refine tq_istore ([.ref a0, .int a1, tq_u, .int a3, .int a4, .int (0 : Int32), tq_u]) rX12_laysWays_83 (Nat.le_of_ble_eq_true rfl) rfl ?_
    obtain ⟨p26, e26, hf⟩ := Option.bind_eq_some_iff.mp hf
    refine tq_forget _ (tq_le_s (tq_le_s (tq_le_u (tq_le_s (tq_le_s (tq_le_s (tq_le_u tq_le_n))))))) ?_
    refine tq_it_elim (P := fun p : Int32 × Int32 × tq_PI => tq_X S mX12_laysWays (d + 2) tq_k0 85 ([.ref a0, .int a1, tq_u, .int p.1, .int a4, .int p.2.1, tq_u]) [] (tq_st p.2.2 L) (tq_Q q0)) (R := fun p : Int32 × tq_PI => tq_X S mX12_laysWays (d + 2) tq_k0 186 ([.ref a0, .int a1, tq_u, .int p.1, .int a4, tq_u, tq_u]) [] (tq_st p.2 L) (tq_Q q0)) (fun p o hp hk => FX12_laysWays_s85_x  h0 hp hk) _ ((a3, (0 : Int32), I)) _ e26 ?_
    show tq_X _ _ _ _ _ _ _ _ _
    refine tq_iinc (a4 + 1) ([.ref a0, .int a1, tq_u, .int p26.1, .int (a4 + 1), tq_u, tq_u]) rX12_laysWays_186 rfl (tq_inc (by decide)) (Nat.le_of_ble_eq_true rfl) rfl ?_
    refine tq_goto rX12_laysWays_189 ?_
    have hf := Option.some.inj hf
    subst hf
    exact tq_forget _ (tq_le_s (tq_le_s (tq_le_u (tq_le_s (tq_le_s (tq_le_u (tq_le_u tq_le_n))))))) hk

set_option maxRecDepth 100000 in
set_option maxHeartbeats 4000000 in
theorem FX12_laysWays_s64_x {S : Nat × (Nat → Int32)} {d : Nat} {I : tq_PI} {L : tq_PL} {a0 : Nat} {a1 : Int32} {a3 : Int32} (h0 : tq_sh0 a0 = 12) {q0 : Option Value → tq_PI → tq_PL → Prop} {out : (Int32 × tq_PI) ⊕ (tq_PI)} (hf : FX12_laysWays_s64 I L a0 a1 a3 = some out) (hk : Sum.elim (fun p : Int32 × tq_PI => tq_X S mX12_laysWays (d + 2) tq_k0 64 ([.ref a0, .int a1, tq_u, .int p.1, tq_u, tq_u, tq_u]) [] (tq_st p.2 L) (tq_Q q0)) (fun p : tq_PI => tq_X S mX12_laysWays (d + 2) tq_k0 195 ([tq_u, tq_u, tq_u, tq_u, tq_u, tq_u, tq_u]) [] (tq_st p L) (tq_Q q0)) out) : tq_X S mX12_laysWays (d + 2) tq_k0 64 ([.ref a0, .int a1, tq_u, .int a3, tq_u, tq_u, tq_u]) [] (tq_st I L) (tq_Q q0) := by
  unfold FX12_laysWays_s64 at hf
  refine tq_iload_n rX12_laysWays_64 rfl ?_
  refine tq_if_eq rX12_laysWays_65 (fun c11 => ?_) (fun c11 => ?_)
  · rw [if_pos c11] at hf
    have hf := Option.some.inj hf
    subst hf
    exact tq_forget _ (tq_le_u (tq_le_u (tq_le_u (tq_le_u (tq_le_u (tq_le_u (tq_le_u tq_le_n))))))) hk
  · rw [if_neg c11] at hf
    refine tq_iconst (0 : Int32) rX12_laysWays_68 (by decide) ?_
    refine tq_istore_n ([.ref a0, .int a1, tq_u, .int (0 : Int32), tq_u, tq_u, tq_u]) rX12_laysWays_69 (Nat.le_of_ble_eq_true rfl) rfl ?_
    refine tq_iconst (0 : Int32) rX12_laysWays_70 (by decide) ?_
    refine tq_istore ([.ref a0, .int a1, tq_u, .int (0 : Int32), .int (0 : Int32), tq_u, tq_u]) rX12_laysWays_71 (Nat.le_of_ble_eq_true rfl) rfl ?_
    obtain ⟨p27, e27, hf⟩ := Option.bind_eq_some_iff.mp hf
    refine tq_forget _ (tq_le_s (tq_le_s (tq_le_u (tq_le_s (tq_le_s (tq_le_u (tq_le_u tq_le_n))))))) ?_
    refine tq_it_elim (P := fun p : Int32 × Int32 × tq_PI => tq_X S mX12_laysWays (d + 2) tq_k0 73 ([.ref a0, .int a1, tq_u, .int p.1, .int p.2.1, tq_u, tq_u]) [] (tq_st p.2.2 L) (tq_Q q0)) (R := fun p : Int32 × tq_PI => tq_X S mX12_laysWays (d + 2) tq_k0 192 ([.ref a0, .int a1, tq_u, .int p.1, tq_u, tq_u, tq_u]) [] (tq_st p.2 L) (tq_Q q0)) (fun p o hp hk => FX12_laysWays_s73_x  h0 hp hk) _ (((0 : Int32), (0 : Int32), I)) _ e27 ?_
    show tq_X _ _ _ _ _ _ _ _ _
    refine tq_goto rX12_laysWays_192 ?_
    have hf := Option.some.inj hf
    subst hf
    exact tq_forget _ (tq_le_s (tq_le_s (tq_le_u (tq_le_s (tq_le_u (tq_le_u (tq_le_u tq_le_n))))))) hk

set_option maxRecDepth 100000 in
set_option maxHeartbeats 4000000 in
theorem CX12_laysWays {S : Nat × (Nat → Int32)} {d : Nat} {I : tq_PI} {L : tq_PL} {a0 : Nat} {a1 : Int32} {a2 : Int32} (h0 : tq_sh0 a0 = 12) {out : tq_PI} (hf : FX12_laysWays I L a0 a1 a2 = some out) : tq_K S mX12_laysWays (d + 2) [.ref a0, .int a1, .int a2] I L (tq_one2 (none) out L) := by
  unfold FX12_laysWays at hf
  refine tq_K_of (by decide) (Nat.le_of_ble_eq_true rfl) (ls := [.ref a0, .int a1, .int a2, tq_u, tq_u, tq_u, tq_u]) rfl ?_
  refine tq_iconst (0 : Int32) rX12_laysWays_0 (by decide) ?_
  refine tq_istore_n ([.ref a0, .int a1, .int a2, .int (0 : Int32), tq_u, tq_u, tq_u]) rX12_laysWays_1 (Nat.le_of_ble_eq_true rfl) rfl ?_
  obtain ⟨p10, e10, hf⟩ := Option.bind_eq_some_iff.mp hf
  refine tq_forget _ (tq_le_s (tq_le_s (tq_le_s (tq_le_s (tq_le_u (tq_le_u (tq_le_u tq_le_n))))))) ?_
  refine tq_it_elim (P := fun p : Int32 × tq_PI => tq_X S mX12_laysWays (d + 2) tq_k0 2 ([.ref a0, .int a1, .int a2, .int p.1, tq_u, tq_u, tq_u]) [] (tq_st p.2 L) (tq_Q (tq_one2 (none) out L))) (R := fun p : tq_PI => tq_X S mX12_laysWays (d + 2) tq_k0 62 ([.ref a0, .int a1, tq_u, tq_u, tq_u, tq_u, tq_u]) [] (tq_st p L) (tq_Q (tq_one2 (none) out L))) (fun p o hp hk => FX12_laysWays_s2_x  h0 hp hk) _ (((0 : Int32), I)) _ e10 ?_
  show tq_X _ _ _ _ _ _ _ _ _
  refine tq_iconst (1 : Int32) rX12_laysWays_62 (by decide) ?_
  refine tq_istore_n ([.ref a0, .int a1, tq_u, .int (1 : Int32), tq_u, tq_u, tq_u]) rX12_laysWays_63 (Nat.le_of_ble_eq_true rfl) rfl ?_
  obtain ⟨p28, e28, hf⟩ := Option.bind_eq_some_iff.mp hf
  refine tq_forget _ (tq_le_s (tq_le_s (tq_le_u (tq_le_s (tq_le_u (tq_le_u (tq_le_u tq_le_n))))))) ?_
  refine tq_it_elim (P := fun p : Int32 × tq_PI => tq_X S mX12_laysWays (d + 2) tq_k0 64 ([.ref a0, .int a1, tq_u, .int p.1, tq_u, tq_u, tq_u]) [] (tq_st p.2 L) (tq_Q (tq_one2 (none) out L))) (R := fun p : tq_PI => tq_X S mX12_laysWays (d + 2) tq_k0 195 ([tq_u, tq_u, tq_u, tq_u, tq_u, tq_u, tq_u]) [] (tq_st p L) (tq_Q (tq_one2 (none) out L))) (fun p o hp hk => FX12_laysWays_s64_x  h0 hp hk) _ (((1 : Int32), p10)) _ e28 ?_
  show tq_X _ _ _ _ _ _ _ _ _
  refine ty_vret rX12_laysWays_195 rfl rfl ?_
  have hf := Option.some.inj hf
  subst hf
  exact ⟨rfl, rfl, rfl⟩

abbrev mX12_throughOf : tq_M := (yX12_throughOf, cX12_throughOf, 4, (Option.some Jvm.ClassFile.FieldType.int), 0, 0)
theorem moX12_laysWays : tq_mok mX12_laysWays 2 := ⟨tq_sg1 _ (List.mem_of_getElem? (i := 13) rfl), tq_sg7 _ (List.mem_of_getElem? (i := 89) rfl), ⟨by decide, by decide, by decide +kernel⟩, by decide⟩
theorem mvX12_laysWays : 12 < 13 ∧ (tq_cl 12).1 = mX12_laysWays.1.cls ∧ Cond.instanceMethod mX12_laysWays.1 ∈ lw_tbl ∧ Cond.selects mX12_laysWays.1.cls mX12_laysWays.1 mX12_laysWays.1 ∈ lw_tbl := ⟨by decide, rfl, tq_sg7 _ (List.mem_of_getElem? (i := 88) rfl), List.mem_append_left _ (List.mem_map.mpr ⟨_, List.mem_of_getElem? (i := 63) rfl, rfl⟩)⟩
theorem l_X12_215 : tq_lok RX12 215 mX12_laysWays.1 := Or.inl (tq_sg7 _ (List.mem_of_getElem? (i := 86) rfl))
theorem rX12_throughOf_0 : tq_D cX12_throughOf 0 (.aload_n 0) 1 1 := ⟨by decide +kernel, rfl⟩
theorem rX12_throughOf_1 : tq_D cX12_throughOf 1 (.iload_n 1) 1 2 := ⟨by decide +kernel, rfl⟩
theorem rX12_throughOf_2 : tq_D cX12_throughOf 2 (.iconst 0) 1 3 := ⟨by decide +kernel, rfl⟩
theorem rX12_throughOf_3 : tq_D cX12_throughOf 3 (.invokevirtual 215) 3 6 := ⟨by decide +kernel, rfl⟩
theorem rX12_throughOf_6 : tq_D cX12_throughOf 6 (.ldc 214) 2 8 := ⟨by decide +kernel, rfl⟩
theorem rX12_throughOf_8 : tq_D cX12_throughOf 8 (.istore_n 2) 1 9 := ⟨by decide +kernel, rfl⟩
theorem rX12_throughOf_9 : tq_D cX12_throughOf 9 (.aload_n 0) 1 10 := ⟨by decide +kernel, rfl⟩
theorem rX12_throughOf_10 : tq_D cX12_throughOf 10 (.getfield 148) 3 13 := ⟨by decide +kernel, rfl⟩
theorem rX12_throughOf_13 : tq_D cX12_throughOf 13 (.iconst 1) 1 14 := ⟨by decide +kernel, rfl⟩
theorem rX12_throughOf_14 : tq_D cX12_throughOf 14 (.isub) 1 15 := ⟨by decide +kernel, rfl⟩
theorem rX12_throughOf_15 : tq_D cX12_throughOf 15 (.istore_n 3) 1 16 := ⟨by decide +kernel, rfl⟩
theorem rX12_throughOf_16 : tq_D cX12_throughOf 16 (.iload_n 3) 1 17 := ⟨by decide +kernel, rfl⟩
theorem rX12_throughOf_17 : tq_D cX12_throughOf 17 (.aload_n 0) 1 18 := ⟨by decide +kernel, rfl⟩
theorem rX12_throughOf_18 : tq_D cX12_throughOf 18 (.invokevirtual 190) 3 21 := ⟨by decide +kernel, rfl⟩
theorem rX12_throughOf_21 : tq_J cX12_throughOf 21 (.if_icmp .ge) 55 24 := ⟨34, by decide +kernel, by decide, rfl⟩
theorem rX12_throughOf_24 : tq_D cX12_throughOf 24 (.aload_n 0) 1 25 := ⟨by decide +kernel, rfl⟩
theorem rX12_throughOf_25 : tq_D cX12_throughOf 25 (.getfield 26) 3 28 := ⟨by decide +kernel, rfl⟩
theorem rX12_throughOf_28 : tq_D cX12_throughOf 28 (.iload_n 3) 1 29 := ⟨by decide +kernel, rfl⟩
theorem rX12_throughOf_29 : tq_D cX12_throughOf 29 (.iaload) 1 30 := ⟨by decide +kernel, rfl⟩
theorem rX12_throughOf_30 : tq_D cX12_throughOf 30 (.iload_n 2) 1 31 := ⟨by decide +kernel, rfl⟩
theorem rX12_throughOf_31 : tq_J cX12_throughOf 31 (.if_icmp .ge) 43 34 := ⟨12, by decide +kernel, by decide, rfl⟩
theorem rX12_throughOf_34 : tq_D cX12_throughOf 34 (.aload_n 0) 1 35 := ⟨by decide +kernel, rfl⟩
theorem rX12_throughOf_35 : tq_D cX12_throughOf 35 (.getfield 26) 3 38 := ⟨by decide +kernel, rfl⟩
theorem rX12_throughOf_38 : tq_D cX12_throughOf 38 (.iload_n 3) 1 39 := ⟨by decide +kernel, rfl⟩
theorem rX12_throughOf_39 : tq_D cX12_throughOf 39 (.iaload) 1 40 := ⟨by decide +kernel, rfl⟩
theorem rX12_throughOf_40 : tq_J cX12_throughOf 40 .goto 44 43 := ⟨4, by decide +kernel, by decide, rfl⟩
theorem rX12_throughOf_43 : tq_D cX12_throughOf 43 (.iload_n 2) 1 44 := ⟨by decide +kernel, rfl⟩
theorem rX12_throughOf_44 : tq_D cX12_throughOf 44 (.istore_n 2) 1 45 := ⟨by decide +kernel, rfl⟩
theorem rX12_throughOf_45 : tq_D cX12_throughOf 45 (.iload_n 3) 1 46 := ⟨by decide +kernel, rfl⟩
theorem rX12_throughOf_46 : tq_D cX12_throughOf 46 (.aload_n 0) 1 47 := ⟨by decide +kernel, rfl⟩
theorem rX12_throughOf_47 : tq_D cX12_throughOf 47 (.getfield 148) 3 50 := ⟨by decide +kernel, rfl⟩
theorem rX12_throughOf_50 : tq_D cX12_throughOf 50 (.iadd) 1 51 := ⟨by decide +kernel, rfl⟩
theorem rX12_throughOf_51 : tq_D cX12_throughOf 51 (.istore_n 3) 1 52 := ⟨by decide +kernel, rfl⟩
theorem rX12_throughOf_52 : tq_J cX12_throughOf 52 .goto 16 55 := ⟨(-36), by decide +kernel, by decide, rfl⟩
theorem rX12_throughOf_55 : tq_D cX12_throughOf 55 (.iload_n 2) 1 56 := ⟨by decide +kernel, rfl⟩
theorem rX12_throughOf_56 : decode cX12_throughOf 56 = .ok (.ireturn, 1) := by decide +kernel
noncomputable def FX12_throughOf_j44L16 (I : tq_PI) (L : tq_PL) (a0 : Nat) (a3 : Int32) (b0 : Int32) : Option ((Int32 × Int32) ⊕ (Int32)) :=
  some (.inl (b0, (a3 + (I a0 13))))
noncomputable def FX12_throughOf_s16 (I : tq_PI) (L : tq_PL) (a0 : Nat) (a2 : Int32) (a3 : Int32) : Option ((Int32 × Int32) ⊕ (Int32)) :=
  (tq_let (FX12_many I L a0) fun p2 => (if p2 ≤ a3 then some (.inr a2) else (if 0 ≤ a3 ∧ a3 < 48 then (if a2 ≤ (I (tq_rg a0 17) a3.toNatClampNeg) then (FX12_throughOf_j44L16 I L a0 a3 a2) else (if 0 ≤ a3 ∧ a3 < 48 then (FX12_throughOf_j44L16 I L a0 a3 ((I (tq_rg a0 17) a3.toNatClampNeg))) else none)) else none)))
noncomputable def FX12_throughOf (I : tq_PI) (L : tq_PL) (a0 : Nat) (a1 : Int32) : Option (Int32 × tq_PI) :=
  ((FX12_laysWays I L a0 a1 ((0 : Int32))).bind fun p1 => ((tq_it (fun p : Int32 × Int32 => FX12_throughOf_s16 p1 L a0 p.1 p.2) tq_N ((99999 : Int32), ((p1 a0 13) - (1 : Int32)))).bind fun p7 => some (p7, p1)))
set_option maxRecDepth 100000 in
set_option maxHeartbeats 4000000 in
theorem FX12_throughOf_j44L16_x {S : Nat × (Nat → Int32)} {d : Nat} {I : tq_PI} {L : tq_PL} {a0 : Nat} {a3 : Int32} {b0 : Int32} (h0 : tq_sh0 a0 = 12) {q0 : Option Value → tq_PI → tq_PL → Prop} {out : (Int32 × Int32) ⊕ (Int32)} (hf : FX12_throughOf_j44L16 I L a0 a3 b0 = some out) (hk : Sum.elim (fun p : Int32 × Int32 => tq_X S mX12_throughOf (d + 3) tq_k0 16 ([.ref a0, tq_u, .int p.1, .int p.2]) [] (tq_st I L) (tq_Q q0)) (fun p : Int32 => tq_X S mX12_throughOf (d + 3) tq_k0 55 ([tq_u, tq_u, .int p, tq_u]) [] (tq_st I L) (tq_Q q0)) out) : tq_X S mX12_throughOf (d + 3) tq_k0 44 ([.ref a0, tq_u, tq_u, .int a3]) ([.int b0]) (tq_st I L) (tq_Q q0) := by
  unfold FX12_throughOf_j44L16 at hf
  refine tq_istore_n ([.ref a0, tq_u, .int b0, .int a3]) rX12_throughOf_44 (Nat.le_of_ble_eq_true rfl) rfl ?_
  refine tq_iload_n rX12_throughOf_45 rfl ?_
  refine tq_aload_n rX12_throughOf_46 rfl ?_
  refine ty_getI rX12_throughOf_47 f_X12_148 rfl h0 ?_
  refine tq_iadd rX12_throughOf_50 ?_
  refine tq_istore_n ([.ref a0, tq_u, .int b0, .int (a3 + (I a0 13))]) rX12_throughOf_51 (Nat.le_of_ble_eq_true rfl) rfl ?_
  refine tq_goto rX12_throughOf_52 ?_
  have hf := Option.some.inj hf
  subst hf
  exact tq_forget _ (tq_le_s (tq_le_u (tq_le_s (tq_le_s tq_le_n)))) hk

set_option maxRecDepth 100000 in
set_option maxHeartbeats 4000000 in
theorem FX12_throughOf_s16_x {S : Nat × (Nat → Int32)} {d : Nat} {I : tq_PI} {L : tq_PL} {a0 : Nat} {a2 : Int32} {a3 : Int32} (h0 : tq_sh0 a0 = 12) {q0 : Option Value → tq_PI → tq_PL → Prop} {out : (Int32 × Int32) ⊕ (Int32)} (hf : FX12_throughOf_s16 I L a0 a2 a3 = some out) (hk : Sum.elim (fun p : Int32 × Int32 => tq_X S mX12_throughOf (d + 3) tq_k0 16 ([.ref a0, tq_u, .int p.1, .int p.2]) [] (tq_st I L) (tq_Q q0)) (fun p : Int32 => tq_X S mX12_throughOf (d + 3) tq_k0 55 ([tq_u, tq_u, .int p, tq_u]) [] (tq_st I L) (tq_Q q0)) out) : tq_X S mX12_throughOf (d + 3) tq_k0 16 ([.ref a0, tq_u, .int a2, .int a3]) [] (tq_st I L) (tq_Q q0) := by
  unfold FX12_throughOf_s16 at hf
  refine tq_iload_n rX12_throughOf_16 rfl ?_
  refine tq_aload_n rX12_throughOf_17 rfl ?_
  obtain ⟨p2, e2, hf⟩ := tq_let_elim hf
  refine ty_callVI p2 ([]) ([.int a3]) rX12_throughOf_18 l_X12_190 moX12_many mvX12_many h0 rfl rfl (Nat.le_of_ble_eq_true rfl) ⟨rfl, rfl⟩ (CX12_many h0 e2) ?_
  refine tq_icmp_ge rX12_throughOf_21 (fun c3 => ?_) (fun c3 => ?_)
  · rw [if_pos c3] at hf
    have hf := Option.some.inj hf
    subst hf
    exact tq_forget _ (tq_le_u (tq_le_u (tq_le_s (tq_le_u tq_le_n)))) hk
  · rw [if_neg c3] at hf
    refine tq_aload_n rX12_throughOf_24 rfl ?_
    refine ty_getR rX12_throughOf_25 f_X12_26 rfl h0 (hp_12_17 h0).1 ?_
    refine tq_iload_n rX12_throughOf_28 rfl ?_
    obtain ⟨g4, hf⟩ := tq_chk hf
    refine ty_iald (v := 48) rX12_throughOf_29 (hp_12_17 h0).2.1 (hp_12_17 h0).2.2 rfl (by decide) g4 ?_
    refine tq_iload_n rX12_throughOf_30 rfl ?_
    refine tq_icmp_ge rX12_throughOf_31 (fun c5 => ?_) (fun c5 => ?_)
    · rw [if_pos c5] at hf
      refine tq_iload_n rX12_throughOf_43 rfl ?_
      exact tq_forget _ (tq_le_s (tq_le_u (tq_le_u (tq_le_s tq_le_n)))) (FX12_throughOf_j44L16_x  h0 hf hk)
    · rw [if_neg c5] at hf
      refine tq_aload_n rX12_throughOf_34 rfl ?_
      refine ty_getR rX12_throughOf_35 f_X12_26 rfl h0 (hp_12_17 h0).1 ?_
      refine tq_iload_n rX12_throughOf_38 rfl ?_
      obtain ⟨g6, hf⟩ := tq_chk hf
      refine ty_iald (v := 48) rX12_throughOf_39 (hp_12_17 h0).2.1 (hp_12_17 h0).2.2 rfl (by decide) g6 ?_
      refine tq_goto rX12_throughOf_40 ?_
      exact tq_forget _ (tq_le_s (tq_le_u (tq_le_u (tq_le_s tq_le_n)))) (FX12_throughOf_j44L16_x  h0 hf hk)

set_option maxRecDepth 100000 in
set_option maxHeartbeats 4000000 in
theorem CX12_throughOf {S : Nat × (Nat → Int32)} {d : Nat} {I : tq_PI} {L : tq_PL} {a0 : Nat} {a1 : Int32} (h0 : tq_sh0 a0 = 12) {out : Int32 × tq_PI} (hf : FX12_throughOf I L a0 a1 = some out) : tq_K S mX12_throughOf (d + 3) [.ref a0, .int a1] I L (tq_one2 (some (.int out.1)) out.2 L) := by
  unfold FX12_throughOf at hf
  refine tq_K_of (by decide) (Nat.le_of_ble_eq_true rfl) (ls := [.ref a0, .int a1, tq_u, tq_u]) rfl ?_
  refine tq_aload_n rX12_throughOf_0 rfl ?_
  refine tq_iload_n rX12_throughOf_1 rfl ?_
  refine tq_iconst (0 : Int32) rX12_throughOf_2 (by decide) ?_
  obtain ⟨p1, e1, hf⟩ := Option.bind_eq_some_iff.mp hf
  refine ty_callVV ([.int a1, .int (0 : Int32)]) ([]) rX12_throughOf_3 l_X12_215 moX12_laysWays mvX12_laysWays h0 rfl rfl (Nat.le_of_ble_eq_true rfl) ⟨rfl, rfl⟩ (CX12_laysWays h0 e1) ?_
  refine tq_ldc rX12_throughOf_6 (k_X12_214) ?_
  refine tq_istore_n ([.ref a0, .int a1, .int (99999 : Int32), tq_u]) rX12_throughOf_8 (Nat.le_of_ble_eq_true rfl) rfl ?_
  refine tq_aload_n rX12_throughOf_9 rfl ?_
  refine ty_getI rX12_throughOf_10 f_X12_148 rfl h0 ?_
  refine tq_iconst (1 : Int32) rX12_throughOf_13 (by decide) ?_
  refine tq_isub rX12_throughOf_14 ?_
  refine tq_istore_n ([.ref a0, .int a1, .int (99999 : Int32), .int ((p1 a0 13) - (1 : Int32))]) rX12_throughOf_15 (Nat.le_of_ble_eq_true rfl) rfl ?_
  obtain ⟨p7, e7, hf⟩ := Option.bind_eq_some_iff.mp hf
  refine tq_forget _ (tq_le_s (tq_le_u (tq_le_s (tq_le_s tq_le_n)))) ?_
  refine tq_it_elim (P := fun p : Int32 × Int32 => tq_X S mX12_throughOf (d + 3) tq_k0 16 ([.ref a0, tq_u, .int p.1, .int p.2]) [] (tq_st p1 L) (tq_Q (tq_one2 (some (.int out.1)) out.2 L))) (R := fun p : Int32 => tq_X S mX12_throughOf (d + 3) tq_k0 55 ([tq_u, tq_u, .int p, tq_u]) [] (tq_st p1 L) (tq_Q (tq_one2 (some (.int out.1)) out.2 L))) (fun p o hp hk => FX12_throughOf_s16_x  h0 hp hk) _ (((99999 : Int32), ((p1 a0 13) - (1 : Int32)))) _ e7 ?_
  show tq_X _ _ _ _ _ _ _ _ _
  refine tq_iload_n rX12_throughOf_55 rfl ?_
  refine ty_iret rX12_throughOf_56 rfl rfl ?_
  have hf := Option.some.inj hf
  subst hf
  exact ⟨rfl, rfl, rfl⟩

abbrev mX12_thickOf : tq_M := (yX12_thickOf, cX12_thickOf, 3, (Option.some Jvm.ClassFile.FieldType.int), 0, 0)
theorem moX12_throughOf : tq_mok mX12_throughOf 1 := ⟨tq_sg1 _ (List.mem_of_getElem? (i := 13) rfl), tq_sg7 _ (List.mem_of_getElem? (i := 85) rfl), ⟨by decide, by decide, by decide +kernel⟩, by decide⟩
theorem mvX12_throughOf : 12 < 13 ∧ (tq_cl 12).1 = mX12_throughOf.1.cls ∧ Cond.instanceMethod mX12_throughOf.1 ∈ lw_tbl ∧ Cond.selects mX12_throughOf.1.cls mX12_throughOf.1 mX12_throughOf.1 ∈ lw_tbl := ⟨by decide, rfl, tq_sg7 _ (List.mem_of_getElem? (i := 84) rfl), List.mem_append_left _ (List.mem_map.mpr ⟨_, List.mem_of_getElem? (i := 62) rfl, rfl⟩)⟩
theorem l_X12_218 : tq_lok RX12 218 mX12_throughOf.1 := Or.inl (tq_sg7 _ (List.mem_of_getElem? (i := 82) rfl))
theorem rX12_thickOf_0 : tq_D cX12_thickOf 0 (.aload_n 0) 1 1 := ⟨by decide +kernel, rfl⟩
theorem rX12_thickOf_1 : tq_D cX12_thickOf 1 (.iload_n 1) 1 2 := ⟨by decide +kernel, rfl⟩
theorem rX12_thickOf_2 : tq_D cX12_thickOf 2 (.invokevirtual 218) 3 5 := ⟨by decide +kernel, rfl⟩
theorem rX12_thickOf_5 : tq_D cX12_thickOf 5 (.istore_n 2) 1 6 := ⟨by decide +kernel, rfl⟩
theorem rX12_thickOf_6 : tq_D cX12_thickOf 6 (.iload_n 2) 1 7 := ⟨by decide +kernel, rfl⟩
theorem rX12_thickOf_7 : tq_D cX12_thickOf 7 (.ldc 214) 2 9 := ⟨by decide +kernel, rfl⟩
theorem rX12_thickOf_9 : tq_J cX12_thickOf 9 (.if_icmp .ne) 16 12 := ⟨7, by decide +kernel, by decide, rfl⟩
theorem rX12_thickOf_12 : tq_D cX12_thickOf 12 (.iconst (-1)) 1 13 := ⟨by decide +kernel, rfl⟩
theorem rX12_thickOf_13 : tq_J cX12_thickOf 13 .goto 20 16 := ⟨7, by decide +kernel, by decide, rfl⟩
theorem rX12_thickOf_16 : tq_D cX12_thickOf 16 (.iload_n 2) 1 17 := ⟨by decide +kernel, rfl⟩
theorem rX12_thickOf_17 : tq_D cX12_thickOf 17 (.bipush 100) 2 19 := ⟨by decide +kernel, rfl⟩
theorem rX12_thickOf_19 : tq_D cX12_thickOf 19 (.idiv) 1 20 := ⟨by decide +kernel, rfl⟩
theorem rX12_thickOf_20 : decode cX12_thickOf 20 = .ok (.ireturn, 1) := by decide +kernel
noncomputable def FX12_thickOf (I : tq_PI) (L : tq_PL) (a0 : Nat) (a1 : Int32) : Option (Int32 × tq_PI) :=
  ((FX12_throughOf I L a0 a1).bind fun p1 => (if p1.1 = (99999 : Int32) then some ((-1 : Int32), p1.2) else (if ¬ (100 : Int32) = 0 then some ((p1.1 / (100 : Int32)), p1.2) else none)))
set_option maxRecDepth 100000 in
set_option maxHeartbeats 4000000 in
theorem CX12_thickOf {S : Nat × (Nat → Int32)} {d : Nat} {I : tq_PI} {L : tq_PL} {a0 : Nat} {a1 : Int32} (h0 : tq_sh0 a0 = 12) {out : Int32 × tq_PI} (hf : FX12_thickOf I L a0 a1 = some out) : tq_K S mX12_thickOf (d + 4) [.ref a0, .int a1] I L (tq_one2 (some (.int out.1)) out.2 L) := by
  unfold FX12_thickOf at hf
  refine tq_K_of (by decide) (Nat.le_of_ble_eq_true rfl) (ls := [.ref a0, .int a1, tq_u]) rfl ?_
  refine tq_aload_n rX12_thickOf_0 rfl ?_
  refine tq_iload_n rX12_thickOf_1 rfl ?_
  obtain ⟨p1, e1, hf⟩ := Option.bind_eq_some_iff.mp hf
  refine ty_callVI p1.1 ([.int a1]) ([]) rX12_thickOf_2 l_X12_218 moX12_throughOf mvX12_throughOf h0 rfl rfl (Nat.le_of_ble_eq_true rfl) ⟨rfl, rfl⟩ (CX12_throughOf h0 e1) ?_
  refine tq_istore_n ([.ref a0, .int a1, .int p1.1]) rX12_thickOf_5 (Nat.le_of_ble_eq_true rfl) rfl ?_
  refine tq_iload_n rX12_thickOf_6 rfl ?_
  refine tq_ldc rX12_thickOf_7 (k_X12_214) ?_
  refine tq_icmp_ne rX12_thickOf_9 (fun c2 => ?_) (fun c2 => ?_)
  · rw [if_neg c2] at hf
    refine tq_iload_n rX12_thickOf_16 rfl ?_
    refine tq_bipush (100 : Int32) rX12_thickOf_17 (by decide) ?_
    obtain ⟨g3, hf⟩ := tq_chk hf
    refine tq_idiv rX12_thickOf_19 g3 ?_
    refine ty_iret rX12_thickOf_20 rfl rfl ?_
    have hf := Option.some.inj hf
    subst hf
    exact ⟨rfl, rfl, rfl⟩
  · rw [if_pos c2] at hf
    refine tq_iconst (-1 : Int32) rX12_thickOf_12 (by decide) ?_
    refine tq_goto rX12_thickOf_13 ?_
    refine ty_iret rX12_thickOf_20 rfl rfl ?_
    have hf := Option.some.inj hf
    subst hf
    exact ⟨rfl, rfl, rfl⟩

abbrev mX12_path : tq_M := (yX12_path, cX12_path, 3, (Option.some Jvm.ClassFile.FieldType.int), 0, 0)
theorem moX12_asTold : tq_mok mX12_asTold 0 := ⟨tq_sg1 _ (List.mem_of_getElem? (i := 13) rfl), tq_sg7 _ (List.mem_of_getElem? (i := 81) rfl), ⟨by decide, by decide, by decide +kernel⟩, by decide⟩
theorem mvX12_asTold : 12 < 13 ∧ (tq_cl 12).1 = mX12_asTold.1.cls ∧ Cond.instanceMethod mX12_asTold.1 ∈ lw_tbl ∧ Cond.selects mX12_asTold.1.cls mX12_asTold.1 mX12_asTold.1 ∈ lw_tbl := ⟨by decide, rfl, tq_sg7 _ (List.mem_of_getElem? (i := 80) rfl), List.mem_append_left _ (List.mem_map.mpr ⟨_, List.mem_of_getElem? (i := 61) rfl, rfl⟩)⟩
theorem moX12_isHill : tq_mok mX12_isHill 1 := ⟨tq_sg1 _ (List.mem_of_getElem? (i := 13) rfl), tq_sg7 _ (List.mem_of_getElem? (i := 77) rfl), ⟨by decide, by decide, by decide +kernel⟩, by decide⟩
theorem mvX12_isHill : 12 < 13 ∧ (tq_cl 12).1 = mX12_isHill.1.cls ∧ Cond.instanceMethod mX12_isHill.1 ∈ lw_tbl ∧ Cond.selects mX12_isHill.1.cls mX12_isHill.1 mX12_isHill.1 ∈ lw_tbl := ⟨by decide, rfl, tq_sg7 _ (List.mem_of_getElem? (i := 76) rfl), List.mem_append_left _ (List.mem_map.mpr ⟨_, List.mem_of_getElem? (i := 60) rfl, rfl⟩)⟩
theorem l_X12_221 : tq_lok RX12 221 mX12_isHill.1 := Or.inl (tq_sg7 _ (List.mem_of_getElem? (i := 74) rfl))
theorem l_X12_224 : tq_lok RX12 224 mX12_asTold.1 := Or.inl (tq_sg7 _ (List.mem_of_getElem? (i := 78) rfl))
theorem rX12_path_0 : tq_D cX12_path 0 (.aload_n 0) 1 1 := ⟨by decide +kernel, rfl⟩
theorem rX12_path_1 : tq_D cX12_path 1 (.iload_n 1) 1 2 := ⟨by decide +kernel, rfl⟩
theorem rX12_path_2 : tq_D cX12_path 2 (.invokevirtual 221) 3 5 := ⟨by decide +kernel, rfl⟩
theorem rX12_path_5 : tq_J cX12_path 5 (.ifCond .ne) 10 8 := ⟨5, by decide +kernel, by decide, rfl⟩
theorem rX12_path_8 : tq_D cX12_path 8 (.iconst (-1)) 1 9 := ⟨by decide +kernel, rfl⟩
theorem rX12_path_9 : decode cX12_path 9 = .ok (.ireturn, 1) := by decide +kernel
theorem rX12_path_10 : tq_D cX12_path 10 (.aload_n 0) 1 11 := ⟨by decide +kernel, rfl⟩
theorem rX12_path_11 : tq_D cX12_path 11 (.invokevirtual 224) 3 14 := ⟨by decide +kernel, rfl⟩
theorem rX12_path_14 : tq_D cX12_path 14 (.aload_n 0) 1 15 := ⟨by decide +kernel, rfl⟩
theorem rX12_path_15 : tq_D cX12_path 15 (.iconst 0) 1 16 := ⟨by decide +kernel, rfl⟩
theorem rX12_path_16 : tq_D cX12_path 16 (.invokevirtual 218) 3 19 := ⟨by decide +kernel, rfl⟩
theorem rX12_path_19 : tq_D cX12_path 19 (.istore_n 2) 1 20 := ⟨by decide +kernel, rfl⟩
theorem rX12_path_20 : tq_D cX12_path 20 (.iload_n 2) 1 21 := ⟨by decide +kernel, rfl⟩
theorem rX12_path_21 : tq_D cX12_path 21 (.ldc 214) 2 23 := ⟨by decide +kernel, rfl⟩
theorem rX12_path_23 : tq_J cX12_path 23 (.if_icmp .ne) 30 26 := ⟨7, by decide +kernel, by decide, rfl⟩
theorem rX12_path_26 : tq_D cX12_path 26 (.iconst (-1)) 1 27 := ⟨by decide +kernel, rfl⟩
theorem rX12_path_27 : tq_J cX12_path 27 .goto 34 30 := ⟨7, by decide +kernel, by decide, rfl⟩
theorem rX12_path_30 : tq_D cX12_path 30 (.iload_n 2) 1 31 := ⟨by decide +kernel, rfl⟩
theorem rX12_path_31 : tq_D cX12_path 31 (.bipush 100) 2 33 := ⟨by decide +kernel, rfl⟩
theorem rX12_path_33 : tq_D cX12_path 33 (.irem) 1 34 := ⟨by decide +kernel, rfl⟩
theorem rX12_path_34 : decode cX12_path 34 = .ok (.ireturn, 1) := by decide +kernel
noncomputable def FX12_path (I : tq_PI) (L : tq_PL) (a0 : Nat) (a1 : Int32) : Option (Int32 × tq_PI) :=
  ((FX12_isHill I L a0 a1).bind fun p1 => (if (tq_b p1.1) = 0 then some ((-1 : Int32), p1.2) else ((FX12_asTold p1.2 L a0).bind fun p3 => ((FX12_throughOf p3 L a0 ((0 : Int32))).bind fun p4 => (if p4.1 = (99999 : Int32) then some ((-1 : Int32), p4.2) else (if ¬ (100 : Int32) = 0 then some ((p4.1 - p4.1 / (100 : Int32) * (100 : Int32)), p4.2) else none))))))
set_option maxRecDepth 100000 in
set_option maxHeartbeats 4000000 in
theorem CX12_path {S : Nat × (Nat → Int32)} {d : Nat} {I : tq_PI} {L : tq_PL} {a0 : Nat} {a1 : Int32} (h0 : tq_sh0 a0 = 12) {out : Int32 × tq_PI} (hf : FX12_path I L a0 a1 = some out) : tq_K S mX12_path (d + 4) [.ref a0, .int a1] I L (tq_one2 (some (.int out.1)) out.2 L) := by
  unfold FX12_path at hf
  refine tq_K_of (by decide) (Nat.le_of_ble_eq_true rfl) (ls := [.ref a0, .int a1, tq_u]) rfl ?_
  refine tq_aload_n rX12_path_0 rfl ?_
  refine tq_iload_n rX12_path_1 rfl ?_
  obtain ⟨p1, e1, hf⟩ := Option.bind_eq_some_iff.mp hf
  refine ty_callVI (tq_b p1.1) ([.int a1]) ([]) rX12_path_2 l_X12_221 moX12_isHill mvX12_isHill h0 rfl rfl (Nat.le_of_ble_eq_true rfl) ⟨rfl, rfl⟩ (CX12_isHill h0 e1) ?_
  refine tq_if_ne rX12_path_5 (fun c2 => ?_) (fun c2 => ?_)
  · rw [if_neg c2] at hf
    refine tq_aload_n rX12_path_10 rfl ?_
    obtain ⟨p3, e3, hf⟩ := Option.bind_eq_some_iff.mp hf
    refine ty_callVV ([]) ([]) rX12_path_11 l_X12_224 moX12_asTold mvX12_asTold h0 rfl rfl (Nat.le_of_ble_eq_true rfl) ⟨rfl, rfl⟩ (CX12_asTold h0 e3) ?_
    refine tq_aload_n rX12_path_14 rfl ?_
    refine tq_iconst (0 : Int32) rX12_path_15 (by decide) ?_
    obtain ⟨p4, e4, hf⟩ := Option.bind_eq_some_iff.mp hf
    refine ty_callVI p4.1 ([.int (0 : Int32)]) ([]) rX12_path_16 l_X12_218 moX12_throughOf mvX12_throughOf h0 rfl rfl (Nat.le_of_ble_eq_true rfl) ⟨rfl, rfl⟩ (CX12_throughOf h0 e4) ?_
    refine tq_istore_n ([.ref a0, .int a1, .int p4.1]) rX12_path_19 (Nat.le_of_ble_eq_true rfl) rfl ?_
    refine tq_iload_n rX12_path_20 rfl ?_
    refine tq_ldc rX12_path_21 (k_X12_214) ?_
    refine tq_icmp_ne rX12_path_23 (fun c5 => ?_) (fun c5 => ?_)
    · rw [if_neg c5] at hf
      refine tq_iload_n rX12_path_30 rfl ?_
      refine tq_bipush (100 : Int32) rX12_path_31 (by decide) ?_
      obtain ⟨g6, hf⟩ := tq_chk hf
      refine tq_irem rX12_path_33 g6 ?_
      refine ty_iret rX12_path_34 rfl rfl ?_
      have hf := Option.some.inj hf
      subst hf
      exact ⟨rfl, rfl, rfl⟩
    · rw [if_pos c5] at hf
      refine tq_iconst (-1 : Int32) rX12_path_26 (by decide) ?_
      refine tq_goto rX12_path_27 ?_
      refine ty_iret rX12_path_34 rfl rfl ?_
      have hf := Option.some.inj hf
      subst hf
      exact ⟨rfl, rfl, rfl⟩
  · rw [if_pos c2] at hf
    refine tq_iconst (-1 : Int32) rX12_path_8 (by decide) ?_
    refine ty_iret rX12_path_9 rfl rfl ?_
    have hf := Option.some.inj hf
    subst hf
    exact ⟨rfl, rfl, rfl⟩

abbrev mX12_isSide : tq_M := (yX12_isSide, cX12_isSide, 1, (Option.some Jvm.ClassFile.FieldType.boolean), 0, 0)
theorem rX12_isSide_0 : tq_D cX12_isSide 0 (.iload_n 0) 1 1 := ⟨by decide +kernel, rfl⟩
theorem rX12_isSide_1 : tq_D cX12_isSide 1 (.iconst 0) 1 2 := ⟨by decide +kernel, rfl⟩
theorem rX12_isSide_2 : tq_D cX12_isSide 2 (.iconst 1) 1 3 := ⟨by decide +kernel, rfl⟩
theorem rX12_isSide_3 : tq_D cX12_isSide 3 (.invokestatic 118) 3 6 := ⟨by decide +kernel, rfl⟩
theorem rX12_isSide_6 : decode cX12_isSide 6 = .ok (.ireturn, 1) := by decide +kernel
noncomputable def FX12_isSide (I : tq_PI) (L : tq_PL) (a0 : Int32) : Bool :=
  (tq_let (FX12_isIn I L a0 ((0 : Int32)) ((1 : Int32))) fun p1 => p1)
set_option maxRecDepth 100000 in
set_option maxHeartbeats 4000000 in
theorem CX12_isSide {S : Nat × (Nat → Int32)} {d : Nat} {I : tq_PI} {L : tq_PL} {a0 : Int32}  {out : Bool} (hf : FX12_isSide I L a0 = out) : tq_K S mX12_isSide (d + 1) [.int a0] I L (tq_one2 (some (.int (tq_b out))) I L) := by
  unfold FX12_isSide at hf
  refine tq_K_of (by decide) (Nat.le_of_ble_eq_true rfl) (ls := [.int a0]) rfl ?_
  refine tq_iload_n rX12_isSide_0 rfl ?_
  refine tq_iconst (0 : Int32) rX12_isSide_1 (by decide) ?_
  refine tq_iconst (1 : Int32) rX12_isSide_2 (by decide) ?_
  obtain ⟨p1, e1, hf⟩ := tq_let_elim hf
  refine ty_callSI (tq_b p1) ([.int a0, .int (0 : Int32), .int (1 : Int32)]) ([]) rX12_isSide_3 l_X12_118 moX12_isIn msX12_isIn rfl rfl (Nat.le_of_ble_eq_true rfl) ⟨rfl, rfl⟩ (CX12_isIn  e1) ?_
  refine ty_zret (ty := .boolean) rX12_isSide_6 rfl (tq_fitZ (tq_b01 _)).1 rfl ?_
  subst hf
  exact ⟨rfl, rfl, rfl⟩

abbrev mX12_nearer : tq_M := (yX12_nearer, cX12_nearer, 5, (Option.some Jvm.ClassFile.FieldType.int), 0, 0)
theorem moX12_isSide : tq_mok mX12_isSide 1 := ⟨tq_sg1 _ (List.mem_of_getElem? (i := 13) rfl), tq_sg7 _ (List.mem_of_getElem? (i := 112) rfl), ⟨by decide, by decide, by decide +kernel⟩, by decide⟩
theorem msX12_isSide : Cond.static mX12_isSide.1 ∈ lw_tbl := tq_sg7 _ (List.mem_of_getElem? (i := 111) rfl)
theorem moX12_worthOf : tq_mok mX12_worthOf 1 := ⟨tq_sg1 _ (List.mem_of_getElem? (i := 13) rfl), tq_sg7 _ (List.mem_of_getElem? (i := 115) rfl), ⟨by decide, by decide, by decide +kernel⟩, by decide⟩
theorem msX12_worthOf : Cond.static mX12_worthOf.1 ∈ lw_tbl := tq_sg7 _ (List.mem_of_getElem? (i := 114) rfl)
theorem f_X12_29 : tq_fok RX12 29 12 18 := ⟨by decide, by decide, Or.inl (tq_sg6 _ (List.mem_of_getElem? (i := 91) rfl))⟩
theorem l_X12_227 : tq_lok RX12 227 mX12_isSide.1 := Or.inl (tq_sg7 _ (List.mem_of_getElem? (i := 110) rfl))
theorem l_X12_230 : tq_lok RX12 230 mX12_worthOf.1 := Or.inl (tq_sg7 _ (List.mem_of_getElem? (i := 113) rfl))
theorem rX12_nearer_0 : tq_D cX12_nearer 0 (.aload_n 0) 1 1 := ⟨by decide +kernel, rfl⟩
theorem rX12_nearer_1 : tq_D cX12_nearer 1 (.iload_n 1) 1 2 := ⟨by decide +kernel, rfl⟩
theorem rX12_nearer_2 : tq_D cX12_nearer 2 (.invokevirtual 221) 3 5 := ⟨by decide +kernel, rfl⟩
theorem rX12_nearer_5 : tq_J cX12_nearer 5 (.ifCond .eq) 15 8 := ⟨10, by decide +kernel, by decide, rfl⟩
theorem rX12_nearer_8 : tq_D cX12_nearer 8 (.iload_n 2) 1 9 := ⟨by decide +kernel, rfl⟩
theorem rX12_nearer_9 : tq_D cX12_nearer 9 (.invokestatic 227) 3 12 := ⟨by decide +kernel, rfl⟩
theorem rX12_nearer_12 : tq_J cX12_nearer 12 (.ifCond .ne) 17 15 := ⟨5, by decide +kernel, by decide, rfl⟩
theorem rX12_nearer_15 : tq_D cX12_nearer 15 (.iconst (-1)) 1 16 := ⟨by decide +kernel, rfl⟩
theorem rX12_nearer_16 : decode cX12_nearer 16 = .ok (.ireturn, 1) := by decide +kernel
theorem rX12_nearer_17 : tq_D cX12_nearer 17 (.aload_n 0) 1 18 := ⟨by decide +kernel, rfl⟩
theorem rX12_nearer_18 : tq_D cX12_nearer 18 (.invokevirtual 224) 3 21 := ⟨by decide +kernel, rfl⟩
theorem rX12_nearer_21 : tq_D cX12_nearer 21 (.aload_n 0) 1 22 := ⟨by decide +kernel, rfl⟩
theorem rX12_nearer_22 : tq_D cX12_nearer 22 (.iconst 0) 1 23 := ⟨by decide +kernel, rfl⟩
theorem rX12_nearer_23 : tq_D cX12_nearer 23 (.iload_n 2) 1 24 := ⟨by decide +kernel, rfl⟩
theorem rX12_nearer_24 : tq_D cX12_nearer 24 (.invokevirtual 215) 3 27 := ⟨by decide +kernel, rfl⟩
theorem rX12_nearer_27 : tq_D cX12_nearer 27 (.iconst 0) 1 28 := ⟨by decide +kernel, rfl⟩
theorem rX12_nearer_28 : tq_D cX12_nearer 28 (.istore_n 3) 1 29 := ⟨by decide +kernel, rfl⟩
theorem rX12_nearer_29 : tq_D cX12_nearer 29 (.iload_n 3) 1 30 := ⟨by decide +kernel, rfl⟩
theorem rX12_nearer_30 : tq_D cX12_nearer 30 (.aload_n 0) 1 31 := ⟨by decide +kernel, rfl⟩
theorem rX12_nearer_31 : tq_D cX12_nearer 31 (.invokevirtual 190) 3 34 := ⟨by decide +kernel, rfl⟩
theorem rX12_nearer_34 : tq_J cX12_nearer 34 (.if_icmp .ge) 75 37 := ⟨41, by decide +kernel, by decide, rfl⟩
theorem rX12_nearer_37 : tq_D cX12_nearer 37 (.aload_n 0) 1 38 := ⟨by decide +kernel, rfl⟩
theorem rX12_nearer_38 : tq_D cX12_nearer 38 (.getfield 29) 3 41 := ⟨by decide +kernel, rfl⟩
theorem rX12_nearer_41 : tq_D cX12_nearer 41 (.iload_n 3) 1 42 := ⟨by decide +kernel, rfl⟩
theorem rX12_nearer_42 : tq_D cX12_nearer 42 (.aload_n 0) 1 43 := ⟨by decide +kernel, rfl⟩
theorem rX12_nearer_43 : tq_D cX12_nearer 43 (.getfield 26) 3 46 := ⟨by decide +kernel, rfl⟩
theorem rX12_nearer_46 : tq_D cX12_nearer 46 (.iload_n 3) 1 47 := ⟨by decide +kernel, rfl⟩
theorem rX12_nearer_47 : tq_D cX12_nearer 47 (.iaload) 1 48 := ⟨by decide +kernel, rfl⟩
theorem rX12_nearer_48 : tq_D cX12_nearer 48 (.ldc 214) 2 50 := ⟨by decide +kernel, rfl⟩
theorem rX12_nearer_50 : tq_J cX12_nearer 50 (.if_icmp .ne) 59 53 := ⟨9, by decide +kernel, by decide, rfl⟩
theorem rX12_nearer_53 : tq_D cX12_nearer 53 (.sipush 999) 3 56 := ⟨by decide +kernel, rfl⟩
theorem rX12_nearer_56 : tq_J cX12_nearer 56 .goto 68 59 := ⟨12, by decide +kernel, by decide, rfl⟩
theorem rX12_nearer_59 : tq_D cX12_nearer 59 (.aload_n 0) 1 60 := ⟨by decide +kernel, rfl⟩
theorem rX12_nearer_60 : tq_D cX12_nearer 60 (.getfield 26) 3 63 := ⟨by decide +kernel, rfl⟩
theorem rX12_nearer_63 : tq_D cX12_nearer 63 (.iload_n 3) 1 64 := ⟨by decide +kernel, rfl⟩
theorem rX12_nearer_64 : tq_D cX12_nearer 64 (.iaload) 1 65 := ⟨by decide +kernel, rfl⟩
theorem rX12_nearer_65 : tq_D cX12_nearer 65 (.bipush 100) 2 67 := ⟨by decide +kernel, rfl⟩
theorem rX12_nearer_67 : tq_D cX12_nearer 67 (.idiv) 1 68 := ⟨by decide +kernel, rfl⟩
theorem rX12_nearer_68 : tq_D cX12_nearer 68 (.iastore) 1 69 := ⟨by decide +kernel, rfl⟩
theorem rX12_nearer_69 : tq_D cX12_nearer 69 (.iinc 3 1) 3 72 := ⟨by decide +kernel, rfl⟩
theorem rX12_nearer_72 : tq_J cX12_nearer 72 .goto 29 75 := ⟨(-43), by decide +kernel, by decide, rfl⟩
theorem rX12_nearer_75 : tq_D cX12_nearer 75 (.aload_n 0) 1 76 := ⟨by decide +kernel, rfl⟩
theorem rX12_nearer_76 : tq_D cX12_nearer 76 (.iconst 0) 1 77 := ⟨by decide +kernel, rfl⟩
theorem rX12_nearer_77 : tq_D cX12_nearer 77 (.iconst 1) 1 78 := ⟨by decide +kernel, rfl⟩
theorem rX12_nearer_78 : tq_D cX12_nearer 78 (.iload_n 2) 1 79 := ⟨by decide +kernel, rfl⟩
theorem rX12_nearer_79 : tq_D cX12_nearer 79 (.isub) 1 80 := ⟨by decide +kernel, rfl⟩
theorem rX12_nearer_80 : tq_D cX12_nearer 80 (.invokevirtual 215) 3 83 := ⟨by decide +kernel, rfl⟩
theorem rX12_nearer_83 : tq_D cX12_nearer 83 (.iconst 0) 1 84 := ⟨by decide +kernel, rfl⟩
theorem rX12_nearer_84 : tq_D cX12_nearer 84 (.istore_n 3) 1 85 := ⟨by decide +kernel, rfl⟩
theorem rX12_nearer_85 : tq_D cX12_nearer 85 (.iconst 0) 1 86 := ⟨by decide +kernel, rfl⟩
theorem rX12_nearer_86 : tq_D cX12_nearer 86 (.istore 4) 2 88 := ⟨by decide +kernel, rfl⟩
theorem rX12_nearer_88 : tq_D cX12_nearer 88 (.iload 4) 2 90 := ⟨by decide +kernel, rfl⟩
theorem rX12_nearer_90 : tq_D cX12_nearer 90 (.aload_n 0) 1 91 := ⟨by decide +kernel, rfl⟩
theorem rX12_nearer_91 : tq_D cX12_nearer 91 (.invokevirtual 190) 3 94 := ⟨by decide +kernel, rfl⟩
theorem rX12_nearer_94 : tq_J cX12_nearer 94 (.if_icmp .ge) 158 97 := ⟨64, by decide +kernel, by decide, rfl⟩
theorem rX12_nearer_97 : tq_D cX12_nearer 97 (.iload_n 3) 1 98 := ⟨by decide +kernel, rfl⟩
theorem rX12_nearer_98 : tq_D cX12_nearer 98 (.aload_n 0) 1 99 := ⟨by decide +kernel, rfl⟩
theorem rX12_nearer_99 : tq_D cX12_nearer 99 (.getfield 29) 3 102 := ⟨by decide +kernel, rfl⟩
theorem rX12_nearer_102 : tq_D cX12_nearer 102 (.iload 4) 2 104 := ⟨by decide +kernel, rfl⟩
theorem rX12_nearer_104 : tq_D cX12_nearer 104 (.iaload) 1 105 := ⟨by decide +kernel, rfl⟩
theorem rX12_nearer_105 : tq_D cX12_nearer 105 (.aload_n 0) 1 106 := ⟨by decide +kernel, rfl⟩
theorem rX12_nearer_106 : tq_D cX12_nearer 106 (.getfield 26) 3 109 := ⟨by decide +kernel, rfl⟩
theorem rX12_nearer_109 : tq_D cX12_nearer 109 (.iload 4) 2 111 := ⟨by decide +kernel, rfl⟩
theorem rX12_nearer_111 : tq_D cX12_nearer 111 (.iaload) 1 112 := ⟨by decide +kernel, rfl⟩
theorem rX12_nearer_112 : tq_D cX12_nearer 112 (.ldc 214) 2 114 := ⟨by decide +kernel, rfl⟩
theorem rX12_nearer_114 : tq_J cX12_nearer 114 (.if_icmp .ne) 123 117 := ⟨9, by decide +kernel, by decide, rfl⟩
theorem rX12_nearer_117 : tq_D cX12_nearer 117 (.sipush 999) 3 120 := ⟨by decide +kernel, rfl⟩
theorem rX12_nearer_120 : tq_J cX12_nearer 120 .goto 133 123 := ⟨13, by decide +kernel, by decide, rfl⟩
theorem rX12_nearer_123 : tq_D cX12_nearer 123 (.aload_n 0) 1 124 := ⟨by decide +kernel, rfl⟩
theorem rX12_nearer_124 : tq_D cX12_nearer 124 (.getfield 26) 3 127 := ⟨by decide +kernel, rfl⟩
theorem rX12_nearer_127 : tq_D cX12_nearer 127 (.iload 4) 2 129 := ⟨by decide +kernel, rfl⟩
theorem rX12_nearer_129 : tq_D cX12_nearer 129 (.iaload) 1 130 := ⟨by decide +kernel, rfl⟩
theorem rX12_nearer_130 : tq_D cX12_nearer 130 (.bipush 100) 2 132 := ⟨by decide +kernel, rfl⟩
theorem rX12_nearer_132 : tq_D cX12_nearer 132 (.idiv) 1 133 := ⟨by decide +kernel, rfl⟩
theorem rX12_nearer_133 : tq_J cX12_nearer 133 (.if_icmp .ge) 149 136 := ⟨16, by decide +kernel, by decide, rfl⟩
theorem rX12_nearer_136 : tq_D cX12_nearer 136 (.aload_n 0) 1 137 := ⟨by decide +kernel, rfl⟩
theorem rX12_nearer_137 : tq_D cX12_nearer 137 (.iconst 0) 1 138 := ⟨by decide +kernel, rfl⟩
theorem rX12_nearer_138 : tq_D cX12_nearer 138 (.iload 4) 2 140 := ⟨by decide +kernel, rfl⟩
theorem rX12_nearer_140 : tq_D cX12_nearer 140 (.invokevirtual 193) 3 143 := ⟨by decide +kernel, rfl⟩
theorem rX12_nearer_143 : tq_D cX12_nearer 143 (.invokestatic 230) 3 146 := ⟨by decide +kernel, rfl⟩
theorem rX12_nearer_146 : tq_J cX12_nearer 146 .goto 150 149 := ⟨4, by decide +kernel, by decide, rfl⟩
theorem rX12_nearer_149 : tq_D cX12_nearer 149 (.iconst 0) 1 150 := ⟨by decide +kernel, rfl⟩
theorem rX12_nearer_150 : tq_D cX12_nearer 150 (.iadd) 1 151 := ⟨by decide +kernel, rfl⟩
theorem rX12_nearer_151 : tq_D cX12_nearer 151 (.istore_n 3) 1 152 := ⟨by decide +kernel, rfl⟩
theorem rX12_nearer_152 : tq_D cX12_nearer 152 (.iinc 4 1) 3 155 := ⟨by decide +kernel, rfl⟩
theorem rX12_nearer_155 : tq_J cX12_nearer 155 .goto 88 158 := ⟨(-67), by decide +kernel, by decide, rfl⟩
theorem rX12_nearer_158 : tq_D cX12_nearer 158 (.iload_n 3) 1 159 := ⟨by decide +kernel, rfl⟩
theorem rX12_nearer_159 : decode cX12_nearer 159 = .ok (.ireturn, 1) := by decide +kernel
noncomputable def FX12_nearer_j15 (I : tq_PI) (L : tq_PL)  : Option (Int32 × tq_PI) :=
  some ((-1 : Int32), I)
noncomputable def FX12_nearer_j68L29 (I : tq_PI) (L : tq_PL) (a0 : Nat) (a2 : Int32) (a3 : Int32) (b0 : Int32) (b1 : Int32) (b2 : Nat) : Option ((Int32 × tq_PI) ⊕ (tq_PI)) :=
  (if 0 ≤ b1 ∧ b1 < 48 then some (.inl ((a3 + 1), (tq_up2 I b2 b1.toNatClampNeg b0))) else none)
noncomputable def FX12_nearer_s29 (I : tq_PI) (L : tq_PL) (a0 : Nat) (a2 : Int32) (a3 : Int32) : Option ((Int32 × tq_PI) ⊕ (tq_PI)) :=
  (tq_let (FX12_many I L a0) fun p7 => (if p7 ≤ a3 then some (.inr I) else (if 0 ≤ a3 ∧ a3 < 48 then (if (I (tq_rg a0 17) a3.toNatClampNeg) = (99999 : Int32) then (FX12_nearer_j68L29 I L a0 a2 a3 ((999 : Int32)) a3 ((tq_rg a0 18))) else (if 0 ≤ a3 ∧ a3 < 48 then (if ¬ (100 : Int32) = 0 then (FX12_nearer_j68L29 I L a0 a2 a3 (((I (tq_rg a0 17) a3.toNatClampNeg) / (100 : Int32))) a3 ((tq_rg a0 18))) else none) else none)) else none)))
noncomputable def FX12_nearer_j150L88 (I : tq_PI) (L : tq_PL) (a0 : Nat) (a4 : Int32) (b0 : Int32) (b1 : Int32) : Option ((Int32 × Int32) ⊕ (Int32)) :=
  some (.inl ((b1 + b0), (a4 + 1)))
noncomputable def FX12_nearer_j133L88 (I : tq_PI) (L : tq_PL) (a0 : Nat) (a4 : Int32) (b0 : Int32) (b1 : Int32) (b2 : Int32) : Option ((Int32 × Int32) ⊕ (Int32)) :=
  (if b0 ≤ b1 then (FX12_nearer_j150L88 I L a0 a4 ((0 : Int32)) b2) else ((FX12_kindOf I L a0 ((0 : Int32)) a4).bind fun p24 => (tq_let (FX12_worthOf I L p24) fun p25 => (FX12_nearer_j150L88 I L a0 a4 p25 b2))))
noncomputable def FX12_nearer_s88 (I : tq_PI) (L : tq_PL) (a0 : Nat) (a3 : Int32) (a4 : Int32) : Option ((Int32 × Int32) ⊕ (Int32)) :=
  (tq_let (FX12_many I L a0) fun p16 => (if p16 ≤ a4 then some (.inr a3) else (if 0 ≤ a4 ∧ a4 < 48 then (if 0 ≤ a4 ∧ a4 < 48 then (if (I (tq_rg a0 17) a4.toNatClampNeg) = (99999 : Int32) then (FX12_nearer_j133L88 I L a0 a4 ((999 : Int32)) ((I (tq_rg a0 18) a4.toNatClampNeg)) a3) else (if 0 ≤ a4 ∧ a4 < 48 then (if ¬ (100 : Int32) = 0 then (FX12_nearer_j133L88 I L a0 a4 (((I (tq_rg a0 17) a4.toNatClampNeg) / (100 : Int32))) ((I (tq_rg a0 18) a4.toNatClampNeg)) a3) else none) else none)) else none) else none)))
noncomputable def FX12_nearer (I : tq_PI) (L : tq_PL) (a0 : Nat) (a1 : Int32) (a2 : Int32) : Option (Int32 × tq_PI) :=
  ((FX12_isHill I L a0 a1).bind fun p1 => (if (tq_b p1.1) = 0 then (FX12_nearer_j15 p1.2 L ) else (tq_let (FX12_isSide p1.2 L a2) fun p3 => (if (tq_b p3) = 0 then (FX12_nearer_j15 p1.2 L ) else ((FX12_asTold p1.2 L a0).bind fun p5 => ((FX12_laysWays p5 L a0 ((0 : Int32)) a2).bind fun p6 => ((tq_it (fun p : Int32 × tq_PI => FX12_nearer_s29 p.2 L a0 a2 p.1) tq_N ((0 : Int32), p6)).bind fun p14 => ((FX12_laysWays p14 L a0 ((0 : Int32)) (((1 : Int32) - a2))).bind fun p15 => ((tq_it (fun p : Int32 × Int32 => FX12_nearer_s88 p15 L a0 p.1 p.2) tq_N ((0 : Int32), (0 : Int32))).bind fun p26 => some (p26, p15))))))))))
set_option maxRecDepth 100000 in
set_option maxHeartbeats 4000000 in
theorem FX12_nearer_j15_x {S : Nat × (Nat → Int32)} {d : Nat} {I : tq_PI} {L : tq_PL}   {q0 : Option Value → tq_PI → tq_PL → Prop} {out : Int32 × tq_PI} (hf : FX12_nearer_j15 I L = some out) (hk : q0 (some (.int out.1)) out.2 L) : tq_X S mX12_nearer (d + 3) tq_k0 15 ([tq_u, tq_u, tq_u, tq_u, tq_u]) ([]) (tq_st I L) (tq_Q q0) := by
  unfold FX12_nearer_j15 at hf
  refine tq_iconst (-1 : Int32) rX12_nearer_15 (by decide) ?_
  refine ty_iret rX12_nearer_16 rfl rfl ?_
  have hf := Option.some.inj hf
  subst hf
  exact hk

set_option maxRecDepth 100000 in
set_option maxHeartbeats 4000000 in
theorem FX12_nearer_j68L29_x {S : Nat × (Nat → Int32)} {d : Nat} {I : tq_PI} {L : tq_PL} {a0 : Nat} {a2 : Int32} {a3 : Int32} {b0 : Int32} {b1 : Int32} {b2 : Nat} (h0 : tq_sh0 a0 = 12) (k2 : tq_sh0 b2 = 100) (k2n : tq_ln0 b2 = 48) {q0 : Option Value → tq_PI → tq_PL → Prop} {out : (Int32 × tq_PI) ⊕ (tq_PI)} (hf : FX12_nearer_j68L29 I L a0 a2 a3 b0 b1 b2 = some out) (hk : Sum.elim (fun p : Int32 × tq_PI => tq_X S mX12_nearer (d + 3) tq_k0 29 ([.ref a0, tq_u, .int a2, .int p.1, tq_u]) [] (tq_st p.2 L) (tq_Q q0)) (fun p : tq_PI => tq_X S mX12_nearer (d + 3) tq_k0 75 ([.ref a0, tq_u, .int a2, tq_u, tq_u]) [] (tq_st p L) (tq_Q q0)) out) : tq_X S mX12_nearer (d + 3) tq_k0 68 ([.ref a0, tq_u, .int a2, .int a3, tq_u]) ([.int b0, .int b1, .ref b2]) (tq_st I L) (tq_Q q0) := by
  unfold FX12_nearer_j68L29 at hf
  obtain ⟨g13, hf⟩ := tq_chk hf
  refine ty_iast (v := 48) rX12_nearer_68 k2 k2n rfl (by decide) g13 ?_
  refine tq_iinc (a3 + 1) ([.ref a0, tq_u, .int a2, .int (a3 + 1), tq_u]) rX12_nearer_69 rfl (tq_inc (by decide)) (Nat.le_of_ble_eq_true rfl) rfl ?_
  refine tq_goto rX12_nearer_72 ?_
  have hf := Option.some.inj hf
  subst hf
  exact tq_forget _ (tq_le_s (tq_le_u (tq_le_s (tq_le_s (tq_le_u tq_le_n))))) hk

set_option maxRecDepth 100000 in
set_option maxHeartbeats 4000000 in
theorem FX12_nearer_s29_x {S : Nat × (Nat → Int32)} {d : Nat} {I : tq_PI} {L : tq_PL} {a0 : Nat} {a2 : Int32} {a3 : Int32} (h0 : tq_sh0 a0 = 12) {q0 : Option Value → tq_PI → tq_PL → Prop} {out : (Int32 × tq_PI) ⊕ (tq_PI)} (hf : FX12_nearer_s29 I L a0 a2 a3 = some out) (hk : Sum.elim (fun p : Int32 × tq_PI => tq_X S mX12_nearer (d + 3) tq_k0 29 ([.ref a0, tq_u, .int a2, .int p.1, tq_u]) [] (tq_st p.2 L) (tq_Q q0)) (fun p : tq_PI => tq_X S mX12_nearer (d + 3) tq_k0 75 ([.ref a0, tq_u, .int a2, tq_u, tq_u]) [] (tq_st p L) (tq_Q q0)) out) : tq_X S mX12_nearer (d + 3) tq_k0 29 ([.ref a0, tq_u, .int a2, .int a3, tq_u]) [] (tq_st I L) (tq_Q q0) := by
  unfold FX12_nearer_s29 at hf
  refine tq_iload_n rX12_nearer_29 rfl ?_
  refine tq_aload_n rX12_nearer_30 rfl ?_
  obtain ⟨p7, e7, hf⟩ := tq_let_elim hf
  refine ty_callVI p7 ([]) ([.int a3]) rX12_nearer_31 l_X12_190 moX12_many mvX12_many h0 rfl rfl (Nat.le_of_ble_eq_true rfl) ⟨rfl, rfl⟩ (CX12_many h0 e7) ?_
  refine tq_icmp_ge rX12_nearer_34 (fun c8 => ?_) (fun c8 => ?_)
  · rw [if_pos c8] at hf
    have hf := Option.some.inj hf
    subst hf
    exact tq_forget _ (tq_le_s (tq_le_u (tq_le_s (tq_le_u (tq_le_u tq_le_n))))) hk
  · rw [if_neg c8] at hf
    refine tq_aload_n rX12_nearer_37 rfl ?_
    refine ty_getR rX12_nearer_38 f_X12_29 rfl h0 (hp_12_18 h0).1 ?_
    refine tq_iload_n rX12_nearer_41 rfl ?_
    refine tq_aload_n rX12_nearer_42 rfl ?_
    refine ty_getR rX12_nearer_43 f_X12_26 rfl h0 (hp_12_17 h0).1 ?_
    refine tq_iload_n rX12_nearer_46 rfl ?_
    obtain ⟨g9, hf⟩ := tq_chk hf
    refine ty_iald (v := 48) rX12_nearer_47 (hp_12_17 h0).2.1 (hp_12_17 h0).2.2 rfl (by decide) g9 ?_
    refine tq_ldc rX12_nearer_48 (k_X12_214) ?_
    refine tq_icmp_ne rX12_nearer_50 (fun c10 => ?_) (fun c10 => ?_)
    · rw [if_neg c10] at hf
      refine tq_aload_n rX12_nearer_59 rfl ?_
      refine ty_getR rX12_nearer_60 f_X12_26 rfl h0 (hp_12_17 h0).1 ?_
      refine tq_iload_n rX12_nearer_63 rfl ?_
      obtain ⟨g11, hf⟩ := tq_chk hf
      refine ty_iald (v := 48) rX12_nearer_64 (hp_12_17 h0).2.1 (hp_12_17 h0).2.2 rfl (by decide) g11 ?_
      refine tq_bipush (100 : Int32) rX12_nearer_65 (by decide) ?_
      obtain ⟨g12, hf⟩ := tq_chk hf
      refine tq_idiv rX12_nearer_67 g12 ?_
      exact tq_forget _ (tq_le_s (tq_le_u (tq_le_s (tq_le_s (tq_le_u tq_le_n))))) (FX12_nearer_j68L29_x  h0 (hp_12_18 h0).2.1 (hp_12_18 h0).2.2 hf hk)
    · rw [if_pos c10] at hf
      refine tq_sipush (999 : Int32) rX12_nearer_53 (by decide) ?_
      refine tq_goto rX12_nearer_56 ?_
      exact tq_forget _ (tq_le_s (tq_le_u (tq_le_s (tq_le_s (tq_le_u tq_le_n))))) (FX12_nearer_j68L29_x  h0 (hp_12_18 h0).2.1 (hp_12_18 h0).2.2 hf hk)

set_option maxRecDepth 100000 in
set_option maxHeartbeats 4000000 in
theorem FX12_nearer_j150L88_x {S : Nat × (Nat → Int32)} {d : Nat} {I : tq_PI} {L : tq_PL} {a0 : Nat} {a4 : Int32} {b0 : Int32} {b1 : Int32} (h0 : tq_sh0 a0 = 12) {q0 : Option Value → tq_PI → tq_PL → Prop} {out : (Int32 × Int32) ⊕ (Int32)} (hf : FX12_nearer_j150L88 I L a0 a4 b0 b1 = some out) (hk : Sum.elim (fun p : Int32 × Int32 => tq_X S mX12_nearer (d + 3) tq_k0 88 ([.ref a0, tq_u, tq_u, .int p.1, .int p.2]) [] (tq_st I L) (tq_Q q0)) (fun p : Int32 => tq_X S mX12_nearer (d + 3) tq_k0 158 ([tq_u, tq_u, tq_u, .int p, tq_u]) [] (tq_st I L) (tq_Q q0)) out) : tq_X S mX12_nearer (d + 3) tq_k0 150 ([.ref a0, tq_u, tq_u, tq_u, .int a4]) ([.int b0, .int b1]) (tq_st I L) (tq_Q q0) := by
  unfold FX12_nearer_j150L88 at hf
  refine tq_iadd rX12_nearer_150 ?_
  refine tq_istore_n ([.ref a0, tq_u, tq_u, .int (b1 + b0), .int a4]) rX12_nearer_151 (Nat.le_of_ble_eq_true rfl) rfl ?_
  refine tq_iinc (a4 + 1) ([.ref a0, tq_u, tq_u, .int (b1 + b0), .int (a4 + 1)]) rX12_nearer_152 rfl (tq_inc (by decide)) (Nat.le_of_ble_eq_true rfl) rfl ?_
  refine tq_goto rX12_nearer_155 ?_
  have hf := Option.some.inj hf
  subst hf
  exact tq_forget _ (tq_le_s (tq_le_u (tq_le_u (tq_le_s (tq_le_s tq_le_n))))) hk

set_option maxRecDepth 100000 in
set_option maxHeartbeats 4000000 in
theorem FX12_nearer_j133L88_x {S : Nat × (Nat → Int32)} {d : Nat} {I : tq_PI} {L : tq_PL} {a0 : Nat} {a4 : Int32} {b0 : Int32} {b1 : Int32} {b2 : Int32} (h0 : tq_sh0 a0 = 12) {q0 : Option Value → tq_PI → tq_PL → Prop} {out : (Int32 × Int32) ⊕ (Int32)} (hf : FX12_nearer_j133L88 I L a0 a4 b0 b1 b2 = some out) (hk : Sum.elim (fun p : Int32 × Int32 => tq_X S mX12_nearer (d + 3) tq_k0 88 ([.ref a0, tq_u, tq_u, .int p.1, .int p.2]) [] (tq_st I L) (tq_Q q0)) (fun p : Int32 => tq_X S mX12_nearer (d + 3) tq_k0 158 ([tq_u, tq_u, tq_u, .int p, tq_u]) [] (tq_st I L) (tq_Q q0)) out) : tq_X S mX12_nearer (d + 3) tq_k0 133 ([.ref a0, tq_u, tq_u, tq_u, .int a4]) ([.int b0, .int b1, .int b2]) (tq_st I L) (tq_Q q0) := by
  unfold FX12_nearer_j133L88 at hf
  refine tq_icmp_ge rX12_nearer_133 (fun c23 => ?_) (fun c23 => ?_)
  · rw [if_pos c23] at hf
    refine tq_iconst (0 : Int32) rX12_nearer_149 (by decide) ?_
    exact tq_forget _ (tq_le_s (tq_le_u (tq_le_u (tq_le_u (tq_le_s tq_le_n))))) (FX12_nearer_j150L88_x  h0 hf hk)
  · rw [if_neg c23] at hf
    refine tq_aload_n rX12_nearer_136 rfl ?_
    refine tq_iconst (0 : Int32) rX12_nearer_137 (by decide) ?_
    refine tq_iload rX12_nearer_138 rfl ?_
    obtain ⟨p24, e24, hf⟩ := Option.bind_eq_some_iff.mp hf
    refine ty_callVI p24 ([.int (0 : Int32), .int a4]) ([.int b2]) rX12_nearer_140 l_X12_193 moX12_kindOf mvX12_kindOf h0 rfl rfl (Nat.le_of_ble_eq_true rfl) ⟨rfl, rfl⟩ (CX12_kindOf h0 e24) ?_
    obtain ⟨p25, e25, hf⟩ := tq_let_elim hf
    refine ty_callSI p25 ([.int p24]) ([.int b2]) rX12_nearer_143 l_X12_230 moX12_worthOf msX12_worthOf rfl rfl (Nat.le_of_ble_eq_true rfl) ⟨rfl, rfl⟩ (CX12_worthOf  e25) ?_
    refine tq_goto rX12_nearer_146 ?_
    exact tq_forget _ (tq_le_s (tq_le_u (tq_le_u (tq_le_u (tq_le_s tq_le_n))))) (FX12_nearer_j150L88_x  h0 hf hk)

set_option maxRecDepth 100000 in
set_option maxHeartbeats 4000000 in
theorem FX12_nearer_s88_x {S : Nat × (Nat → Int32)} {d : Nat} {I : tq_PI} {L : tq_PL} {a0 : Nat} {a3 : Int32} {a4 : Int32} (h0 : tq_sh0 a0 = 12) {q0 : Option Value → tq_PI → tq_PL → Prop} {out : (Int32 × Int32) ⊕ (Int32)} (hf : FX12_nearer_s88 I L a0 a3 a4 = some out) (hk : Sum.elim (fun p : Int32 × Int32 => tq_X S mX12_nearer (d + 3) tq_k0 88 ([.ref a0, tq_u, tq_u, .int p.1, .int p.2]) [] (tq_st I L) (tq_Q q0)) (fun p : Int32 => tq_X S mX12_nearer (d + 3) tq_k0 158 ([tq_u, tq_u, tq_u, .int p, tq_u]) [] (tq_st I L) (tq_Q q0)) out) : tq_X S mX12_nearer (d + 3) tq_k0 88 ([.ref a0, tq_u, tq_u, .int a3, .int a4]) [] (tq_st I L) (tq_Q q0) := by
  unfold FX12_nearer_s88 at hf
  refine tq_iload rX12_nearer_88 rfl ?_
  refine tq_aload_n rX12_nearer_90 rfl ?_
  obtain ⟨p16, e16, hf⟩ := tq_let_elim hf
  refine ty_callVI p16 ([]) ([.int a4]) rX12_nearer_91 l_X12_190 moX12_many mvX12_many h0 rfl rfl (Nat.le_of_ble_eq_true rfl) ⟨rfl, rfl⟩ (CX12_many h0 e16) ?_
  refine tq_icmp_ge rX12_nearer_94 (fun c17 => ?_) (fun c17 => ?_)
  · rw [if_pos c17] at hf
    have hf := Option.some.inj hf
    subst hf
    exact tq_forget _ (tq_le_u (tq_le_u (tq_le_u (tq_le_s (tq_le_u tq_le_n))))) hk
  · rw [if_neg c17] at hf
    refine tq_iload_n rX12_nearer_97 rfl ?_
    refine tq_aload_n rX12_nearer_98 rfl ?_
    refine ty_getR rX12_nearer_99 f_X12_29 rfl h0 (hp_12_18 h0).1 ?_
    refine tq_iload rX12_nearer_102 rfl ?_
    obtain ⟨g18, hf⟩ := tq_chk hf
    refine ty_iald (v := 48) rX12_nearer_104 (hp_12_18 h0).2.1 (hp_12_18 h0).2.2 rfl (by decide) g18 ?_
    refine tq_aload_n rX12_nearer_105 rfl ?_
    refine ty_getR rX12_nearer_106 f_X12_26 rfl h0 (hp_12_17 h0).1 ?_
    refine tq_iload rX12_nearer_109 rfl ?_
    obtain ⟨g19, hf⟩ := tq_chk hf
    refine ty_iald (v := 48) rX12_nearer_111 (hp_12_17 h0).2.1 (hp_12_17 h0).2.2 rfl (by decide) g19 ?_
    refine tq_ldc rX12_nearer_112 (k_X12_214) ?_
    refine tq_icmp_ne rX12_nearer_114 (fun c20 => ?_) (fun c20 => ?_)
    · rw [if_neg c20] at hf
      refine tq_aload_n rX12_nearer_123 rfl ?_
      refine ty_getR rX12_nearer_124 f_X12_26 rfl h0 (hp_12_17 h0).1 ?_
      refine tq_iload rX12_nearer_127 rfl ?_
      obtain ⟨g21, hf⟩ := tq_chk hf
      refine ty_iald (v := 48) rX12_nearer_129 (hp_12_17 h0).2.1 (hp_12_17 h0).2.2 rfl (by decide) g21 ?_
      refine tq_bipush (100 : Int32) rX12_nearer_130 (by decide) ?_
      obtain ⟨g22, hf⟩ := tq_chk hf
      refine tq_idiv rX12_nearer_132 g22 ?_
      exact tq_forget _ (tq_le_s (tq_le_u (tq_le_u (tq_le_u (tq_le_s tq_le_n))))) (FX12_nearer_j133L88_x  h0 hf hk)
    · rw [if_pos c20] at hf
      refine tq_sipush (999 : Int32) rX12_nearer_117 (by decide) ?_
      refine tq_goto rX12_nearer_120 ?_
      exact tq_forget _ (tq_le_s (tq_le_u (tq_le_u (tq_le_u (tq_le_s tq_le_n))))) (FX12_nearer_j133L88_x  h0 hf hk)

set_option maxRecDepth 100000 in
set_option maxHeartbeats 4000000 in
theorem CX12_nearer {S : Nat × (Nat → Int32)} {d : Nat} {I : tq_PI} {L : tq_PL} {a0 : Nat} {a1 : Int32} {a2 : Int32} (h0 : tq_sh0 a0 = 12) {out : Int32 × tq_PI} (hf : FX12_nearer I L a0 a1 a2 = some out) : tq_K S mX12_nearer (d + 3) [.ref a0, .int a1, .int a2] I L (tq_one2 (some (.int out.1)) out.2 L) := by
  unfold FX12_nearer at hf
  refine tq_K_of (by decide) (Nat.le_of_ble_eq_true rfl) (ls := [.ref a0, .int a1, .int a2, tq_u, tq_u]) rfl ?_
  refine tq_aload_n rX12_nearer_0 rfl ?_
  refine tq_iload_n rX12_nearer_1 rfl ?_
  obtain ⟨p1, e1, hf⟩ := Option.bind_eq_some_iff.mp hf
  refine ty_callVI (tq_b p1.1) ([.int a1]) ([]) rX12_nearer_2 l_X12_221 moX12_isHill mvX12_isHill h0 rfl rfl (Nat.le_of_ble_eq_true rfl) ⟨rfl, rfl⟩ (CX12_isHill h0 e1) ?_
  refine tq_if_eq rX12_nearer_5 (fun c2 => ?_) (fun c2 => ?_)
  · rw [if_pos c2] at hf
    exact tq_forget _ (tq_le_u (tq_le_u (tq_le_u (tq_le_u (tq_le_u tq_le_n))))) (FX12_nearer_j15_x   hf ⟨rfl, rfl, rfl⟩)
  · rw [if_neg c2] at hf
    refine tq_iload_n rX12_nearer_8 rfl ?_
    obtain ⟨p3, e3, hf⟩ := tq_let_elim hf
    refine ty_callSI (tq_b p3) ([.int a2]) ([]) rX12_nearer_9 l_X12_227 moX12_isSide msX12_isSide rfl rfl (Nat.le_of_ble_eq_true rfl) ⟨rfl, rfl⟩ (CX12_isSide  e3) ?_
    refine tq_if_ne rX12_nearer_12 (fun c4 => ?_) (fun c4 => ?_)
    · rw [if_neg c4] at hf
      refine tq_aload_n rX12_nearer_17 rfl ?_
      obtain ⟨p5, e5, hf⟩ := Option.bind_eq_some_iff.mp hf
      refine ty_callVV ([]) ([]) rX12_nearer_18 l_X12_224 moX12_asTold mvX12_asTold h0 rfl rfl (Nat.le_of_ble_eq_true rfl) ⟨rfl, rfl⟩ (CX12_asTold h0 e5) ?_
      refine tq_aload_n rX12_nearer_21 rfl ?_
      refine tq_iconst (0 : Int32) rX12_nearer_22 (by decide) ?_
      refine tq_iload_n rX12_nearer_23 rfl ?_
      obtain ⟨p6, e6, hf⟩ := Option.bind_eq_some_iff.mp hf
      refine ty_callVV ([.int (0 : Int32), .int a2]) ([]) rX12_nearer_24 l_X12_215 moX12_laysWays mvX12_laysWays h0 rfl rfl (Nat.le_of_ble_eq_true rfl) ⟨rfl, rfl⟩ (CX12_laysWays h0 e6) ?_
      refine tq_iconst (0 : Int32) rX12_nearer_27 (by decide) ?_
      refine tq_istore_n ([.ref a0, .int a1, .int a2, .int (0 : Int32), tq_u]) rX12_nearer_28 (Nat.le_of_ble_eq_true rfl) rfl ?_
      obtain ⟨p14, e14, hf⟩ := Option.bind_eq_some_iff.mp hf
      refine tq_forget _ (tq_le_s (tq_le_u (tq_le_s (tq_le_s (tq_le_u tq_le_n))))) ?_
      refine tq_it_elim (P := fun p : Int32 × tq_PI => tq_X S mX12_nearer (d + 3) tq_k0 29 ([.ref a0, tq_u, .int a2, .int p.1, tq_u]) [] (tq_st p.2 L) (tq_Q (tq_one2 (some (.int out.1)) out.2 L))) (R := fun p : tq_PI => tq_X S mX12_nearer (d + 3) tq_k0 75 ([.ref a0, tq_u, .int a2, tq_u, tq_u]) [] (tq_st p L) (tq_Q (tq_one2 (some (.int out.1)) out.2 L))) (fun p o hp hk => FX12_nearer_s29_x  h0 hp hk) _ (((0 : Int32), p6)) _ e14 ?_
      show tq_X _ _ _ _ _ _ _ _ _
      refine tq_aload_n rX12_nearer_75 rfl ?_
      refine tq_iconst (0 : Int32) rX12_nearer_76 (by decide) ?_
      refine tq_iconst (1 : Int32) rX12_nearer_77 (by decide) ?_
      refine tq_iload_n rX12_nearer_78 rfl ?_
      refine tq_isub rX12_nearer_79 ?_
      obtain ⟨p15, e15, hf⟩ := Option.bind_eq_some_iff.mp hf
      refine ty_callVV ([.int (0 : Int32), .int ((1 : Int32) - a2)]) ([]) rX12_nearer_80 l_X12_215 moX12_laysWays mvX12_laysWays h0 rfl rfl (Nat.le_of_ble_eq_true rfl) ⟨rfl, rfl⟩ (CX12_laysWays h0 e15) ?_
      refine tq_iconst (0 : Int32) rX12_nearer_83 (by decide) ?_
      refine tq_istore_n ([.ref a0, tq_u, .int a2, .int (0 : Int32), tq_u]) rX12_nearer_84 (Nat.le_of_ble_eq_true rfl) rfl ?_
      refine tq_iconst (0 : Int32) rX12_nearer_85 (by decide) ?_
      refine tq_istore ([.ref a0, tq_u, .int a2, .int (0 : Int32), .int (0 : Int32)]) rX12_nearer_86 (Nat.le_of_ble_eq_true rfl) rfl ?_
      obtain ⟨p26, e26, hf⟩ := Option.bind_eq_some_iff.mp hf
      refine tq_forget _ (tq_le_s (tq_le_u (tq_le_u (tq_le_s (tq_le_s tq_le_n))))) ?_
      refine tq_it_elim (P := fun p : Int32 × Int32 => tq_X S mX12_nearer (d + 3) tq_k0 88 ([.ref a0, tq_u, tq_u, .int p.1, .int p.2]) [] (tq_st p15 L) (tq_Q (tq_one2 (some (.int out.1)) out.2 L))) (R := fun p : Int32 => tq_X S mX12_nearer (d + 3) tq_k0 158 ([tq_u, tq_u, tq_u, .int p, tq_u]) [] (tq_st p15 L) (tq_Q (tq_one2 (some (.int out.1)) out.2 L))) (fun p o hp hk => FX12_nearer_s88_x  h0 hp hk) _ (((0 : Int32), (0 : Int32))) _ e26 ?_
      show tq_X _ _ _ _ _ _ _ _ _
      refine tq_iload_n rX12_nearer_158 rfl ?_
      refine ty_iret rX12_nearer_159 rfl rfl ?_
      have hf := Option.some.inj hf
      subst hf
      exact ⟨rfl, rfl, rfl⟩
    · rw [if_pos c4] at hf
      exact tq_forget _ (tq_le_u (tq_le_u (tq_le_u (tq_le_u (tq_le_u tq_le_n))))) (FX12_nearer_j15_x   hf ⟨rfl, rfl, rfl⟩)

abbrev mX12_comes : tq_M := (yX12_comes, cX12_comes, 4, (Option.some Jvm.ClassFile.FieldType.int), 0, 0)
theorem moX12_isCell : tq_mok mX12_isCell 1 := ⟨tq_sg1 _ (List.mem_of_getElem? (i := 13) rfl), tq_sg7 _ (List.mem_of_getElem? (i := 123) rfl), ⟨by decide, by decide, by decide +kernel⟩, by decide⟩
theorem mvX12_isCell : 12 < 13 ∧ (tq_cl 12).1 = mX12_isCell.1.cls ∧ Cond.instanceMethod mX12_isCell.1 ∈ lw_tbl ∧ Cond.selects mX12_isCell.1.cls mX12_isCell.1 mX12_isCell.1 ∈ lw_tbl := ⟨by decide, rfl, tq_sg7 _ (List.mem_of_getElem? (i := 122) rfl), List.mem_append_left _ (List.mem_map.mpr ⟨_, List.mem_of_getElem? (i := 67) rfl, rfl⟩)⟩
theorem l_X12_233 : tq_lok RX12 233 mX12_isCell.1 := Or.inl (tq_sg7 _ (List.mem_of_getElem? (i := 120) rfl))
theorem rX12_comes_0 : tq_D cX12_comes 0 (.aload_n 0) 1 1 := ⟨by decide +kernel, rfl⟩
theorem rX12_comes_1 : tq_D cX12_comes 1 (.iload_n 1) 1 2 := ⟨by decide +kernel, rfl⟩
theorem rX12_comes_2 : tq_D cX12_comes 2 (.invokevirtual 221) 3 5 := ⟨by decide +kernel, rfl⟩
theorem rX12_comes_5 : tq_J cX12_comes 5 (.ifCond .eq) 23 8 := ⟨18, by decide +kernel, by decide, rfl⟩
theorem rX12_comes_8 : tq_D cX12_comes 8 (.iload_n 2) 1 9 := ⟨by decide +kernel, rfl⟩
theorem rX12_comes_9 : tq_D cX12_comes 9 (.invokestatic 227) 3 12 := ⟨by decide +kernel, rfl⟩
theorem rX12_comes_12 : tq_J cX12_comes 12 (.ifCond .eq) 23 15 := ⟨11, by decide +kernel, by decide, rfl⟩
theorem rX12_comes_15 : tq_D cX12_comes 15 (.aload_n 0) 1 16 := ⟨by decide +kernel, rfl⟩
theorem rX12_comes_16 : tq_D cX12_comes 16 (.iload_n 3) 1 17 := ⟨by decide +kernel, rfl⟩
theorem rX12_comes_17 : tq_D cX12_comes 17 (.invokevirtual 233) 3 20 := ⟨by decide +kernel, rfl⟩
theorem rX12_comes_20 : tq_J cX12_comes 20 (.ifCond .ne) 25 23 := ⟨5, by decide +kernel, by decide, rfl⟩
theorem rX12_comes_23 : tq_D cX12_comes 23 (.iconst (-1)) 1 24 := ⟨by decide +kernel, rfl⟩
theorem rX12_comes_24 : decode cX12_comes 24 = .ok (.ireturn, 1) := by decide +kernel
theorem rX12_comes_25 : tq_D cX12_comes 25 (.aload_n 0) 1 26 := ⟨by decide +kernel, rfl⟩
theorem rX12_comes_26 : tq_D cX12_comes 26 (.invokevirtual 224) 3 29 := ⟨by decide +kernel, rfl⟩
theorem rX12_comes_29 : tq_D cX12_comes 29 (.aload_n 0) 1 30 := ⟨by decide +kernel, rfl⟩
theorem rX12_comes_30 : tq_D cX12_comes 30 (.iconst 0) 1 31 := ⟨by decide +kernel, rfl⟩
theorem rX12_comes_31 : tq_D cX12_comes 31 (.iload_n 2) 1 32 := ⟨by decide +kernel, rfl⟩
theorem rX12_comes_32 : tq_D cX12_comes 32 (.invokevirtual 215) 3 35 := ⟨by decide +kernel, rfl⟩
theorem rX12_comes_35 : tq_D cX12_comes 35 (.aload_n 0) 1 36 := ⟨by decide +kernel, rfl⟩
theorem rX12_comes_36 : tq_D cX12_comes 36 (.getfield 26) 3 39 := ⟨by decide +kernel, rfl⟩
theorem rX12_comes_39 : tq_D cX12_comes 39 (.iload_n 3) 1 40 := ⟨by decide +kernel, rfl⟩
theorem rX12_comes_40 : tq_D cX12_comes 40 (.iaload) 1 41 := ⟨by decide +kernel, rfl⟩
theorem rX12_comes_41 : tq_D cX12_comes 41 (.ldc 214) 2 43 := ⟨by decide +kernel, rfl⟩
theorem rX12_comes_43 : tq_J cX12_comes 43 (.if_icmp .ne) 50 46 := ⟨7, by decide +kernel, by decide, rfl⟩
theorem rX12_comes_46 : tq_D cX12_comes 46 (.iconst (-1)) 1 47 := ⟨by decide +kernel, rfl⟩
theorem rX12_comes_47 : tq_J cX12_comes 47 .goto 59 50 := ⟨12, by decide +kernel, by decide, rfl⟩
theorem rX12_comes_50 : tq_D cX12_comes 50 (.aload_n 0) 1 51 := ⟨by decide +kernel, rfl⟩
theorem rX12_comes_51 : tq_D cX12_comes 51 (.getfield 26) 3 54 := ⟨by decide +kernel, rfl⟩
theorem rX12_comes_54 : tq_D cX12_comes 54 (.iload_n 3) 1 55 := ⟨by decide +kernel, rfl⟩
theorem rX12_comes_55 : tq_D cX12_comes 55 (.iaload) 1 56 := ⟨by decide +kernel, rfl⟩
theorem rX12_comes_56 : tq_D cX12_comes 56 (.bipush 100) 2 58 := ⟨by decide +kernel, rfl⟩
theorem rX12_comes_58 : tq_D cX12_comes 58 (.idiv) 1 59 := ⟨by decide +kernel, rfl⟩
theorem rX12_comes_59 : decode cX12_comes 59 = .ok (.ireturn, 1) := by decide +kernel
noncomputable def FX12_comes_j23 (I : tq_PI) (L : tq_PL)  : Option (Int32 × tq_PI) :=
  some ((-1 : Int32), I)
noncomputable def FX12_comes (I : tq_PI) (L : tq_PL) (a0 : Nat) (a1 : Int32) (a2 : Int32) (a3 : Int32) : Option (Int32 × tq_PI) :=
  ((FX12_isHill I L a0 a1).bind fun p1 => (if (tq_b p1.1) = 0 then (FX12_comes_j23 p1.2 L ) else (tq_let (FX12_isSide p1.2 L a2) fun p3 => (if (tq_b p3) = 0 then (FX12_comes_j23 p1.2 L ) else (tq_let (FX12_isCell p1.2 L a0 a3) fun p5 => (if (tq_b p5) = 0 then (FX12_comes_j23 p1.2 L ) else ((FX12_asTold p1.2 L a0).bind fun p7 => ((FX12_laysWays p7 L a0 ((0 : Int32)) a2).bind fun p8 => (if 0 ≤ a3 ∧ a3 < 48 then (if (p8 (tq_rg a0 17) a3.toNatClampNeg) = (99999 : Int32) then some ((-1 : Int32), p8) else (if 0 ≤ a3 ∧ a3 < 48 then (if ¬ (100 : Int32) = 0 then some (((p8 (tq_rg a0 17) a3.toNatClampNeg) / (100 : Int32)), p8) else none) else none)) else none)))))))))
set_option maxRecDepth 100000 in
set_option maxHeartbeats 4000000 in
theorem FX12_comes_j23_x {S : Nat × (Nat → Int32)} {d : Nat} {I : tq_PI} {L : tq_PL}   {q0 : Option Value → tq_PI → tq_PL → Prop} {out : Int32 × tq_PI} (hf : FX12_comes_j23 I L = some out) (hk : q0 (some (.int out.1)) out.2 L) : tq_X S mX12_comes (d + 3) tq_k0 23 ([tq_u, tq_u, tq_u, tq_u]) ([]) (tq_st I L) (tq_Q q0) := by
  unfold FX12_comes_j23 at hf
  refine tq_iconst (-1 : Int32) rX12_comes_23 (by decide) ?_
  refine ty_iret rX12_comes_24 rfl rfl ?_
  have hf := Option.some.inj hf
  subst hf
  exact hk

set_option maxRecDepth 100000 in
set_option maxHeartbeats 4000000 in
theorem CX12_comes {S : Nat × (Nat → Int32)} {d : Nat} {I : tq_PI} {L : tq_PL} {a0 : Nat} {a1 : Int32} {a2 : Int32} {a3 : Int32} (h0 : tq_sh0 a0 = 12) {out : Int32 × tq_PI} (hf : FX12_comes I L a0 a1 a2 a3 = some out) : tq_K S mX12_comes (d + 3) [.ref a0, .int a1, .int a2, .int a3] I L (tq_one2 (some (.int out.1)) out.2 L) := by
  unfold FX12_comes at hf
  refine tq_K_of (by decide) (Nat.le_of_ble_eq_true rfl) (ls := [.ref a0, .int a1, .int a2, .int a3]) rfl ?_
  refine tq_aload_n rX12_comes_0 rfl ?_
  refine tq_iload_n rX12_comes_1 rfl ?_
  obtain ⟨p1, e1, hf⟩ := Option.bind_eq_some_iff.mp hf
  refine ty_callVI (tq_b p1.1) ([.int a1]) ([]) rX12_comes_2 l_X12_221 moX12_isHill mvX12_isHill h0 rfl rfl (Nat.le_of_ble_eq_true rfl) ⟨rfl, rfl⟩ (CX12_isHill h0 e1) ?_
  refine tq_if_eq rX12_comes_5 (fun c2 => ?_) (fun c2 => ?_)
  · rw [if_pos c2] at hf
    exact tq_forget _ (tq_le_u (tq_le_u (tq_le_u (tq_le_u tq_le_n)))) (FX12_comes_j23_x   hf ⟨rfl, rfl, rfl⟩)
  · rw [if_neg c2] at hf
    refine tq_iload_n rX12_comes_8 rfl ?_
    obtain ⟨p3, e3, hf⟩ := tq_let_elim hf
    refine ty_callSI (tq_b p3) ([.int a2]) ([]) rX12_comes_9 l_X12_227 moX12_isSide msX12_isSide rfl rfl (Nat.le_of_ble_eq_true rfl) ⟨rfl, rfl⟩ (CX12_isSide  e3) ?_
    refine tq_if_eq rX12_comes_12 (fun c4 => ?_) (fun c4 => ?_)
    · rw [if_pos c4] at hf
      exact tq_forget _ (tq_le_u (tq_le_u (tq_le_u (tq_le_u tq_le_n)))) (FX12_comes_j23_x   hf ⟨rfl, rfl, rfl⟩)
    · rw [if_neg c4] at hf
      refine tq_aload_n rX12_comes_15 rfl ?_
      refine tq_iload_n rX12_comes_16 rfl ?_
      obtain ⟨p5, e5, hf⟩ := tq_let_elim hf
      refine ty_callVI (tq_b p5) ([.int a3]) ([]) rX12_comes_17 l_X12_233 moX12_isCell mvX12_isCell h0 rfl rfl (Nat.le_of_ble_eq_true rfl) ⟨rfl, rfl⟩ (CX12_isCell h0 e5) ?_
      refine tq_if_ne rX12_comes_20 (fun c6 => ?_) (fun c6 => ?_)
      · rw [if_neg c6] at hf
        refine tq_aload_n rX12_comes_25 rfl ?_
        obtain ⟨p7, e7, hf⟩ := Option.bind_eq_some_iff.mp hf
        refine ty_callVV ([]) ([]) rX12_comes_26 l_X12_224 moX12_asTold mvX12_asTold h0 rfl rfl (Nat.le_of_ble_eq_true rfl) ⟨rfl, rfl⟩ (CX12_asTold h0 e7) ?_
        refine tq_aload_n rX12_comes_29 rfl ?_
        refine tq_iconst (0 : Int32) rX12_comes_30 (by decide) ?_
        refine tq_iload_n rX12_comes_31 rfl ?_
        obtain ⟨p8, e8, hf⟩ := Option.bind_eq_some_iff.mp hf
        refine ty_callVV ([.int (0 : Int32), .int a2]) ([]) rX12_comes_32 l_X12_215 moX12_laysWays mvX12_laysWays h0 rfl rfl (Nat.le_of_ble_eq_true rfl) ⟨rfl, rfl⟩ (CX12_laysWays h0 e8) ?_
        refine tq_aload_n rX12_comes_35 rfl ?_
        refine ty_getR rX12_comes_36 f_X12_26 rfl h0 (hp_12_17 h0).1 ?_
        refine tq_iload_n rX12_comes_39 rfl ?_
        obtain ⟨g9, hf⟩ := tq_chk hf
        refine ty_iald (v := 48) rX12_comes_40 (hp_12_17 h0).2.1 (hp_12_17 h0).2.2 rfl (by decide) g9 ?_
        refine tq_ldc rX12_comes_41 (k_X12_214) ?_
        refine tq_icmp_ne rX12_comes_43 (fun c10 => ?_) (fun c10 => ?_)
        · rw [if_neg c10] at hf
          refine tq_aload_n rX12_comes_50 rfl ?_
          refine ty_getR rX12_comes_51 f_X12_26 rfl h0 (hp_12_17 h0).1 ?_
          refine tq_iload_n rX12_comes_54 rfl ?_
          obtain ⟨g11, hf⟩ := tq_chk hf
          refine ty_iald (v := 48) rX12_comes_55 (hp_12_17 h0).2.1 (hp_12_17 h0).2.2 rfl (by decide) g11 ?_
          refine tq_bipush (100 : Int32) rX12_comes_56 (by decide) ?_
          obtain ⟨g12, hf⟩ := tq_chk hf
          refine tq_idiv rX12_comes_58 g12 ?_
          refine ty_iret rX12_comes_59 rfl rfl ?_
          have hf := Option.some.inj hf
          subst hf
          exact ⟨rfl, rfl, rfl⟩
        · rw [if_pos c10] at hf
          refine tq_iconst (-1 : Int32) rX12_comes_46 (by decide) ?_
          refine tq_goto rX12_comes_47 ?_
          refine ty_iret rX12_comes_59 rfl rfl ?_
          have hf := Option.some.inj hf
          subst hf
          exact ⟨rfl, rfl, rfl⟩
      · rw [if_pos c6] at hf
        exact tq_forget _ (tq_le_u (tq_le_u (tq_le_u (tq_le_u tq_le_n)))) (FX12_comes_j23_x   hf ⟨rfl, rfl, rfl⟩)

abbrev mX12_rowWorth : tq_M := (yX12_rowWorth, cX12_rowWorth, 4, (Option.some Jvm.ClassFile.FieldType.int), 0, 0)
theorem rX12_rowWorth_0 : tq_D cX12_rowWorth 0 (.iconst 0) 1 1 := ⟨by decide +kernel, rfl⟩
theorem rX12_rowWorth_1 : tq_D cX12_rowWorth 1 (.istore_n 2) 1 2 := ⟨by decide +kernel, rfl⟩
theorem rX12_rowWorth_2 : tq_D cX12_rowWorth 2 (.iconst 0) 1 3 := ⟨by decide +kernel, rfl⟩
theorem rX12_rowWorth_3 : tq_D cX12_rowWorth 3 (.istore_n 3) 1 4 := ⟨by decide +kernel, rfl⟩
theorem rX12_rowWorth_4 : tq_D cX12_rowWorth 4 (.iload_n 3) 1 5 := ⟨by decide +kernel, rfl⟩
theorem rX12_rowWorth_5 : tq_D cX12_rowWorth 5 (.aload_n 0) 1 6 := ⟨by decide +kernel, rfl⟩
theorem rX12_rowWorth_6 : tq_D cX12_rowWorth 6 (.getfield 148) 3 9 := ⟨by decide +kernel, rfl⟩
theorem rX12_rowWorth_9 : tq_J cX12_rowWorth 9 (.if_icmp .ge) 37 12 := ⟨28, by decide +kernel, by decide, rfl⟩
theorem rX12_rowWorth_12 : tq_D cX12_rowWorth 12 (.iload_n 2) 1 13 := ⟨by decide +kernel, rfl⟩
theorem rX12_rowWorth_13 : tq_D cX12_rowWorth 13 (.aload_n 0) 1 14 := ⟨by decide +kernel, rfl⟩
theorem rX12_rowWorth_14 : tq_D cX12_rowWorth 14 (.iconst 0) 1 15 := ⟨by decide +kernel, rfl⟩
theorem rX12_rowWorth_15 : tq_D cX12_rowWorth 15 (.aload_n 0) 1 16 := ⟨by decide +kernel, rfl⟩
theorem rX12_rowWorth_16 : tq_D cX12_rowWorth 16 (.getfield 148) 3 19 := ⟨by decide +kernel, rfl⟩
theorem rX12_rowWorth_19 : tq_D cX12_rowWorth 19 (.iload_n 1) 1 20 := ⟨by decide +kernel, rfl⟩
theorem rX12_rowWorth_20 : tq_D cX12_rowWorth 20 (.imul) 1 21 := ⟨by decide +kernel, rfl⟩
theorem rX12_rowWorth_21 : tq_D cX12_rowWorth 21 (.iload_n 3) 1 22 := ⟨by decide +kernel, rfl⟩
theorem rX12_rowWorth_22 : tq_D cX12_rowWorth 22 (.iadd) 1 23 := ⟨by decide +kernel, rfl⟩
theorem rX12_rowWorth_23 : tq_D cX12_rowWorth 23 (.invokevirtual 193) 3 26 := ⟨by decide +kernel, rfl⟩
theorem rX12_rowWorth_26 : tq_D cX12_rowWorth 26 (.invokestatic 230) 3 29 := ⟨by decide +kernel, rfl⟩
theorem rX12_rowWorth_29 : tq_D cX12_rowWorth 29 (.iadd) 1 30 := ⟨by decide +kernel, rfl⟩
theorem rX12_rowWorth_30 : tq_D cX12_rowWorth 30 (.istore_n 2) 1 31 := ⟨by decide +kernel, rfl⟩
theorem rX12_rowWorth_31 : tq_D cX12_rowWorth 31 (.iinc 3 1) 3 34 := ⟨by decide +kernel, rfl⟩
theorem rX12_rowWorth_34 : tq_J cX12_rowWorth 34 .goto 4 37 := ⟨(-30), by decide +kernel, by decide, rfl⟩
theorem rX12_rowWorth_37 : tq_D cX12_rowWorth 37 (.iload_n 2) 1 38 := ⟨by decide +kernel, rfl⟩
theorem rX12_rowWorth_38 : decode cX12_rowWorth 38 = .ok (.ireturn, 1) := by decide +kernel
noncomputable def FX12_rowWorth_s4 (I : tq_PI) (L : tq_PL) (a0 : Nat) (a1 : Int32) (a2 : Int32) (a3 : Int32) : Option ((Int32 × Int32) ⊕ (Int32)) :=
  (if (I a0 13) ≤ a3 then some (.inr a2) else ((FX12_kindOf I L a0 ((0 : Int32)) ((((I a0 13) * a1) + a3))).bind fun p2 => (tq_let (FX12_worthOf I L p2) fun p3 => some (.inl ((a2 + p3), (a3 + 1))))))
noncomputable def FX12_rowWorth (I : tq_PI) (L : tq_PL) (a0 : Nat) (a1 : Int32) : Option (Int32) :=
  ((tq_it (fun p : Int32 × Int32 => FX12_rowWorth_s4 I L a0 a1 p.1 p.2) tq_N ((0 : Int32), (0 : Int32))).bind fun p4 => some p4)
set_option maxRecDepth 100000 in
set_option maxHeartbeats 4000000 in
theorem FX12_rowWorth_s4_x {S : Nat × (Nat → Int32)} {d : Nat} {I : tq_PI} {L : tq_PL} {a0 : Nat} {a1 : Int32} {a2 : Int32} {a3 : Int32} (h0 : tq_sh0 a0 = 12) {q0 : Option Value → tq_PI → tq_PL → Prop} {out : (Int32 × Int32) ⊕ (Int32)} (hf : FX12_rowWorth_s4 I L a0 a1 a2 a3 = some out) (hk : Sum.elim (fun p : Int32 × Int32 => tq_X S mX12_rowWorth (d + 1) tq_k0 4 ([.ref a0, .int a1, .int p.1, .int p.2]) [] (tq_st I L) (tq_Q q0)) (fun p : Int32 => tq_X S mX12_rowWorth (d + 1) tq_k0 37 ([tq_u, tq_u, .int p, tq_u]) [] (tq_st I L) (tq_Q q0)) out) : tq_X S mX12_rowWorth (d + 1) tq_k0 4 ([.ref a0, .int a1, .int a2, .int a3]) [] (tq_st I L) (tq_Q q0) := by
  unfold FX12_rowWorth_s4 at hf
  refine tq_iload_n rX12_rowWorth_4 rfl ?_
  refine tq_aload_n rX12_rowWorth_5 rfl ?_
  refine ty_getI rX12_rowWorth_6 f_X12_148 rfl h0 ?_
  refine tq_icmp_ge rX12_rowWorth_9 (fun c1 => ?_) (fun c1 => ?_)
  · rw [if_pos c1] at hf
    have hf := Option.some.inj hf
    subst hf
    exact tq_forget _ (tq_le_u (tq_le_u (tq_le_s (tq_le_u tq_le_n)))) hk
  · rw [if_neg c1] at hf
    refine tq_iload_n rX12_rowWorth_12 rfl ?_
    refine tq_aload_n rX12_rowWorth_13 rfl ?_
    refine tq_iconst (0 : Int32) rX12_rowWorth_14 (by decide) ?_
    refine tq_aload_n rX12_rowWorth_15 rfl ?_
    refine ty_getI rX12_rowWorth_16 f_X12_148 rfl h0 ?_
    refine tq_iload_n rX12_rowWorth_19 rfl ?_
    refine tq_imul rX12_rowWorth_20 ?_
    refine tq_iload_n rX12_rowWorth_21 rfl ?_
    refine tq_iadd rX12_rowWorth_22 ?_
    obtain ⟨p2, e2, hf⟩ := Option.bind_eq_some_iff.mp hf
    refine ty_callVI p2 ([.int (0 : Int32), .int (((I a0 13) * a1) + a3)]) ([.int a2]) rX12_rowWorth_23 l_X12_193 moX12_kindOf mvX12_kindOf h0 rfl rfl (Nat.le_of_ble_eq_true rfl) ⟨rfl, rfl⟩ (CX12_kindOf h0 e2) ?_
    obtain ⟨p3, e3, hf⟩ := tq_let_elim hf
    refine ty_callSI p3 ([.int p2]) ([.int a2]) rX12_rowWorth_26 l_X12_230 moX12_worthOf msX12_worthOf rfl rfl (Nat.le_of_ble_eq_true rfl) ⟨rfl, rfl⟩ (CX12_worthOf  e3) ?_
    refine tq_iadd rX12_rowWorth_29 ?_
    refine tq_istore_n ([.ref a0, .int a1, .int (a2 + p3), .int a3]) rX12_rowWorth_30 (Nat.le_of_ble_eq_true rfl) rfl ?_
    refine tq_iinc (a3 + 1) ([.ref a0, .int a1, .int (a2 + p3), .int (a3 + 1)]) rX12_rowWorth_31 rfl (tq_inc (by decide)) (Nat.le_of_ble_eq_true rfl) rfl ?_
    refine tq_goto rX12_rowWorth_34 ?_
    have hf := Option.some.inj hf
    subst hf
    exact tq_forget _ (tq_le_s (tq_le_s (tq_le_s (tq_le_s tq_le_n)))) hk

set_option maxRecDepth 100000 in
set_option maxHeartbeats 4000000 in
theorem CX12_rowWorth {S : Nat × (Nat → Int32)} {d : Nat} {I : tq_PI} {L : tq_PL} {a0 : Nat} {a1 : Int32} (h0 : tq_sh0 a0 = 12) {out : Int32} (hf : FX12_rowWorth I L a0 a1 = some out) : tq_K S mX12_rowWorth (d + 1) [.ref a0, .int a1] I L (tq_one2 (some (.int out)) I L) := by
  unfold FX12_rowWorth at hf
  refine tq_K_of (by decide) (Nat.le_of_ble_eq_true rfl) (ls := [.ref a0, .int a1, tq_u, tq_u]) rfl ?_
  refine tq_iconst (0 : Int32) rX12_rowWorth_0 (by decide) ?_
  refine tq_istore_n ([.ref a0, .int a1, .int (0 : Int32), tq_u]) rX12_rowWorth_1 (Nat.le_of_ble_eq_true rfl) rfl ?_
  refine tq_iconst (0 : Int32) rX12_rowWorth_2 (by decide) ?_
  refine tq_istore_n ([.ref a0, .int a1, .int (0 : Int32), .int (0 : Int32)]) rX12_rowWorth_3 (Nat.le_of_ble_eq_true rfl) rfl ?_
  obtain ⟨p4, e4, hf⟩ := Option.bind_eq_some_iff.mp hf
  refine tq_forget _ (tq_le_s (tq_le_s (tq_le_s (tq_le_s tq_le_n)))) ?_
  refine tq_it_elim (P := fun p : Int32 × Int32 => tq_X S mX12_rowWorth (d + 1) tq_k0 4 ([.ref a0, .int a1, .int p.1, .int p.2]) [] (tq_st I L) (tq_Q (tq_one2 (some (.int out)) I L))) (R := fun p : Int32 => tq_X S mX12_rowWorth (d + 1) tq_k0 37 ([tq_u, tq_u, .int p, tq_u]) [] (tq_st I L) (tq_Q (tq_one2 (some (.int out)) I L))) (fun p o hp hk => FX12_rowWorth_s4_x  h0 hp hk) _ (((0 : Int32), (0 : Int32))) _ e4 ?_
  show tq_X _ _ _ _ _ _ _ _ _
  refine tq_iload_n rX12_rowWorth_37 rfl ?_
  refine ty_iret rX12_rowWorth_38 rfl rfl ?_
  have hf := Option.some.inj hf
  subst hf
  exact ⟨rfl, rfl, rfl⟩

abbrev mX12_crest : tq_M := (yX12_crest, cX12_crest, 5, (Option.some Jvm.ClassFile.FieldType.int), 0, 0)
theorem moX12_rowWorth : tq_mok mX12_rowWorth 1 := ⟨tq_sg1 _ (List.mem_of_getElem? (i := 13) rfl), tq_sg7 _ (List.mem_of_getElem? (i := 131) rfl), ⟨by decide, by decide, by decide +kernel⟩, by decide⟩
theorem mvX12_rowWorth : 12 < 13 ∧ (tq_cl 12).1 = mX12_rowWorth.1.cls ∧ Cond.instanceMethod mX12_rowWorth.1 ∈ lw_tbl ∧ Cond.selects mX12_rowWorth.1.cls mX12_rowWorth.1 mX12_rowWorth.1 ∈ lw_tbl := ⟨by decide, rfl, tq_sg7 _ (List.mem_of_getElem? (i := 130) rfl), List.mem_append_left _ (List.mem_map.mpr ⟨_, List.mem_of_getElem? (i := 68) rfl, rfl⟩)⟩
theorem l_X12_236 : tq_lok RX12 236 mX12_rowWorth.1 := Or.inl (tq_sg7 _ (List.mem_of_getElem? (i := 128) rfl))
theorem rX12_crest_0 : tq_D cX12_crest 0 (.aload_n 0) 1 1 := ⟨by decide +kernel, rfl⟩
theorem rX12_crest_1 : tq_D cX12_crest 1 (.iload_n 1) 1 2 := ⟨by decide +kernel, rfl⟩
theorem rX12_crest_2 : tq_D cX12_crest 2 (.invokevirtual 221) 3 5 := ⟨by decide +kernel, rfl⟩
theorem rX12_crest_5 : tq_J cX12_crest 5 (.ifCond .ne) 10 8 := ⟨5, by decide +kernel, by decide, rfl⟩
theorem rX12_crest_8 : tq_D cX12_crest 8 (.iconst (-1)) 1 9 := ⟨by decide +kernel, rfl⟩
theorem rX12_crest_9 : decode cX12_crest 9 = .ok (.ireturn, 1) := by decide +kernel
theorem rX12_crest_10 : tq_D cX12_crest 10 (.aload_n 0) 1 11 := ⟨by decide +kernel, rfl⟩
theorem rX12_crest_11 : tq_D cX12_crest 11 (.invokevirtual 224) 3 14 := ⟨by decide +kernel, rfl⟩
theorem rX12_crest_14 : tq_D cX12_crest 14 (.iconst 0) 1 15 := ⟨by decide +kernel, rfl⟩
theorem rX12_crest_15 : tq_D cX12_crest 15 (.istore_n 3) 1 16 := ⟨by decide +kernel, rfl⟩
theorem rX12_crest_16 : tq_D cX12_crest 16 (.iconst 1) 1 17 := ⟨by decide +kernel, rfl⟩
theorem rX12_crest_17 : tq_D cX12_crest 17 (.istore 4) 2 19 := ⟨by decide +kernel, rfl⟩
theorem rX12_crest_19 : tq_D cX12_crest 19 (.iload 4) 2 21 := ⟨by decide +kernel, rfl⟩
theorem rX12_crest_21 : tq_D cX12_crest 21 (.aload_n 0) 1 22 := ⟨by decide +kernel, rfl⟩
theorem rX12_crest_22 : tq_D cX12_crest 22 (.getfield 151) 3 25 := ⟨by decide +kernel, rfl⟩
theorem rX12_crest_25 : tq_J cX12_crest 25 (.if_icmp .ge) 55 28 := ⟨30, by decide +kernel, by decide, rfl⟩
theorem rX12_crest_28 : tq_D cX12_crest 28 (.aload_n 0) 1 29 := ⟨by decide +kernel, rfl⟩
theorem rX12_crest_29 : tq_D cX12_crest 29 (.iload 4) 2 31 := ⟨by decide +kernel, rfl⟩
theorem rX12_crest_31 : tq_D cX12_crest 31 (.invokevirtual 236) 3 34 := ⟨by decide +kernel, rfl⟩
theorem rX12_crest_34 : tq_D cX12_crest 34 (.aload_n 0) 1 35 := ⟨by decide +kernel, rfl⟩
theorem rX12_crest_35 : tq_D cX12_crest 35 (.iload_n 3) 1 36 := ⟨by decide +kernel, rfl⟩
theorem rX12_crest_36 : tq_D cX12_crest 36 (.invokevirtual 236) 3 39 := ⟨by decide +kernel, rfl⟩
theorem rX12_crest_39 : tq_J cX12_crest 39 (.if_icmp .le) 47 42 := ⟨8, by decide +kernel, by decide, rfl⟩
theorem rX12_crest_42 : tq_D cX12_crest 42 (.iload 4) 2 44 := ⟨by decide +kernel, rfl⟩
theorem rX12_crest_44 : tq_J cX12_crest 44 .goto 48 47 := ⟨4, by decide +kernel, by decide, rfl⟩
theorem rX12_crest_47 : tq_D cX12_crest 47 (.iload_n 3) 1 48 := ⟨by decide +kernel, rfl⟩
theorem rX12_crest_48 : tq_D cX12_crest 48 (.istore_n 3) 1 49 := ⟨by decide +kernel, rfl⟩
theorem rX12_crest_49 : tq_D cX12_crest 49 (.iinc 4 1) 3 52 := ⟨by decide +kernel, rfl⟩
theorem rX12_crest_52 : tq_J cX12_crest 52 .goto 19 55 := ⟨(-33), by decide +kernel, by decide, rfl⟩
theorem rX12_crest_55 : tq_D cX12_crest 55 (.iload_n 2) 1 56 := ⟨by decide +kernel, rfl⟩
theorem rX12_crest_56 : tq_J cX12_crest 56 (.ifCond .eq) 67 59 := ⟨11, by decide +kernel, by decide, rfl⟩
theorem rX12_crest_59 : tq_D cX12_crest 59 (.aload_n 0) 1 60 := ⟨by decide +kernel, rfl⟩
theorem rX12_crest_60 : tq_D cX12_crest 60 (.iload_n 3) 1 61 := ⟨by decide +kernel, rfl⟩
theorem rX12_crest_61 : tq_D cX12_crest 61 (.invokevirtual 236) 3 64 := ⟨by decide +kernel, rfl⟩
theorem rX12_crest_64 : tq_J cX12_crest 64 .goto 68 67 := ⟨4, by decide +kernel, by decide, rfl⟩
theorem rX12_crest_67 : tq_D cX12_crest 67 (.iload_n 3) 1 68 := ⟨by decide +kernel, rfl⟩
theorem rX12_crest_68 : decode cX12_crest 68 = .ok (.ireturn, 1) := by decide +kernel
noncomputable def FX12_crest_j48L19 (I : tq_PI) (L : tq_PL) (a0 : Nat) (a2 : Int32) (a4 : Int32) (b0 : Int32) : Option ((Int32 × Int32) ⊕ (Int32)) :=
  some (.inl (b0, (a4 + 1)))
noncomputable def FX12_crest_s19 (I : tq_PI) (L : tq_PL) (a0 : Nat) (a2 : Int32) (a3 : Int32) (a4 : Int32) : Option ((Int32 × Int32) ⊕ (Int32)) :=
  (if (I a0 14) ≤ a4 then some (.inr a3) else ((FX12_rowWorth I L a0 a4).bind fun p5 => ((FX12_rowWorth I L a0 a3).bind fun p6 => (if p5 ≤ p6 then (FX12_crest_j48L19 I L a0 a2 a4 a3) else (FX12_crest_j48L19 I L a0 a2 a4 a4)))))
noncomputable def FX12_crest (I : tq_PI) (L : tq_PL) (a0 : Nat) (a1 : Int32) (a2 : Int32) : Option (Int32 × tq_PI) :=
  ((FX12_isHill I L a0 a1).bind fun p1 => (if (tq_b p1.1) = 0 then some ((-1 : Int32), p1.2) else ((FX12_asTold p1.2 L a0).bind fun p3 => ((tq_it (fun p : Int32 × Int32 => FX12_crest_s19 p3 L a0 a2 p.1 p.2) tq_N ((0 : Int32), (1 : Int32))).bind fun p8 => (if a2 = 0 then some (p8, p3) else ((FX12_rowWorth p3 L a0 p8).bind fun p10 => some (p10, p3)))))))
set_option maxRecDepth 100000 in
set_option maxHeartbeats 4000000 in
theorem FX12_crest_j48L19_x {S : Nat × (Nat → Int32)} {d : Nat} {I : tq_PI} {L : tq_PL} {a0 : Nat} {a2 : Int32} {a4 : Int32} {b0 : Int32} (h0 : tq_sh0 a0 = 12) {q0 : Option Value → tq_PI → tq_PL → Prop} {out : (Int32 × Int32) ⊕ (Int32)} (hf : FX12_crest_j48L19 I L a0 a2 a4 b0 = some out) (hk : Sum.elim (fun p : Int32 × Int32 => tq_X S mX12_crest (d + 3) tq_k0 19 ([.ref a0, tq_u, .int a2, .int p.1, .int p.2]) [] (tq_st I L) (tq_Q q0)) (fun p : Int32 => tq_X S mX12_crest (d + 3) tq_k0 55 ([.ref a0, tq_u, .int a2, .int p, tq_u]) [] (tq_st I L) (tq_Q q0)) out) : tq_X S mX12_crest (d + 3) tq_k0 48 ([.ref a0, tq_u, .int a2, tq_u, .int a4]) ([.int b0]) (tq_st I L) (tq_Q q0) := by
  unfold FX12_crest_j48L19 at hf
  refine tq_istore_n ([.ref a0, tq_u, .int a2, .int b0, .int a4]) rX12_crest_48 (Nat.le_of_ble_eq_true rfl) rfl ?_
  refine tq_iinc (a4 + 1) ([.ref a0, tq_u, .int a2, .int b0, .int (a4 + 1)]) rX12_crest_49 rfl (tq_inc (by decide)) (Nat.le_of_ble_eq_true rfl) rfl ?_
  refine tq_goto rX12_crest_52 ?_
  have hf := Option.some.inj hf
  subst hf
  exact tq_forget _ (tq_le_s (tq_le_u (tq_le_s (tq_le_s (tq_le_s tq_le_n))))) hk

set_option maxRecDepth 100000 in
set_option maxHeartbeats 4000000 in
theorem FX12_crest_s19_x {S : Nat × (Nat → Int32)} {d : Nat} {I : tq_PI} {L : tq_PL} {a0 : Nat} {a2 : Int32} {a3 : Int32} {a4 : Int32} (h0 : tq_sh0 a0 = 12) {q0 : Option Value → tq_PI → tq_PL → Prop} {out : (Int32 × Int32) ⊕ (Int32)} (hf : FX12_crest_s19 I L a0 a2 a3 a4 = some out) (hk : Sum.elim (fun p : Int32 × Int32 => tq_X S mX12_crest (d + 3) tq_k0 19 ([.ref a0, tq_u, .int a2, .int p.1, .int p.2]) [] (tq_st I L) (tq_Q q0)) (fun p : Int32 => tq_X S mX12_crest (d + 3) tq_k0 55 ([.ref a0, tq_u, .int a2, .int p, tq_u]) [] (tq_st I L) (tq_Q q0)) out) : tq_X S mX12_crest (d + 3) tq_k0 19 ([.ref a0, tq_u, .int a2, .int a3, .int a4]) [] (tq_st I L) (tq_Q q0) := by
  unfold FX12_crest_s19 at hf
  refine tq_iload rX12_crest_19 rfl ?_
  refine tq_aload_n rX12_crest_21 rfl ?_
  refine ty_getI rX12_crest_22 f_X12_151 rfl h0 ?_
  refine tq_icmp_ge rX12_crest_25 (fun c4 => ?_) (fun c4 => ?_)
  · rw [if_pos c4] at hf
    have hf := Option.some.inj hf
    subst hf
    exact tq_forget _ (tq_le_s (tq_le_u (tq_le_s (tq_le_s (tq_le_u tq_le_n))))) hk
  · rw [if_neg c4] at hf
    refine tq_aload_n rX12_crest_28 rfl ?_
    refine tq_iload rX12_crest_29 rfl ?_
    obtain ⟨p5, e5, hf⟩ := Option.bind_eq_some_iff.mp hf
    refine ty_callVI p5 ([.int a4]) ([]) rX12_crest_31 l_X12_236 moX12_rowWorth mvX12_rowWorth h0 rfl rfl (Nat.le_of_ble_eq_true rfl) ⟨rfl, rfl⟩ (CX12_rowWorth h0 e5) ?_
    refine tq_aload_n rX12_crest_34 rfl ?_
    refine tq_iload_n rX12_crest_35 rfl ?_
    obtain ⟨p6, e6, hf⟩ := Option.bind_eq_some_iff.mp hf
    refine ty_callVI p6 ([.int a3]) ([.int p5]) rX12_crest_36 l_X12_236 moX12_rowWorth mvX12_rowWorth h0 rfl rfl (Nat.le_of_ble_eq_true rfl) ⟨rfl, rfl⟩ (CX12_rowWorth h0 e6) ?_
    refine tq_icmp_le rX12_crest_39 (fun c7 => ?_) (fun c7 => ?_)
    · rw [if_pos c7] at hf
      refine tq_iload_n rX12_crest_47 rfl ?_
      exact tq_forget _ (tq_le_s (tq_le_u (tq_le_s (tq_le_u (tq_le_s tq_le_n))))) (FX12_crest_j48L19_x  h0 hf hk)
    · rw [if_neg c7] at hf
      refine tq_iload rX12_crest_42 rfl ?_
      refine tq_goto rX12_crest_44 ?_
      exact tq_forget _ (tq_le_s (tq_le_u (tq_le_s (tq_le_u (tq_le_s tq_le_n))))) (FX12_crest_j48L19_x  h0 hf hk)

set_option maxRecDepth 100000 in
set_option maxHeartbeats 4000000 in
theorem CX12_crest {S : Nat × (Nat → Int32)} {d : Nat} {I : tq_PI} {L : tq_PL} {a0 : Nat} {a1 : Int32} {a2 : Int32} (h0 : tq_sh0 a0 = 12) {out : Int32 × tq_PI} (hf : FX12_crest I L a0 a1 a2 = some out) : tq_K S mX12_crest (d + 3) [.ref a0, .int a1, .int a2] I L (tq_one2 (some (.int out.1)) out.2 L) := by
  unfold FX12_crest at hf
  refine tq_K_of (by decide) (Nat.le_of_ble_eq_true rfl) (ls := [.ref a0, .int a1, .int a2, tq_u, tq_u]) rfl ?_
  refine tq_aload_n rX12_crest_0 rfl ?_
  refine tq_iload_n rX12_crest_1 rfl ?_
  obtain ⟨p1, e1, hf⟩ := Option.bind_eq_some_iff.mp hf
  refine ty_callVI (tq_b p1.1) ([.int a1]) ([]) rX12_crest_2 l_X12_221 moX12_isHill mvX12_isHill h0 rfl rfl (Nat.le_of_ble_eq_true rfl) ⟨rfl, rfl⟩ (CX12_isHill h0 e1) ?_
  refine tq_if_ne rX12_crest_5 (fun c2 => ?_) (fun c2 => ?_)
  · rw [if_neg c2] at hf
    refine tq_aload_n rX12_crest_10 rfl ?_
    obtain ⟨p3, e3, hf⟩ := Option.bind_eq_some_iff.mp hf
    refine ty_callVV ([]) ([]) rX12_crest_11 l_X12_224 moX12_asTold mvX12_asTold h0 rfl rfl (Nat.le_of_ble_eq_true rfl) ⟨rfl, rfl⟩ (CX12_asTold h0 e3) ?_
    refine tq_iconst (0 : Int32) rX12_crest_14 (by decide) ?_
    refine tq_istore_n ([.ref a0, .int a1, .int a2, .int (0 : Int32), tq_u]) rX12_crest_15 (Nat.le_of_ble_eq_true rfl) rfl ?_
    refine tq_iconst (1 : Int32) rX12_crest_16 (by decide) ?_
    refine tq_istore ([.ref a0, .int a1, .int a2, .int (0 : Int32), .int (1 : Int32)]) rX12_crest_17 (Nat.le_of_ble_eq_true rfl) rfl ?_
    obtain ⟨p8, e8, hf⟩ := Option.bind_eq_some_iff.mp hf
    refine tq_forget _ (tq_le_s (tq_le_u (tq_le_s (tq_le_s (tq_le_s tq_le_n))))) ?_
    refine tq_it_elim (P := fun p : Int32 × Int32 => tq_X S mX12_crest (d + 3) tq_k0 19 ([.ref a0, tq_u, .int a2, .int p.1, .int p.2]) [] (tq_st p3 L) (tq_Q (tq_one2 (some (.int out.1)) out.2 L))) (R := fun p : Int32 => tq_X S mX12_crest (d + 3) tq_k0 55 ([.ref a0, tq_u, .int a2, .int p, tq_u]) [] (tq_st p3 L) (tq_Q (tq_one2 (some (.int out.1)) out.2 L))) (fun p o hp hk => FX12_crest_s19_x  h0 hp hk) _ (((0 : Int32), (1 : Int32))) _ e8 ?_
    show tq_X _ _ _ _ _ _ _ _ _
    refine tq_iload_n rX12_crest_55 rfl ?_
    refine tq_if_eq rX12_crest_56 (fun c9 => ?_) (fun c9 => ?_)
    · rw [if_pos c9] at hf
      refine tq_iload_n rX12_crest_67 rfl ?_
      refine ty_iret rX12_crest_68 rfl rfl ?_
      have hf := Option.some.inj hf
      subst hf
      exact ⟨rfl, rfl, rfl⟩
    · rw [if_neg c9] at hf
      refine tq_aload_n rX12_crest_59 rfl ?_
      refine tq_iload_n rX12_crest_60 rfl ?_
      obtain ⟨p10, e10, hf⟩ := Option.bind_eq_some_iff.mp hf
      refine ty_callVI p10 ([.int p8]) ([]) rX12_crest_61 l_X12_236 moX12_rowWorth mvX12_rowWorth h0 rfl rfl (Nat.le_of_ble_eq_true rfl) ⟨rfl, rfl⟩ (CX12_rowWorth h0 e10) ?_
      refine tq_goto rX12_crest_64 ?_
      refine ty_iret rX12_crest_68 rfl rfl ?_
      have hf := Option.some.inj hf
      subst hf
      exact ⟨rfl, rfl, rfl⟩
  · rw [if_pos c2] at hf
    refine tq_iconst (-1 : Int32) rX12_crest_8 (by decide) ?_
    refine ty_iret rX12_crest_9 rfl rfl ?_
    have hf := Option.some.inj hf
    subst hf
    exact ⟨rfl, rfl, rfl⟩

abbrev mX12_caveOf : tq_M := (yX12_caveOf, cX12_caveOf, 7, (Option.some Jvm.ClassFile.FieldType.int), 0, 0)
theorem rX12_caveOf_0 : tq_D cX12_caveOf 0 (.iconst 0) 1 1 := ⟨by decide +kernel, rfl⟩
theorem rX12_caveOf_1 : tq_D cX12_caveOf 1 (.istore_n 2) 1 2 := ⟨by decide +kernel, rfl⟩
theorem rX12_caveOf_2 : tq_D cX12_caveOf 2 (.iload_n 2) 1 3 := ⟨by decide +kernel, rfl⟩
theorem rX12_caveOf_3 : tq_D cX12_caveOf 3 (.aload_n 0) 1 4 := ⟨by decide +kernel, rfl⟩
theorem rX12_caveOf_4 : tq_D cX12_caveOf 4 (.invokevirtual 190) 3 7 := ⟨by decide +kernel, rfl⟩
theorem rX12_caveOf_7 : tq_J cX12_caveOf 7 (.if_icmp .ge) 32 10 := ⟨25, by decide +kernel, by decide, rfl⟩
theorem rX12_caveOf_10 : tq_D cX12_caveOf 10 (.aload_n 0) 1 11 := ⟨by decide +kernel, rfl⟩
theorem rX12_caveOf_11 : tq_D cX12_caveOf 11 (.getfield 23) 3 14 := ⟨by decide +kernel, rfl⟩
theorem rX12_caveOf_14 : tq_D cX12_caveOf 14 (.iload_n 2) 1 15 := ⟨by decide +kernel, rfl⟩
theorem rX12_caveOf_15 : tq_D cX12_caveOf 15 (.iload_n 2) 1 16 := ⟨by decide +kernel, rfl⟩
theorem rX12_caveOf_16 : tq_D cX12_caveOf 16 (.iload_n 1) 1 17 := ⟨by decide +kernel, rfl⟩
theorem rX12_caveOf_17 : tq_J cX12_caveOf 17 (.if_icmp .ne) 24 20 := ⟨7, by decide +kernel, by decide, rfl⟩
theorem rX12_caveOf_20 : tq_D cX12_caveOf 20 (.iconst 1) 1 21 := ⟨by decide +kernel, rfl⟩
theorem rX12_caveOf_21 : tq_J cX12_caveOf 21 .goto 25 24 := ⟨4, by decide +kernel, by decide, rfl⟩
theorem rX12_caveOf_24 : tq_D cX12_caveOf 24 (.iconst 0) 1 25 := ⟨by decide +kernel, rfl⟩
theorem rX12_caveOf_25 : tq_D cX12_caveOf 25 (.bastore) 1 26 := ⟨by decide +kernel, rfl⟩
theorem rX12_caveOf_26 : tq_D cX12_caveOf 26 (.iinc 2 1) 3 29 := ⟨by decide +kernel, rfl⟩
theorem rX12_caveOf_29 : tq_J cX12_caveOf 29 .goto 2 32 := ⟨(-27), by decide +kernel, by decide, rfl⟩
theorem rX12_caveOf_32 : tq_D cX12_caveOf 32 (.iconst 0) 1 33 := ⟨by decide +kernel, rfl⟩
theorem rX12_caveOf_33 : tq_D cX12_caveOf 33 (.istore_n 2) 1 34 := ⟨by decide +kernel, rfl⟩
theorem rX12_caveOf_34 : tq_D cX12_caveOf 34 (.iconst 1) 1 35 := ⟨by decide +kernel, rfl⟩
theorem rX12_caveOf_35 : tq_D cX12_caveOf 35 (.istore_n 3) 1 36 := ⟨by decide +kernel, rfl⟩
theorem rX12_caveOf_36 : tq_D cX12_caveOf 36 (.iload_n 3) 1 37 := ⟨by decide +kernel, rfl⟩
theorem rX12_caveOf_37 : tq_J cX12_caveOf 37 (.ifCond .eq) 157 40 := ⟨120, by decide +kernel, by decide, rfl⟩
theorem rX12_caveOf_40 : tq_D cX12_caveOf 40 (.iconst 0) 1 41 := ⟨by decide +kernel, rfl⟩
theorem rX12_caveOf_41 : tq_D cX12_caveOf 41 (.istore_n 3) 1 42 := ⟨by decide +kernel, rfl⟩
theorem rX12_caveOf_42 : tq_D cX12_caveOf 42 (.iconst 0) 1 43 := ⟨by decide +kernel, rfl⟩
theorem rX12_caveOf_43 : tq_D cX12_caveOf 43 (.istore_n 2) 1 44 := ⟨by decide +kernel, rfl⟩
theorem rX12_caveOf_44 : tq_D cX12_caveOf 44 (.iconst 0) 1 45 := ⟨by decide +kernel, rfl⟩
theorem rX12_caveOf_45 : tq_D cX12_caveOf 45 (.istore 4) 2 47 := ⟨by decide +kernel, rfl⟩
theorem rX12_caveOf_47 : tq_D cX12_caveOf 47 (.iload 4) 2 49 := ⟨by decide +kernel, rfl⟩
theorem rX12_caveOf_49 : tq_D cX12_caveOf 49 (.aload_n 0) 1 50 := ⟨by decide +kernel, rfl⟩
theorem rX12_caveOf_50 : tq_D cX12_caveOf 50 (.invokevirtual 190) 3 53 := ⟨by decide +kernel, rfl⟩
theorem rX12_caveOf_53 : tq_J cX12_caveOf 53 (.if_icmp .ge) 154 56 := ⟨101, by decide +kernel, by decide, rfl⟩
theorem rX12_caveOf_56 : tq_D cX12_caveOf 56 (.iload_n 2) 1 57 := ⟨by decide +kernel, rfl⟩
theorem rX12_caveOf_57 : tq_D cX12_caveOf 57 (.aload_n 0) 1 58 := ⟨by decide +kernel, rfl⟩
theorem rX12_caveOf_58 : tq_D cX12_caveOf 58 (.getfield 23) 3 61 := ⟨by decide +kernel, rfl⟩
theorem rX12_caveOf_61 : tq_D cX12_caveOf 61 (.iload 4) 2 63 := ⟨by decide +kernel, rfl⟩
theorem rX12_caveOf_63 : tq_D cX12_caveOf 63 (.baload) 1 64 := ⟨by decide +kernel, rfl⟩
theorem rX12_caveOf_64 : tq_J cX12_caveOf 64 (.ifCond .eq) 71 67 := ⟨7, by decide +kernel, by decide, rfl⟩
theorem rX12_caveOf_67 : tq_D cX12_caveOf 67 (.iconst 1) 1 68 := ⟨by decide +kernel, rfl⟩
theorem rX12_caveOf_68 : tq_J cX12_caveOf 68 .goto 72 71 := ⟨4, by decide +kernel, by decide, rfl⟩
theorem rX12_caveOf_71 : tq_D cX12_caveOf 71 (.iconst 0) 1 72 := ⟨by decide +kernel, rfl⟩
theorem rX12_caveOf_72 : tq_D cX12_caveOf 72 (.iadd) 1 73 := ⟨by decide +kernel, rfl⟩
theorem rX12_caveOf_73 : tq_D cX12_caveOf 73 (.istore_n 2) 1 74 := ⟨by decide +kernel, rfl⟩
theorem rX12_caveOf_74 : tq_D cX12_caveOf 74 (.iconst 0) 1 75 := ⟨by decide +kernel, rfl⟩
theorem rX12_caveOf_75 : tq_D cX12_caveOf 75 (.istore 5) 2 77 := ⟨by decide +kernel, rfl⟩
theorem rX12_caveOf_77 : tq_D cX12_caveOf 77 (.iload 5) 2 79 := ⟨by decide +kernel, rfl⟩
theorem rX12_caveOf_79 : tq_D cX12_caveOf 79 (.iconst 4) 1 80 := ⟨by decide +kernel, rfl⟩
theorem rX12_caveOf_80 : tq_J cX12_caveOf 80 (.if_icmp .ge) 148 83 := ⟨68, by decide +kernel, by decide, rfl⟩
theorem rX12_caveOf_83 : tq_D cX12_caveOf 83 (.aload_n 0) 1 84 := ⟨by decide +kernel, rfl⟩
theorem rX12_caveOf_84 : tq_D cX12_caveOf 84 (.getfield 23) 3 87 := ⟨by decide +kernel, rfl⟩
theorem rX12_caveOf_87 : tq_D cX12_caveOf 87 (.iload 4) 2 89 := ⟨by decide +kernel, rfl⟩
theorem rX12_caveOf_89 : tq_D cX12_caveOf 89 (.baload) 1 90 := ⟨by decide +kernel, rfl⟩
theorem rX12_caveOf_90 : tq_J cX12_caveOf 90 (.ifCond .eq) 148 93 := ⟨58, by decide +kernel, by decide, rfl⟩
theorem rX12_caveOf_93 : tq_D cX12_caveOf 93 (.aload_n 0) 1 94 := ⟨by decide +kernel, rfl⟩
theorem rX12_caveOf_94 : tq_D cX12_caveOf 94 (.iload 4) 2 96 := ⟨by decide +kernel, rfl⟩
theorem rX12_caveOf_96 : tq_D cX12_caveOf 96 (.iload 5) 2 98 := ⟨by decide +kernel, rfl⟩
theorem rX12_caveOf_98 : tq_D cX12_caveOf 98 (.invokevirtual 205) 3 101 := ⟨by decide +kernel, rfl⟩
theorem rX12_caveOf_101 : tq_D cX12_caveOf 101 (.istore 6) 2 103 := ⟨by decide +kernel, rfl⟩
theorem rX12_caveOf_103 : tq_D cX12_caveOf 103 (.iload 6) 2 105 := ⟨by decide +kernel, rfl⟩
theorem rX12_caveOf_105 : tq_D cX12_caveOf 105 (.iconst (-1)) 1 106 := ⟨by decide +kernel, rfl⟩
theorem rX12_caveOf_106 : tq_J cX12_caveOf 106 (.if_icmp .eq) 142 109 := ⟨36, by decide +kernel, by decide, rfl⟩
theorem rX12_caveOf_109 : tq_D cX12_caveOf 109 (.aload_n 0) 1 110 := ⟨by decide +kernel, rfl⟩
theorem rX12_caveOf_110 : tq_D cX12_caveOf 110 (.getfield 23) 3 113 := ⟨by decide +kernel, rfl⟩
theorem rX12_caveOf_113 : tq_D cX12_caveOf 113 (.iload 6) 2 115 := ⟨by decide +kernel, rfl⟩
theorem rX12_caveOf_115 : tq_D cX12_caveOf 115 (.baload) 1 116 := ⟨by decide +kernel, rfl⟩
theorem rX12_caveOf_116 : tq_J cX12_caveOf 116 (.ifCond .ne) 142 119 := ⟨26, by decide +kernel, by decide, rfl⟩
theorem rX12_caveOf_119 : tq_D cX12_caveOf 119 (.aload_n 0) 1 120 := ⟨by decide +kernel, rfl⟩
theorem rX12_caveOf_120 : tq_D cX12_caveOf 120 (.iconst 0) 1 121 := ⟨by decide +kernel, rfl⟩
theorem rX12_caveOf_121 : tq_D cX12_caveOf 121 (.iload 6) 2 123 := ⟨by decide +kernel, rfl⟩
theorem rX12_caveOf_123 : tq_D cX12_caveOf 123 (.invokevirtual 193) 3 126 := ⟨by decide +kernel, rfl⟩
theorem rX12_caveOf_126 : tq_J cX12_caveOf 126 (.ifCond .eq) 132 129 := ⟨6, by decide +kernel, by decide, rfl⟩
theorem rX12_caveOf_129 : tq_J cX12_caveOf 129 .goto 142 132 := ⟨13, by decide +kernel, by decide, rfl⟩
theorem rX12_caveOf_132 : tq_D cX12_caveOf 132 (.aload_n 0) 1 133 := ⟨by decide +kernel, rfl⟩
theorem rX12_caveOf_133 : tq_D cX12_caveOf 133 (.getfield 23) 3 136 := ⟨by decide +kernel, rfl⟩
theorem rX12_caveOf_136 : tq_D cX12_caveOf 136 (.iload 6) 2 138 := ⟨by decide +kernel, rfl⟩
theorem rX12_caveOf_138 : tq_D cX12_caveOf 138 (.iconst 1) 1 139 := ⟨by decide +kernel, rfl⟩
theorem rX12_caveOf_139 : tq_D cX12_caveOf 139 (.bastore) 1 140 := ⟨by decide +kernel, rfl⟩
theorem rX12_caveOf_140 : tq_D cX12_caveOf 140 (.iconst 1) 1 141 := ⟨by decide +kernel, rfl⟩
theorem rX12_caveOf_141 : tq_D cX12_caveOf 141 (.istore_n 3) 1 142 := ⟨by decide +kernel, rfl⟩
theorem rX12_caveOf_142 : tq_D cX12_caveOf 142 (.iinc 5 1) 3 145 := ⟨by decide +kernel, rfl⟩
theorem rX12_caveOf_145 : tq_J cX12_caveOf 145 .goto 77 148 := ⟨(-68), by decide +kernel, by decide, rfl⟩
theorem rX12_caveOf_148 : tq_D cX12_caveOf 148 (.iinc 4 1) 3 151 := ⟨by decide +kernel, rfl⟩
theorem rX12_caveOf_151 : tq_J cX12_caveOf 151 .goto 47 154 := ⟨(-104), by decide +kernel, by decide, rfl⟩
theorem rX12_caveOf_154 : tq_J cX12_caveOf 154 .goto 36 157 := ⟨(-118), by decide +kernel, by decide, rfl⟩
theorem rX12_caveOf_157 : tq_D cX12_caveOf 157 (.iload_n 2) 1 158 := ⟨by decide +kernel, rfl⟩
theorem rX12_caveOf_158 : decode cX12_caveOf 158 = .ok (.ireturn, 1) := by decide +kernel
noncomputable def FX12_caveOf_j25L2 (I : tq_PI) (L : tq_PL) (a0 : Nat) (a1 : Int32) (a2 : Int32) (b0 : Int32) (b1 : Int32) (b2 : Nat) : Option ((Int32 × tq_PI) ⊕ (tq_PI)) :=
  (if 0 ≤ b1 ∧ b1 < 48 ∧ (b0 = 0 ∨ b0 = 1) then some (.inl ((a2 + 1), (tq_up2 I b2 b1.toNatClampNeg b0))) else none)
noncomputable def FX12_caveOf_s2 (I : tq_PI) (L : tq_PL) (a0 : Nat) (a1 : Int32) (a2 : Int32) : Option ((Int32 × tq_PI) ⊕ (tq_PI)) :=
  (tq_let (FX12_many I L a0) fun p1 => (if p1 ≤ a2 then some (.inr I) else (if a2 = a1 then (FX12_caveOf_j25L2 I L a0 a1 a2 ((1 : Int32)) a2 ((tq_rg a0 16))) else (FX12_caveOf_j25L2 I L a0 a1 a2 ((0 : Int32)) a2 ((tq_rg a0 16))))))
noncomputable def FX12_caveOf_j142L77 (I : tq_PI) (L : tq_PL) (a0 : Nat) (a2 : Int32) (a3 : Int32) (a4 : Int32) (a5 : Int32) : Option ((Int32 × Int32 × tq_PI) ⊕ (Int32 × tq_PI)) :=
  some (.inl (a3, (a5 + 1), I))
noncomputable def FX12_caveOf_s77 (I : tq_PI) (L : tq_PL) (a0 : Nat) (a2 : Int32) (a4 : Int32) (a3 : Int32) (a5 : Int32) : Option ((Int32 × Int32 × tq_PI) ⊕ (Int32 × tq_PI)) :=
  (if (4 : Int32) ≤ a5 then some (.inr (a3, I)) else (if 0 ≤ a4 ∧ a4 < 48 then (if (I (tq_rg a0 16) a4.toNatClampNeg) = 0 then some (.inr (a3, I)) else ((FX12_beside I L a0 a4 a5).bind fun p15 => (if p15 = (-1 : Int32) then (FX12_caveOf_j142L77 I L a0 a2 a3 a4 a5) else (if 0 ≤ p15 ∧ p15 < 48 then (if (I (tq_rg a0 16) p15.toNatClampNeg) = 0 then ((FX12_kindOf I L a0 ((0 : Int32)) p15).bind fun p19 => (if p19 = 0 then (if 0 ≤ p15 ∧ p15 < 48 then (FX12_caveOf_j142L77 ((tq_up2 I (tq_rg a0 16) p15.toNatClampNeg (1 : Int32))) L a0 a2 ((1 : Int32)) a4 a5) else none) else (FX12_caveOf_j142L77 I L a0 a2 a3 a4 a5))) else (FX12_caveOf_j142L77 I L a0 a2 a3 a4 a5)) else none)))) else none))
noncomputable def FX12_caveOf_j72L47 (I : tq_PI) (L : tq_PL) (a0 : Nat) (a3 : Int32) (a4 : Int32) (b0 : Int32) (b1 : Int32) : Option ((Int32 × Int32 × Int32 × tq_PI) ⊕ (Int32 × Int32 × tq_PI)) :=
  ((tq_it (fun p : Int32 × Int32 × tq_PI => FX12_caveOf_s77 p.2.2 L a0 ((b1 + b0)) a4 p.1 p.2.1) tq_N (a3, (0 : Int32), I)).bind fun p22 => some (.inl ((b1 + b0), p22.1, (a4 + 1), p22.2)))
noncomputable def FX12_caveOf_s47 (I : tq_PI) (L : tq_PL) (a0 : Nat) (a2 : Int32) (a3 : Int32) (a4 : Int32) : Option ((Int32 × Int32 × Int32 × tq_PI) ⊕ (Int32 × Int32 × tq_PI)) :=
  (tq_let (FX12_many I L a0) fun p8 => (if p8 ≤ a4 then some (.inr (a2, a3, I)) else (if 0 ≤ a4 ∧ a4 < 48 then (if (I (tq_rg a0 16) a4.toNatClampNeg) = 0 then (FX12_caveOf_j72L47 I L a0 a3 a4 ((0 : Int32)) a2) else (FX12_caveOf_j72L47 I L a0 a3 a4 ((1 : Int32)) a2)) else none)))
noncomputable def FX12_caveOf_s36 (I : tq_PI) (L : tq_PL) (a0 : Nat) (a2 : Int32) (a3 : Int32) : Option ((Int32 × Int32 × tq_PI) ⊕ (Int32 × tq_PI)) :=
  (if a3 = 0 then some (.inr (a2, I)) else ((tq_it (fun p : Int32 × Int32 × Int32 × tq_PI => FX12_caveOf_s47 p.2.2.2 L a0 p.1 p.2.1 p.2.2.1) tq_N ((0 : Int32), (0 : Int32), (0 : Int32), I)).bind fun p23 => some (.inl (p23.1, p23.2.1, p23.2.2))))
noncomputable def FX12_caveOf (I : tq_PI) (L : tq_PL) (a0 : Nat) (a1 : Int32) : Option (Int32 × tq_PI) :=
  ((tq_it (fun p : Int32 × tq_PI => FX12_caveOf_s2 p.2 L a0 a1 p.1) tq_N ((0 : Int32), I)).bind fun p6 => ((tq_it (fun p : Int32 × Int32 × tq_PI => FX12_caveOf_s36 p.2.2 L a0 p.1 p.2.1) tq_N ((0 : Int32), (1 : Int32), p6)).bind fun p24 => some (p24.1, p24.2)))
set_option maxRecDepth 100000 in
set_option maxHeartbeats 4000000 in
theorem FX12_caveOf_j25L2_x {S : Nat × (Nat → Int32)} {d : Nat} {I : tq_PI} {L : tq_PL} {a0 : Nat} {a1 : Int32} {a2 : Int32} {b0 : Int32} {b1 : Int32} {b2 : Nat} (h0 : tq_sh0 a0 = 12) (k2 : tq_sh0 b2 = 103) (k2n : tq_ln0 b2 = 48) {q0 : Option Value → tq_PI → tq_PL → Prop} {out : (Int32 × tq_PI) ⊕ (tq_PI)} (hf : FX12_caveOf_j25L2 I L a0 a1 a2 b0 b1 b2 = some out) (hk : Sum.elim (fun p : Int32 × tq_PI => tq_X S mX12_caveOf (d + 2) tq_k0 2 ([.ref a0, .int a1, .int p.1, tq_u, tq_u, tq_u, tq_u]) [] (tq_st p.2 L) (tq_Q q0)) (fun p : tq_PI => tq_X S mX12_caveOf (d + 2) tq_k0 32 ([.ref a0, tq_u, tq_u, tq_u, tq_u, tq_u, tq_u]) [] (tq_st p L) (tq_Q q0)) out) : tq_X S mX12_caveOf (d + 2) tq_k0 25 ([.ref a0, .int a1, .int a2, tq_u, tq_u, tq_u, tq_u]) ([.int b0, .int b1, .ref b2]) (tq_st I L) (tq_Q q0) := by
  unfold FX12_caveOf_j25L2 at hf
  obtain ⟨g4, hf⟩ := tq_chk hf
  refine ty_zast (v := 48) rX12_caveOf_25 k2 k2n rfl (by decide) ⟨g4.1, g4.2.1⟩ g4.2.2 ?_
  refine tq_iinc (a2 + 1) ([.ref a0, .int a1, .int (a2 + 1), tq_u, tq_u, tq_u, tq_u]) rX12_caveOf_26 rfl (tq_inc (by decide)) (Nat.le_of_ble_eq_true rfl) rfl ?_
  refine tq_goto rX12_caveOf_29 ?_
  have hf := Option.some.inj hf
  subst hf
  exact tq_forget _ (tq_le_s (tq_le_s (tq_le_s (tq_le_u (tq_le_u (tq_le_u (tq_le_u tq_le_n))))))) hk

set_option maxRecDepth 100000 in
set_option maxHeartbeats 4000000 in
theorem FX12_caveOf_s2_x {S : Nat × (Nat → Int32)} {d : Nat} {I : tq_PI} {L : tq_PL} {a0 : Nat} {a1 : Int32} {a2 : Int32} (h0 : tq_sh0 a0 = 12) {q0 : Option Value → tq_PI → tq_PL → Prop} {out : (Int32 × tq_PI) ⊕ (tq_PI)} (hf : FX12_caveOf_s2 I L a0 a1 a2 = some out) (hk : Sum.elim (fun p : Int32 × tq_PI => tq_X S mX12_caveOf (d + 2) tq_k0 2 ([.ref a0, .int a1, .int p.1, tq_u, tq_u, tq_u, tq_u]) [] (tq_st p.2 L) (tq_Q q0)) (fun p : tq_PI => tq_X S mX12_caveOf (d + 2) tq_k0 32 ([.ref a0, tq_u, tq_u, tq_u, tq_u, tq_u, tq_u]) [] (tq_st p L) (tq_Q q0)) out) : tq_X S mX12_caveOf (d + 2) tq_k0 2 ([.ref a0, .int a1, .int a2, tq_u, tq_u, tq_u, tq_u]) [] (tq_st I L) (tq_Q q0) := by
  unfold FX12_caveOf_s2 at hf
  refine tq_iload_n rX12_caveOf_2 rfl ?_
  refine tq_aload_n rX12_caveOf_3 rfl ?_
  obtain ⟨p1, e1, hf⟩ := tq_let_elim hf
  refine ty_callVI p1 ([]) ([.int a2]) rX12_caveOf_4 l_X12_190 moX12_many mvX12_many h0 rfl rfl (Nat.le_of_ble_eq_true rfl) ⟨rfl, rfl⟩ (CX12_many h0 e1) ?_
  refine tq_icmp_ge rX12_caveOf_7 (fun c2 => ?_) (fun c2 => ?_)
  · rw [if_pos c2] at hf
    have hf := Option.some.inj hf
    subst hf
    exact tq_forget _ (tq_le_s (tq_le_u (tq_le_u (tq_le_u (tq_le_u (tq_le_u (tq_le_u tq_le_n))))))) hk
  · rw [if_neg c2] at hf
    refine tq_aload_n rX12_caveOf_10 rfl ?_
    refine ty_getR rX12_caveOf_11 f_X12_23 rfl h0 (hp_12_16 h0).1 ?_
    refine tq_iload_n rX12_caveOf_14 rfl ?_
    refine tq_iload_n rX12_caveOf_15 rfl ?_
    refine tq_iload_n rX12_caveOf_16 rfl ?_
    refine tq_icmp_ne rX12_caveOf_17 (fun c3 => ?_) (fun c3 => ?_)
    · rw [if_neg c3] at hf
      refine tq_iconst (0 : Int32) rX12_caveOf_24 (by decide) ?_
      exact tq_forget _ (tq_le_s (tq_le_s (tq_le_s (tq_le_u (tq_le_u (tq_le_u (tq_le_u tq_le_n))))))) (FX12_caveOf_j25L2_x  h0 (hp_12_16 h0).2.1 (hp_12_16 h0).2.2 hf hk)
    · rw [if_pos c3] at hf
      refine tq_iconst (1 : Int32) rX12_caveOf_20 (by decide) ?_
      refine tq_goto rX12_caveOf_21 ?_
      exact tq_forget _ (tq_le_s (tq_le_s (tq_le_s (tq_le_u (tq_le_u (tq_le_u (tq_le_u tq_le_n))))))) (FX12_caveOf_j25L2_x  h0 (hp_12_16 h0).2.1 (hp_12_16 h0).2.2 hf hk)

set_option maxRecDepth 100000 in
set_option maxHeartbeats 4000000 in
theorem FX12_caveOf_j142L77_x {S : Nat × (Nat → Int32)} {d : Nat} {I : tq_PI} {L : tq_PL} {a0 : Nat} {a2 : Int32} {a3 : Int32} {a4 : Int32} {a5 : Int32} (h0 : tq_sh0 a0 = 12) {q0 : Option Value → tq_PI → tq_PL → Prop} {out : (Int32 × Int32 × tq_PI) ⊕ (Int32 × tq_PI)} (hf : FX12_caveOf_j142L77 I L a0 a2 a3 a4 a5 = some out) (hk : Sum.elim (fun p : Int32 × Int32 × tq_PI => tq_X S mX12_caveOf (d + 2) tq_k0 77 ([.ref a0, tq_u, .int a2, .int p.1, .int a4, .int p.2.1, tq_u]) [] (tq_st p.2.2 L) (tq_Q q0)) (fun p : Int32 × tq_PI => tq_X S mX12_caveOf (d + 2) tq_k0 148 ([.ref a0, tq_u, .int a2, .int p.1, .int a4, tq_u, tq_u]) [] (tq_st p.2 L) (tq_Q q0)) out) : tq_X S mX12_caveOf (d + 2) tq_k0 142 ([.ref a0, tq_u, .int a2, .int a3, .int a4, .int a5, tq_u]) ([]) (tq_st I L) (tq_Q q0) := by
  unfold FX12_caveOf_j142L77 at hf
  refine tq_iinc (a5 + 1) ([.ref a0, tq_u, .int a2, .int a3, .int a4, .int (a5 + 1), tq_u]) rX12_caveOf_142 rfl (tq_inc (by decide)) (Nat.le_of_ble_eq_true rfl) rfl ?_
  refine tq_goto rX12_caveOf_145 ?_
  have hf := Option.some.inj hf
  subst hf
  exact tq_forget _ (tq_le_s (tq_le_u (tq_le_s (tq_le_s (tq_le_s (tq_le_s (tq_le_u tq_le_n))))))) hk

set_option maxRecDepth 100000 in
set_option maxHeartbeats 4000000 in
theorem FX12_caveOf_s77_x {S : Nat × (Nat → Int32)} {d : Nat} {I : tq_PI} {L : tq_PL} {a0 : Nat} {a2 : Int32} {a4 : Int32} {a3 : Int32} {a5 : Int32} (h0 : tq_sh0 a0 = 12) {q0 : Option Value → tq_PI → tq_PL → Prop} {out : (Int32 × Int32 × tq_PI) ⊕ (Int32 × tq_PI)} (hf : FX12_caveOf_s77 I L a0 a2 a4 a3 a5 = some out) (hk : Sum.elim (fun p : Int32 × Int32 × tq_PI => tq_X S mX12_caveOf (d + 2) tq_k0 77 ([.ref a0, tq_u, .int a2, .int p.1, .int a4, .int p.2.1, tq_u]) [] (tq_st p.2.2 L) (tq_Q q0)) (fun p : Int32 × tq_PI => tq_X S mX12_caveOf (d + 2) tq_k0 148 ([.ref a0, tq_u, .int a2, .int p.1, .int a4, tq_u, tq_u]) [] (tq_st p.2 L) (tq_Q q0)) out) : tq_X S mX12_caveOf (d + 2) tq_k0 77 ([.ref a0, tq_u, .int a2, .int a3, .int a4, .int a5, tq_u]) [] (tq_st I L) (tq_Q q0) := by
  unfold FX12_caveOf_s77 at hf
  refine tq_iload rX12_caveOf_77 rfl ?_
  refine tq_iconst (4 : Int32) rX12_caveOf_79 (by decide) ?_
  refine tq_icmp_ge rX12_caveOf_80 (fun c12 => ?_) (fun c12 => ?_)
  · rw [if_pos c12] at hf
    have hf := Option.some.inj hf
    subst hf
    exact tq_forget _ (tq_le_s (tq_le_u (tq_le_s (tq_le_s (tq_le_s (tq_le_u (tq_le_u tq_le_n))))))) hk
  · rw [if_neg c12] at hf
    refine tq_aload_n rX12_caveOf_83 rfl ?_
    refine ty_getR rX12_caveOf_84 f_X12_23 rfl h0 (hp_12_16 h0).1 ?_
    refine tq_iload rX12_caveOf_87 rfl ?_
    obtain ⟨g13, hf⟩ := tq_chk hf
    refine ty_zald (v := 48) rX12_caveOf_89 (hp_12_16 h0).2.1 (hp_12_16 h0).2.2 rfl (by decide) g13 ?_
    refine tq_if_eq rX12_caveOf_90 (fun c14 => ?_) (fun c14 => ?_)
    · rw [if_pos c14] at hf
      have hf := Option.some.inj hf
      subst hf
      exact tq_forget _ (tq_le_s (tq_le_u (tq_le_s (tq_le_s (tq_le_s (tq_le_u (tq_le_u tq_le_n))))))) hk
    · rw [if_neg c14] at hf
      refine tq_aload_n rX12_caveOf_93 rfl ?_
      refine tq_iload rX12_caveOf_94 rfl ?_
      refine tq_iload rX12_caveOf_96 rfl ?_
      obtain ⟨p15, e15, hf⟩ := Option.bind_eq_some_iff.mp hf
      refine ty_callVI p15 ([.int a4, .int a5]) ([]) rX12_caveOf_98 l_X12_205 moX12_beside mvX12_beside h0 rfl rfl (Nat.le_of_ble_eq_true rfl) ⟨rfl, rfl⟩ (CX12_beside h0 e15) ?_
      refine tq_istore ([.ref a0, tq_u, .int a2, .int a3, .int a4, .int a5, .int p15]) rX12_caveOf_101 (Nat.le_of_ble_eq_true rfl) rfl ?_
      refine tq_iload rX12_caveOf_103 rfl ?_
      refine tq_iconst (-1 : Int32) rX12_caveOf_105 (by decide) ?_
      refine tq_icmp_eq rX12_caveOf_106 (fun c16 => ?_) (fun c16 => ?_)
      · rw [if_pos c16] at hf
        exact tq_forget _ (tq_le_s (tq_le_u (tq_le_s (tq_le_s (tq_le_s (tq_le_s (tq_le_u tq_le_n))))))) (FX12_caveOf_j142L77_x  h0 hf hk)
      · rw [if_neg c16] at hf
        refine tq_aload_n rX12_caveOf_109 rfl ?_
        refine ty_getR rX12_caveOf_110 f_X12_23 rfl h0 (hp_12_16 h0).1 ?_
        refine tq_iload rX12_caveOf_113 rfl ?_
        obtain ⟨g17, hf⟩ := tq_chk hf
        refine ty_zald (v := 48) rX12_caveOf_115 (hp_12_16 h0).2.1 (hp_12_16 h0).2.2 rfl (by decide) g17 ?_
        refine tq_if_ne rX12_caveOf_116 (fun c18 => ?_) (fun c18 => ?_)
        · rw [if_neg c18] at hf
          exact tq_forget _ (tq_le_s (tq_le_u (tq_le_s (tq_le_s (tq_le_s (tq_le_s (tq_le_u tq_le_n))))))) (FX12_caveOf_j142L77_x  h0 hf hk)
        · rw [if_pos c18] at hf
          refine tq_aload_n rX12_caveOf_119 rfl ?_
          refine tq_iconst (0 : Int32) rX12_caveOf_120 (by decide) ?_
          refine tq_iload rX12_caveOf_121 rfl ?_
          obtain ⟨p19, e19, hf⟩ := Option.bind_eq_some_iff.mp hf
          refine ty_callVI p19 ([.int (0 : Int32), .int p15]) ([]) rX12_caveOf_123 l_X12_193 moX12_kindOf mvX12_kindOf h0 rfl rfl (Nat.le_of_ble_eq_true rfl) ⟨rfl, rfl⟩ (CX12_kindOf h0 e19) ?_
          refine tq_if_eq rX12_caveOf_126 (fun c20 => ?_) (fun c20 => ?_)
          · rw [if_pos c20] at hf
            refine tq_aload_n rX12_caveOf_132 rfl ?_
            refine ty_getR rX12_caveOf_133 f_X12_23 rfl h0 (hp_12_16 h0).1 ?_
            refine tq_iload rX12_caveOf_136 rfl ?_
            refine tq_iconst (1 : Int32) rX12_caveOf_138 (by decide) ?_
            obtain ⟨g21, hf⟩ := tq_chk hf
            refine ty_zast (v := 48) rX12_caveOf_139 (hp_12_16 h0).2.1 (hp_12_16 h0).2.2 rfl (by decide) g21 (by decide) ?_
            refine tq_iconst (1 : Int32) rX12_caveOf_140 (by decide) ?_
            refine tq_istore_n ([.ref a0, tq_u, .int a2, .int (1 : Int32), .int a4, .int a5, .int p15]) rX12_caveOf_141 (Nat.le_of_ble_eq_true rfl) rfl ?_
            exact tq_forget _ (tq_le_s (tq_le_u (tq_le_s (tq_le_s (tq_le_s (tq_le_s (tq_le_u tq_le_n))))))) (FX12_caveOf_j142L77_x  h0 hf hk)
          · rw [if_neg c20] at hf
            refine tq_goto rX12_caveOf_129 ?_
            exact tq_forget _ (tq_le_s (tq_le_u (tq_le_s (tq_le_s (tq_le_s (tq_le_s (tq_le_u tq_le_n))))))) (FX12_caveOf_j142L77_x  h0 hf hk)

set_option maxRecDepth 100000 in
set_option maxHeartbeats 4000000 in
theorem FX12_caveOf_j72L47_x {S : Nat × (Nat → Int32)} {d : Nat} {I : tq_PI} {L : tq_PL} {a0 : Nat} {a3 : Int32} {a4 : Int32} {b0 : Int32} {b1 : Int32} (h0 : tq_sh0 a0 = 12) {q0 : Option Value → tq_PI → tq_PL → Prop} {out : (Int32 × Int32 × Int32 × tq_PI) ⊕ (Int32 × Int32 × tq_PI)} (hf : FX12_caveOf_j72L47 I L a0 a3 a4 b0 b1 = some out) (hk : Sum.elim (fun p : Int32 × Int32 × Int32 × tq_PI => tq_X S mX12_caveOf (d + 2) tq_k0 47 ([.ref a0, tq_u, .int p.1, .int p.2.1, .int p.2.2.1, tq_u, tq_u]) [] (tq_st p.2.2.2 L) (tq_Q q0)) (fun p : Int32 × Int32 × tq_PI => tq_X S mX12_caveOf (d + 2) tq_k0 154 ([.ref a0, tq_u, .int p.1, .int p.2.1, tq_u, tq_u, tq_u]) [] (tq_st p.2.2 L) (tq_Q q0)) out) : tq_X S mX12_caveOf (d + 2) tq_k0 72 ([.ref a0, tq_u, tq_u, .int a3, .int a4, tq_u, tq_u]) ([.int b0, .int b1]) (tq_st I L) (tq_Q q0) := by
  unfold FX12_caveOf_j72L47 at hf
  refine tq_iadd rX12_caveOf_72 ?_
  refine tq_istore_n ([.ref a0, tq_u, .int (b1 + b0), .int a3, .int a4, tq_u, tq_u]) rX12_caveOf_73 (Nat.le_of_ble_eq_true rfl) rfl ?_
  refine tq_iconst (0 : Int32) rX12_caveOf_74 (by decide) ?_
  refine tq_istore ([.ref a0, tq_u, .int (b1 + b0), .int a3, .int a4, .int (0 : Int32), tq_u]) rX12_caveOf_75 (Nat.le_of_ble_eq_true rfl) rfl ?_
  obtain ⟨p22, e22, hf⟩ := Option.bind_eq_some_iff.mp hf
  refine tq_forget _ (tq_le_s (tq_le_u (tq_le_s (tq_le_s (tq_le_s (tq_le_s (tq_le_u tq_le_n))))))) ?_
  refine tq_it_elim (P := fun p : Int32 × Int32 × tq_PI => tq_X S mX12_caveOf (d + 2) tq_k0 77 ([.ref a0, tq_u, .int (b1 + b0), .int p.1, .int a4, .int p.2.1, tq_u]) [] (tq_st p.2.2 L) (tq_Q q0)) (R := fun p : Int32 × tq_PI => tq_X S mX12_caveOf (d + 2) tq_k0 148 ([.ref a0, tq_u, .int (b1 + b0), .int p.1, .int a4, tq_u, tq_u]) [] (tq_st p.2 L) (tq_Q q0)) (fun p o hp hk => FX12_caveOf_s77_x  h0 hp hk) _ ((a3, (0 : Int32), I)) _ e22 ?_
  show tq_X _ _ _ _ _ _ _ _ _
  refine tq_iinc (a4 + 1) ([.ref a0, tq_u, .int (b1 + b0), .int p22.1, .int (a4 + 1), tq_u, tq_u]) rX12_caveOf_148 rfl (tq_inc (by decide)) (Nat.le_of_ble_eq_true rfl) rfl ?_
  refine tq_goto rX12_caveOf_151 ?_
  have hf := Option.some.inj hf
  subst hf
  exact tq_forget _ (tq_le_s (tq_le_u (tq_le_s (tq_le_s (tq_le_s (tq_le_u (tq_le_u tq_le_n))))))) hk

set_option maxRecDepth 100000 in
set_option maxHeartbeats 4000000 in
theorem FX12_caveOf_s47_x {S : Nat × (Nat → Int32)} {d : Nat} {I : tq_PI} {L : tq_PL} {a0 : Nat} {a2 : Int32} {a3 : Int32} {a4 : Int32} (h0 : tq_sh0 a0 = 12) {q0 : Option Value → tq_PI → tq_PL → Prop} {out : (Int32 × Int32 × Int32 × tq_PI) ⊕ (Int32 × Int32 × tq_PI)} (hf : FX12_caveOf_s47 I L a0 a2 a3 a4 = some out) (hk : Sum.elim (fun p : Int32 × Int32 × Int32 × tq_PI => tq_X S mX12_caveOf (d + 2) tq_k0 47 ([.ref a0, tq_u, .int p.1, .int p.2.1, .int p.2.2.1, tq_u, tq_u]) [] (tq_st p.2.2.2 L) (tq_Q q0)) (fun p : Int32 × Int32 × tq_PI => tq_X S mX12_caveOf (d + 2) tq_k0 154 ([.ref a0, tq_u, .int p.1, .int p.2.1, tq_u, tq_u, tq_u]) [] (tq_st p.2.2 L) (tq_Q q0)) out) : tq_X S mX12_caveOf (d + 2) tq_k0 47 ([.ref a0, tq_u, .int a2, .int a3, .int a4, tq_u, tq_u]) [] (tq_st I L) (tq_Q q0) := by
  unfold FX12_caveOf_s47 at hf
  refine tq_iload rX12_caveOf_47 rfl ?_
  refine tq_aload_n rX12_caveOf_49 rfl ?_
  obtain ⟨p8, e8, hf⟩ := tq_let_elim hf
  refine ty_callVI p8 ([]) ([.int a4]) rX12_caveOf_50 l_X12_190 moX12_many mvX12_many h0 rfl rfl (Nat.le_of_ble_eq_true rfl) ⟨rfl, rfl⟩ (CX12_many h0 e8) ?_
  refine tq_icmp_ge rX12_caveOf_53 (fun c9 => ?_) (fun c9 => ?_)
  · rw [if_pos c9] at hf
    have hf := Option.some.inj hf
    subst hf
    exact tq_forget _ (tq_le_s (tq_le_u (tq_le_s (tq_le_s (tq_le_u (tq_le_u (tq_le_u tq_le_n))))))) hk
  · rw [if_neg c9] at hf
    refine tq_iload_n rX12_caveOf_56 rfl ?_
    refine tq_aload_n rX12_caveOf_57 rfl ?_
    refine ty_getR rX12_caveOf_58 f_X12_23 rfl h0 (hp_12_16 h0).1 ?_
    refine tq_iload rX12_caveOf_61 rfl ?_
    obtain ⟨g10, hf⟩ := tq_chk hf
    refine ty_zald (v := 48) rX12_caveOf_63 (hp_12_16 h0).2.1 (hp_12_16 h0).2.2 rfl (by decide) g10 ?_
    refine tq_if_eq rX12_caveOf_64 (fun c11 => ?_) (fun c11 => ?_)
    · rw [if_pos c11] at hf
      refine tq_iconst (0 : Int32) rX12_caveOf_71 (by decide) ?_
      exact tq_forget _ (tq_le_s (tq_le_u (tq_le_u (tq_le_s (tq_le_s (tq_le_u (tq_le_u tq_le_n))))))) (FX12_caveOf_j72L47_x  h0 hf hk)
    · rw [if_neg c11] at hf
      refine tq_iconst (1 : Int32) rX12_caveOf_67 (by decide) ?_
      refine tq_goto rX12_caveOf_68 ?_
      exact tq_forget _ (tq_le_s (tq_le_u (tq_le_u (tq_le_s (tq_le_s (tq_le_u (tq_le_u tq_le_n))))))) (FX12_caveOf_j72L47_x  h0 hf hk)

set_option maxRecDepth 100000 in
set_option maxHeartbeats 4000000 in
theorem FX12_caveOf_s36_x {S : Nat × (Nat → Int32)} {d : Nat} {I : tq_PI} {L : tq_PL} {a0 : Nat} {a2 : Int32} {a3 : Int32} (h0 : tq_sh0 a0 = 12) {q0 : Option Value → tq_PI → tq_PL → Prop} {out : (Int32 × Int32 × tq_PI) ⊕ (Int32 × tq_PI)} (hf : FX12_caveOf_s36 I L a0 a2 a3 = some out) (hk : Sum.elim (fun p : Int32 × Int32 × tq_PI => tq_X S mX12_caveOf (d + 2) tq_k0 36 ([.ref a0, tq_u, .int p.1, .int p.2.1, tq_u, tq_u, tq_u]) [] (tq_st p.2.2 L) (tq_Q q0)) (fun p : Int32 × tq_PI => tq_X S mX12_caveOf (d + 2) tq_k0 157 ([tq_u, tq_u, .int p.1, tq_u, tq_u, tq_u, tq_u]) [] (tq_st p.2 L) (tq_Q q0)) out) : tq_X S mX12_caveOf (d + 2) tq_k0 36 ([.ref a0, tq_u, .int a2, .int a3, tq_u, tq_u, tq_u]) [] (tq_st I L) (tq_Q q0) := by
  unfold FX12_caveOf_s36 at hf
  refine tq_iload_n rX12_caveOf_36 rfl ?_
  refine tq_if_eq rX12_caveOf_37 (fun c7 => ?_) (fun c7 => ?_)
  · rw [if_pos c7] at hf
    have hf := Option.some.inj hf
    subst hf
    exact tq_forget _ (tq_le_u (tq_le_u (tq_le_s (tq_le_u (tq_le_u (tq_le_u (tq_le_u tq_le_n))))))) hk
  · rw [if_neg c7] at hf
    refine tq_iconst (0 : Int32) rX12_caveOf_40 (by decide) ?_
    refine tq_istore_n ([.ref a0, tq_u, .int a2, .int (0 : Int32), tq_u, tq_u, tq_u]) rX12_caveOf_41 (Nat.le_of_ble_eq_true rfl) rfl ?_
    refine tq_iconst (0 : Int32) rX12_caveOf_42 (by decide) ?_
    refine tq_istore_n ([.ref a0, tq_u, .int (0 : Int32), .int (0 : Int32), tq_u, tq_u, tq_u]) rX12_caveOf_43 (Nat.le_of_ble_eq_true rfl) rfl ?_
    refine tq_iconst (0 : Int32) rX12_caveOf_44 (by decide) ?_
    refine tq_istore ([.ref a0, tq_u, .int (0 : Int32), .int (0 : Int32), .int (0 : Int32), tq_u, tq_u]) rX12_caveOf_45 (Nat.le_of_ble_eq_true rfl) rfl ?_
    obtain ⟨p23, e23, hf⟩ := Option.bind_eq_some_iff.mp hf
    refine tq_forget _ (tq_le_s (tq_le_u (tq_le_s (tq_le_s (tq_le_s (tq_le_u (tq_le_u tq_le_n))))))) ?_
    refine tq_it_elim (P := fun p : Int32 × Int32 × Int32 × tq_PI => tq_X S mX12_caveOf (d + 2) tq_k0 47 ([.ref a0, tq_u, .int p.1, .int p.2.1, .int p.2.2.1, tq_u, tq_u]) [] (tq_st p.2.2.2 L) (tq_Q q0)) (R := fun p : Int32 × Int32 × tq_PI => tq_X S mX12_caveOf (d + 2) tq_k0 154 ([.ref a0, tq_u, .int p.1, .int p.2.1, tq_u, tq_u, tq_u]) [] (tq_st p.2.2 L) (tq_Q q0)) (fun p o hp hk => FX12_caveOf_s47_x  h0 hp hk) _ (((0 : Int32), (0 : Int32), (0 : Int32), I)) _ e23 ?_
    show tq_X _ _ _ _ _ _ _ _ _
    refine tq_goto rX12_caveOf_154 ?_
    have hf := Option.some.inj hf
    subst hf
    exact tq_forget _ (tq_le_s (tq_le_u (tq_le_s (tq_le_s (tq_le_u (tq_le_u (tq_le_u tq_le_n))))))) hk

set_option maxRecDepth 100000 in
set_option maxHeartbeats 4000000 in
theorem CX12_caveOf {S : Nat × (Nat → Int32)} {d : Nat} {I : tq_PI} {L : tq_PL} {a0 : Nat} {a1 : Int32} (h0 : tq_sh0 a0 = 12) {out : Int32 × tq_PI} (hf : FX12_caveOf I L a0 a1 = some out) : tq_K S mX12_caveOf (d + 2) [.ref a0, .int a1] I L (tq_one2 (some (.int out.1)) out.2 L) := by
  unfold FX12_caveOf at hf
  refine tq_K_of (by decide) (Nat.le_of_ble_eq_true rfl) (ls := [.ref a0, .int a1, tq_u, tq_u, tq_u, tq_u, tq_u]) rfl ?_
  refine tq_iconst (0 : Int32) rX12_caveOf_0 (by decide) ?_
  refine tq_istore_n ([.ref a0, .int a1, .int (0 : Int32), tq_u, tq_u, tq_u, tq_u]) rX12_caveOf_1 (Nat.le_of_ble_eq_true rfl) rfl ?_
  obtain ⟨p6, e6, hf⟩ := Option.bind_eq_some_iff.mp hf
  refine tq_forget _ (tq_le_s (tq_le_s (tq_le_s (tq_le_u (tq_le_u (tq_le_u (tq_le_u tq_le_n))))))) ?_
  refine tq_it_elim (P := fun p : Int32 × tq_PI => tq_X S mX12_caveOf (d + 2) tq_k0 2 ([.ref a0, .int a1, .int p.1, tq_u, tq_u, tq_u, tq_u]) [] (tq_st p.2 L) (tq_Q (tq_one2 (some (.int out.1)) out.2 L))) (R := fun p : tq_PI => tq_X S mX12_caveOf (d + 2) tq_k0 32 ([.ref a0, tq_u, tq_u, tq_u, tq_u, tq_u, tq_u]) [] (tq_st p L) (tq_Q (tq_one2 (some (.int out.1)) out.2 L))) (fun p o hp hk => FX12_caveOf_s2_x  h0 hp hk) _ (((0 : Int32), I)) _ e6 ?_
  show tq_X _ _ _ _ _ _ _ _ _
  refine tq_iconst (0 : Int32) rX12_caveOf_32 (by decide) ?_
  refine tq_istore_n ([.ref a0, tq_u, .int (0 : Int32), tq_u, tq_u, tq_u, tq_u]) rX12_caveOf_33 (Nat.le_of_ble_eq_true rfl) rfl ?_
  refine tq_iconst (1 : Int32) rX12_caveOf_34 (by decide) ?_
  refine tq_istore_n ([.ref a0, tq_u, .int (0 : Int32), .int (1 : Int32), tq_u, tq_u, tq_u]) rX12_caveOf_35 (Nat.le_of_ble_eq_true rfl) rfl ?_
  obtain ⟨p24, e24, hf⟩ := Option.bind_eq_some_iff.mp hf
  refine tq_forget _ (tq_le_s (tq_le_u (tq_le_s (tq_le_s (tq_le_u (tq_le_u (tq_le_u tq_le_n))))))) ?_
  refine tq_it_elim (P := fun p : Int32 × Int32 × tq_PI => tq_X S mX12_caveOf (d + 2) tq_k0 36 ([.ref a0, tq_u, .int p.1, .int p.2.1, tq_u, tq_u, tq_u]) [] (tq_st p.2.2 L) (tq_Q (tq_one2 (some (.int out.1)) out.2 L))) (R := fun p : Int32 × tq_PI => tq_X S mX12_caveOf (d + 2) tq_k0 157 ([tq_u, tq_u, .int p.1, tq_u, tq_u, tq_u, tq_u]) [] (tq_st p.2 L) (tq_Q (tq_one2 (some (.int out.1)) out.2 L))) (fun p o hp hk => FX12_caveOf_s36_x  h0 hp hk) _ (((0 : Int32), (1 : Int32), p6)) _ e24 ?_
  show tq_X _ _ _ _ _ _ _ _ _
  refine tq_iload_n rX12_caveOf_157 rfl ?_
  refine ty_iret rX12_caveOf_158 rfl rfl ?_
  have hf := Option.some.inj hf
  subst hf
  exact ⟨rfl, rfl, rfl⟩

abbrev mX12_isFirst : tq_M := (yX12_isFirst, cX12_isFirst, 4, (Option.some Jvm.ClassFile.FieldType.boolean), 0, 0)
theorem rX12_isFirst_0 : tq_D cX12_isFirst 0 (.iconst 1) 1 1 := ⟨by decide +kernel, rfl⟩
theorem rX12_isFirst_1 : tq_D cX12_isFirst 1 (.istore_n 2) 1 2 := ⟨by decide +kernel, rfl⟩
theorem rX12_isFirst_2 : tq_D cX12_isFirst 2 (.iconst 0) 1 3 := ⟨by decide +kernel, rfl⟩
theorem rX12_isFirst_3 : tq_D cX12_isFirst 3 (.istore_n 3) 1 4 := ⟨by decide +kernel, rfl⟩
theorem rX12_isFirst_4 : tq_D cX12_isFirst 4 (.iload_n 3) 1 5 := ⟨by decide +kernel, rfl⟩
theorem rX12_isFirst_5 : tq_D cX12_isFirst 5 (.iload_n 1) 1 6 := ⟨by decide +kernel, rfl⟩
theorem rX12_isFirst_6 : tq_J cX12_isFirst 6 (.if_icmp .ge) 34 9 := ⟨28, by decide +kernel, by decide, rfl⟩
theorem rX12_isFirst_9 : tq_D cX12_isFirst 9 (.iload_n 2) 1 10 := ⟨by decide +kernel, rfl⟩
theorem rX12_isFirst_10 : tq_J cX12_isFirst 10 (.ifCond .eq) 26 13 := ⟨16, by decide +kernel, by decide, rfl⟩
theorem rX12_isFirst_13 : tq_D cX12_isFirst 13 (.aload_n 0) 1 14 := ⟨by decide +kernel, rfl⟩
theorem rX12_isFirst_14 : tq_D cX12_isFirst 14 (.getfield 23) 3 17 := ⟨by decide +kernel, rfl⟩
theorem rX12_isFirst_17 : tq_D cX12_isFirst 17 (.iload_n 3) 1 18 := ⟨by decide +kernel, rfl⟩
theorem rX12_isFirst_18 : tq_D cX12_isFirst 18 (.baload) 1 19 := ⟨by decide +kernel, rfl⟩
theorem rX12_isFirst_19 : tq_J cX12_isFirst 19 (.ifCond .ne) 26 22 := ⟨7, by decide +kernel, by decide, rfl⟩
theorem rX12_isFirst_22 : tq_D cX12_isFirst 22 (.iconst 1) 1 23 := ⟨by decide +kernel, rfl⟩
theorem rX12_isFirst_23 : tq_J cX12_isFirst 23 .goto 27 26 := ⟨4, by decide +kernel, by decide, rfl⟩
theorem rX12_isFirst_26 : tq_D cX12_isFirst 26 (.iconst 0) 1 27 := ⟨by decide +kernel, rfl⟩
theorem rX12_isFirst_27 : tq_D cX12_isFirst 27 (.istore_n 2) 1 28 := ⟨by decide +kernel, rfl⟩
theorem rX12_isFirst_28 : tq_D cX12_isFirst 28 (.iinc 3 1) 3 31 := ⟨by decide +kernel, rfl⟩
theorem rX12_isFirst_31 : tq_J cX12_isFirst 31 .goto 4 34 := ⟨(-27), by decide +kernel, by decide, rfl⟩
theorem rX12_isFirst_34 : tq_D cX12_isFirst 34 (.iload_n 2) 1 35 := ⟨by decide +kernel, rfl⟩
theorem rX12_isFirst_35 : decode cX12_isFirst 35 = .ok (.ireturn, 1) := by decide +kernel
noncomputable def FX12_isFirst_j27L4 (I : tq_PI) (L : tq_PL) (a0 : Nat) (a1 : Int32) (a3 : Int32) (b0 : Int32) : Option ((Int32 × Int32) ⊕ (Int32)) :=
  some (.inl (b0, (a3 + 1)))
noncomputable def FX12_isFirst_j26L4 (I : tq_PI) (L : tq_PL) (a0 : Nat) (a1 : Int32) (a3 : Int32) : Option ((Int32 × Int32) ⊕ (Int32)) :=
  (FX12_isFirst_j27L4 I L a0 a1 a3 ((0 : Int32)))
noncomputable def FX12_isFirst_s4 (I : tq_PI) (L : tq_PL) (a0 : Nat) (a1 : Int32) (a2 : Int32) (a3 : Int32) : Option ((Int32 × Int32) ⊕ (Int32)) :=
  (if a1 ≤ a3 then some (.inr a2) else (if a2 = 0 then (FX12_isFirst_j26L4 I L a0 a1 a3) else (if 0 ≤ a3 ∧ a3 < 48 then (if (I (tq_rg a0 16) a3.toNatClampNeg) = 0 then (FX12_isFirst_j27L4 I L a0 a1 a3 ((1 : Int32))) else (FX12_isFirst_j26L4 I L a0 a1 a3)) else none)))
noncomputable def FX12_isFirst (I : tq_PI) (L : tq_PL) (a0 : Nat) (a1 : Int32) : Option (Bool) :=
  ((tq_it (fun p : Int32 × Int32 => FX12_isFirst_s4 I L a0 a1 p.1 p.2) tq_N ((1 : Int32), (0 : Int32))).bind fun p5 => (if p5 = 0 ∨ p5 = 1 then some (decide (p5 = 1)) else none))
set_option maxRecDepth 100000 in
set_option maxHeartbeats 4000000 in
theorem FX12_isFirst_j27L4_x {S : Nat × (Nat → Int32)} {d : Nat} {I : tq_PI} {L : tq_PL} {a0 : Nat} {a1 : Int32} {a3 : Int32} {b0 : Int32} (h0 : tq_sh0 a0 = 12) {q0 : Option Value → tq_PI → tq_PL → Prop} {out : (Int32 × Int32) ⊕ (Int32)} (hf : FX12_isFirst_j27L4 I L a0 a1 a3 b0 = some out) (hk : Sum.elim (fun p : Int32 × Int32 => tq_X S mX12_isFirst d tq_k0 4 ([.ref a0, .int a1, .int p.1, .int p.2]) [] (tq_st I L) (tq_Q q0)) (fun p : Int32 => tq_X S mX12_isFirst d tq_k0 34 ([tq_u, tq_u, .int p, tq_u]) [] (tq_st I L) (tq_Q q0)) out) : tq_X S mX12_isFirst d tq_k0 27 ([.ref a0, .int a1, tq_u, .int a3]) ([.int b0]) (tq_st I L) (tq_Q q0) := by
  unfold FX12_isFirst_j27L4 at hf
  refine tq_istore_n ([.ref a0, .int a1, .int b0, .int a3]) rX12_isFirst_27 (Nat.le_of_ble_eq_true rfl) rfl ?_
  refine tq_iinc (a3 + 1) ([.ref a0, .int a1, .int b0, .int (a3 + 1)]) rX12_isFirst_28 rfl (tq_inc (by decide)) (Nat.le_of_ble_eq_true rfl) rfl ?_
  refine tq_goto rX12_isFirst_31 ?_
  have hf := Option.some.inj hf
  subst hf
  exact tq_forget _ (tq_le_s (tq_le_s (tq_le_s (tq_le_s tq_le_n)))) hk

set_option maxRecDepth 100000 in
set_option maxHeartbeats 4000000 in
theorem FX12_isFirst_j26L4_x {S : Nat × (Nat → Int32)} {d : Nat} {I : tq_PI} {L : tq_PL} {a0 : Nat} {a1 : Int32} {a3 : Int32} (h0 : tq_sh0 a0 = 12) {q0 : Option Value → tq_PI → tq_PL → Prop} {out : (Int32 × Int32) ⊕ (Int32)} (hf : FX12_isFirst_j26L4 I L a0 a1 a3 = some out) (hk : Sum.elim (fun p : Int32 × Int32 => tq_X S mX12_isFirst d tq_k0 4 ([.ref a0, .int a1, .int p.1, .int p.2]) [] (tq_st I L) (tq_Q q0)) (fun p : Int32 => tq_X S mX12_isFirst d tq_k0 34 ([tq_u, tq_u, .int p, tq_u]) [] (tq_st I L) (tq_Q q0)) out) : tq_X S mX12_isFirst d tq_k0 26 ([.ref a0, .int a1, tq_u, .int a3]) ([]) (tq_st I L) (tq_Q q0) := by
  unfold FX12_isFirst_j26L4 at hf
  refine tq_iconst (0 : Int32) rX12_isFirst_26 (by decide) ?_
  exact tq_forget _ (tq_le_s (tq_le_s (tq_le_u (tq_le_s tq_le_n)))) (FX12_isFirst_j27L4_x  h0 hf hk)

set_option maxRecDepth 100000 in
set_option maxHeartbeats 4000000 in
theorem FX12_isFirst_s4_x {S : Nat × (Nat → Int32)} {d : Nat} {I : tq_PI} {L : tq_PL} {a0 : Nat} {a1 : Int32} {a2 : Int32} {a3 : Int32} (h0 : tq_sh0 a0 = 12) {q0 : Option Value → tq_PI → tq_PL → Prop} {out : (Int32 × Int32) ⊕ (Int32)} (hf : FX12_isFirst_s4 I L a0 a1 a2 a3 = some out) (hk : Sum.elim (fun p : Int32 × Int32 => tq_X S mX12_isFirst d tq_k0 4 ([.ref a0, .int a1, .int p.1, .int p.2]) [] (tq_st I L) (tq_Q q0)) (fun p : Int32 => tq_X S mX12_isFirst d tq_k0 34 ([tq_u, tq_u, .int p, tq_u]) [] (tq_st I L) (tq_Q q0)) out) : tq_X S mX12_isFirst d tq_k0 4 ([.ref a0, .int a1, .int a2, .int a3]) [] (tq_st I L) (tq_Q q0) := by
  unfold FX12_isFirst_s4 at hf
  refine tq_iload_n rX12_isFirst_4 rfl ?_
  refine tq_iload_n rX12_isFirst_5 rfl ?_
  refine tq_icmp_ge rX12_isFirst_6 (fun c1 => ?_) (fun c1 => ?_)
  · rw [if_pos c1] at hf
    have hf := Option.some.inj hf
    subst hf
    exact tq_forget _ (tq_le_u (tq_le_u (tq_le_s (tq_le_u tq_le_n)))) hk
  · rw [if_neg c1] at hf
    refine tq_iload_n rX12_isFirst_9 rfl ?_
    refine tq_if_eq rX12_isFirst_10 (fun c2 => ?_) (fun c2 => ?_)
    · rw [if_pos c2] at hf
      exact tq_forget _ (tq_le_s (tq_le_s (tq_le_u (tq_le_s tq_le_n)))) (FX12_isFirst_j26L4_x  h0 hf hk)
    · rw [if_neg c2] at hf
      refine tq_aload_n rX12_isFirst_13 rfl ?_
      refine ty_getR rX12_isFirst_14 f_X12_23 rfl h0 (hp_12_16 h0).1 ?_
      refine tq_iload_n rX12_isFirst_17 rfl ?_
      obtain ⟨g3, hf⟩ := tq_chk hf
      refine ty_zald (v := 48) rX12_isFirst_18 (hp_12_16 h0).2.1 (hp_12_16 h0).2.2 rfl (by decide) g3 ?_
      refine tq_if_ne rX12_isFirst_19 (fun c4 => ?_) (fun c4 => ?_)
      · rw [if_neg c4] at hf
        exact tq_forget _ (tq_le_s (tq_le_s (tq_le_u (tq_le_s tq_le_n)))) (FX12_isFirst_j26L4_x  h0 hf hk)
      · rw [if_pos c4] at hf
        refine tq_iconst (1 : Int32) rX12_isFirst_22 (by decide) ?_
        refine tq_goto rX12_isFirst_23 ?_
        exact tq_forget _ (tq_le_s (tq_le_s (tq_le_u (tq_le_s tq_le_n)))) (FX12_isFirst_j27L4_x  h0 hf hk)

set_option maxRecDepth 100000 in
set_option maxHeartbeats 4000000 in
theorem CX12_isFirst {S : Nat × (Nat → Int32)} {d : Nat} {I : tq_PI} {L : tq_PL} {a0 : Nat} {a1 : Int32} (h0 : tq_sh0 a0 = 12) {out : Bool} (hf : FX12_isFirst I L a0 a1 = some out) : tq_K S mX12_isFirst d [.ref a0, .int a1] I L (tq_one2 (some (.int (tq_b out))) I L) := by
  unfold FX12_isFirst at hf
  refine tq_K_of (by decide) (Nat.le_of_ble_eq_true rfl) (ls := [.ref a0, .int a1, tq_u, tq_u]) rfl ?_
  refine tq_iconst (1 : Int32) rX12_isFirst_0 (by decide) ?_
  refine tq_istore_n ([.ref a0, .int a1, .int (1 : Int32), tq_u]) rX12_isFirst_1 (Nat.le_of_ble_eq_true rfl) rfl ?_
  refine tq_iconst (0 : Int32) rX12_isFirst_2 (by decide) ?_
  refine tq_istore_n ([.ref a0, .int a1, .int (1 : Int32), .int (0 : Int32)]) rX12_isFirst_3 (Nat.le_of_ble_eq_true rfl) rfl ?_
  obtain ⟨p5, e5, hf⟩ := Option.bind_eq_some_iff.mp hf
  refine tq_forget _ (tq_le_s (tq_le_s (tq_le_s (tq_le_s tq_le_n)))) ?_
  refine tq_it_elim (P := fun p : Int32 × Int32 => tq_X S mX12_isFirst d tq_k0 4 ([.ref a0, .int a1, .int p.1, .int p.2]) [] (tq_st I L) (tq_Q (tq_one2 (some (.int (tq_b out))) I L))) (R := fun p : Int32 => tq_X S mX12_isFirst d tq_k0 34 ([tq_u, tq_u, .int p, tq_u]) [] (tq_st I L) (tq_Q (tq_one2 (some (.int (tq_b out))) I L))) (fun p o hp hk => FX12_isFirst_s4_x  h0 hp hk) _ (((1 : Int32), (0 : Int32))) _ e5 ?_
  show tq_X _ _ _ _ _ _ _ _ _
  refine tq_iload_n rX12_isFirst_34 rfl ?_
  obtain ⟨g6, hf⟩ := tq_chk hf
  refine ty_zret (ty := .boolean) rX12_isFirst_35 rfl (tq_fitZ g6).1 rfl ?_
  have hf := Option.some.inj hf
  subst hf
  have e9 : tq_b (decide (p5 = 1)) = p5 := by rcases g6 with g6 | g6 <;> rw [g6] <;> rfl
  exact ⟨by rw [e9], rfl, rfl⟩

abbrev mX12_spanOf : tq_M := (yX12_spanOf, cX12_spanOf, 4, (Option.some Jvm.ClassFile.FieldType.int), 0, 0)
theorem rX12_spanOf_0 : tq_D cX12_spanOf 0 (.iconst 0) 1 1 := ⟨by decide +kernel, rfl⟩
theorem rX12_spanOf_1 : tq_D cX12_spanOf 1 (.istore_n 1) 1 2 := ⟨by decide +kernel, rfl⟩
theorem rX12_spanOf_2 : tq_D cX12_spanOf 2 (.iconst 0) 1 3 := ⟨by decide +kernel, rfl⟩
theorem rX12_spanOf_3 : tq_D cX12_spanOf 3 (.istore_n 2) 1 4 := ⟨by decide +kernel, rfl⟩
theorem rX12_spanOf_4 : tq_D cX12_spanOf 4 (.iconst 0) 1 5 := ⟨by decide +kernel, rfl⟩
theorem rX12_spanOf_5 : tq_D cX12_spanOf 5 (.istore_n 3) 1 6 := ⟨by decide +kernel, rfl⟩
theorem rX12_spanOf_6 : tq_D cX12_spanOf 6 (.iload_n 3) 1 7 := ⟨by decide +kernel, rfl⟩
theorem rX12_spanOf_7 : tq_D cX12_spanOf 7 (.aload_n 0) 1 8 := ⟨by decide +kernel, rfl⟩
theorem rX12_spanOf_8 : tq_D cX12_spanOf 8 (.invokevirtual 190) 3 11 := ⟨by decide +kernel, rfl⟩
theorem rX12_spanOf_11 : tq_J cX12_spanOf 11 (.if_icmp .ge) 61 14 := ⟨50, by decide +kernel, by decide, rfl⟩
theorem rX12_spanOf_14 : tq_D cX12_spanOf 14 (.aload_n 0) 1 15 := ⟨by decide +kernel, rfl⟩
theorem rX12_spanOf_15 : tq_D cX12_spanOf 15 (.iconst 0) 1 16 := ⟨by decide +kernel, rfl⟩
theorem rX12_spanOf_16 : tq_D cX12_spanOf 16 (.iload_n 3) 1 17 := ⟨by decide +kernel, rfl⟩
theorem rX12_spanOf_17 : tq_D cX12_spanOf 17 (.invokevirtual 193) 3 20 := ⟨by decide +kernel, rfl⟩
theorem rX12_spanOf_20 : tq_J cX12_spanOf 20 (.ifCond .eq) 27 23 := ⟨7, by decide +kernel, by decide, rfl⟩
theorem rX12_spanOf_23 : tq_D cX12_spanOf 23 (.iconst 0) 1 24 := ⟨by decide +kernel, rfl⟩
theorem rX12_spanOf_24 : tq_J cX12_spanOf 24 .goto 43 27 := ⟨19, by decide +kernel, by decide, rfl⟩
theorem rX12_spanOf_27 : tq_D cX12_spanOf 27 (.iload_n 3) 1 28 := ⟨by decide +kernel, rfl⟩
theorem rX12_spanOf_28 : tq_D cX12_spanOf 28 (.aload_n 0) 1 29 := ⟨by decide +kernel, rfl⟩
theorem rX12_spanOf_29 : tq_D cX12_spanOf 29 (.getfield 148) 3 32 := ⟨by decide +kernel, rfl⟩
theorem rX12_spanOf_32 : tq_D cX12_spanOf 32 (.irem) 1 33 := ⟨by decide +kernel, rfl⟩
theorem rX12_spanOf_33 : tq_J cX12_spanOf 33 (.ifCond .ne) 40 36 := ⟨7, by decide +kernel, by decide, rfl⟩
theorem rX12_spanOf_36 : tq_D cX12_spanOf 36 (.iconst 1) 1 37 := ⟨by decide +kernel, rfl⟩
theorem rX12_spanOf_37 : tq_J cX12_spanOf 37 .goto 43 40 := ⟨6, by decide +kernel, by decide, rfl⟩
theorem rX12_spanOf_40 : tq_D cX12_spanOf 40 (.iload_n 2) 1 41 := ⟨by decide +kernel, rfl⟩
theorem rX12_spanOf_41 : tq_D cX12_spanOf 41 (.iconst 1) 1 42 := ⟨by decide +kernel, rfl⟩
theorem rX12_spanOf_42 : tq_D cX12_spanOf 42 (.iadd) 1 43 := ⟨by decide +kernel, rfl⟩
theorem rX12_spanOf_43 : tq_D cX12_spanOf 43 (.istore_n 2) 1 44 := ⟨by decide +kernel, rfl⟩
theorem rX12_spanOf_44 : tq_D cX12_spanOf 44 (.iload_n 2) 1 45 := ⟨by decide +kernel, rfl⟩
theorem rX12_spanOf_45 : tq_D cX12_spanOf 45 (.iload_n 1) 1 46 := ⟨by decide +kernel, rfl⟩
theorem rX12_spanOf_46 : tq_J cX12_spanOf 46 (.if_icmp .le) 53 49 := ⟨7, by decide +kernel, by decide, rfl⟩
theorem rX12_spanOf_49 : tq_D cX12_spanOf 49 (.iload_n 2) 1 50 := ⟨by decide +kernel, rfl⟩
theorem rX12_spanOf_50 : tq_J cX12_spanOf 50 .goto 54 53 := ⟨4, by decide +kernel, by decide, rfl⟩
theorem rX12_spanOf_53 : tq_D cX12_spanOf 53 (.iload_n 1) 1 54 := ⟨by decide +kernel, rfl⟩
theorem rX12_spanOf_54 : tq_D cX12_spanOf 54 (.istore_n 1) 1 55 := ⟨by decide +kernel, rfl⟩
theorem rX12_spanOf_55 : tq_D cX12_spanOf 55 (.iinc 3 1) 3 58 := ⟨by decide +kernel, rfl⟩
theorem rX12_spanOf_58 : tq_J cX12_spanOf 58 .goto 6 61 := ⟨(-52), by decide +kernel, by decide, rfl⟩
theorem rX12_spanOf_61 : tq_D cX12_spanOf 61 (.iload_n 1) 1 62 := ⟨by decide +kernel, rfl⟩
theorem rX12_spanOf_62 : decode cX12_spanOf 62 = .ok (.ireturn, 1) := by decide +kernel
noncomputable def FX12_spanOf_j54L6 (I : tq_PI) (L : tq_PL) (a0 : Nat) (a2 : Int32) (a3 : Int32) (b0 : Int32) : Option ((Int32 × Int32 × Int32) ⊕ (Int32)) :=
  some (.inl (b0, a2, (a3 + 1)))
noncomputable def FX12_spanOf_j43L6 (I : tq_PI) (L : tq_PL) (a0 : Nat) (a1 : Int32) (a3 : Int32) (b0 : Int32) : Option ((Int32 × Int32 × Int32) ⊕ (Int32)) :=
  (if b0 ≤ a1 then (FX12_spanOf_j54L6 I L a0 b0 a3 a1) else (FX12_spanOf_j54L6 I L a0 b0 a3 b0))
noncomputable def FX12_spanOf_s6 (I : tq_PI) (L : tq_PL) (a0 : Nat) (a1 : Int32) (a2 : Int32) (a3 : Int32) : Option ((Int32 × Int32 × Int32) ⊕ (Int32)) :=
  (tq_let (FX12_many I L a0) fun p1 => (if p1 ≤ a3 then some (.inr a1) else ((FX12_kindOf I L a0 ((0 : Int32)) a3).bind fun p3 => (if p3 = 0 then (if ¬ (I a0 13) = 0 then (if (a3 - a3 / (I a0 13) * (I a0 13)) = 0 then (FX12_spanOf_j43L6 I L a0 a1 a3 ((1 : Int32))) else (FX12_spanOf_j43L6 I L a0 a1 a3 ((a2 + (1 : Int32))))) else none) else (FX12_spanOf_j43L6 I L a0 a1 a3 ((0 : Int32)))))))
noncomputable def FX12_spanOf (I : tq_PI) (L : tq_PL) (a0 : Nat) : Option (Int32) :=
  ((tq_it (fun p : Int32 × Int32 × Int32 => FX12_spanOf_s6 I L a0 p.1 p.2.1 p.2.2) tq_N ((0 : Int32), (0 : Int32), (0 : Int32))).bind fun p8 => some p8)
set_option maxRecDepth 100000 in
set_option maxHeartbeats 4000000 in
theorem FX12_spanOf_j54L6_x {S : Nat × (Nat → Int32)} {d : Nat} {I : tq_PI} {L : tq_PL} {a0 : Nat} {a2 : Int32} {a3 : Int32} {b0 : Int32} (h0 : tq_sh0 a0 = 12) {q0 : Option Value → tq_PI → tq_PL → Prop} {out : (Int32 × Int32 × Int32) ⊕ (Int32)} (hf : FX12_spanOf_j54L6 I L a0 a2 a3 b0 = some out) (hk : Sum.elim (fun p : Int32 × Int32 × Int32 => tq_X S mX12_spanOf (d + 1) tq_k0 6 ([.ref a0, .int p.1, .int p.2.1, .int p.2.2]) [] (tq_st I L) (tq_Q q0)) (fun p : Int32 => tq_X S mX12_spanOf (d + 1) tq_k0 61 ([tq_u, .int p, tq_u, tq_u]) [] (tq_st I L) (tq_Q q0)) out) : tq_X S mX12_spanOf (d + 1) tq_k0 54 ([.ref a0, tq_u, .int a2, .int a3]) ([.int b0]) (tq_st I L) (tq_Q q0) := by
  unfold FX12_spanOf_j54L6 at hf
  refine tq_istore_n ([.ref a0, .int b0, .int a2, .int a3]) rX12_spanOf_54 (Nat.le_of_ble_eq_true rfl) rfl ?_
  refine tq_iinc (a3 + 1) ([.ref a0, .int b0, .int a2, .int (a3 + 1)]) rX12_spanOf_55 rfl (tq_inc (by decide)) (Nat.le_of_ble_eq_true rfl) rfl ?_
  refine tq_goto rX12_spanOf_58 ?_
  have hf := Option.some.inj hf
  subst hf
  exact tq_forget _ (tq_le_s (tq_le_s (tq_le_s (tq_le_s tq_le_n)))) hk

set_option maxRecDepth 100000 in
set_option maxHeartbeats 4000000 in
theorem FX12_spanOf_j43L6_x {S : Nat × (Nat → Int32)} {d : Nat} {I : tq_PI} {L : tq_PL} {a0 : Nat} {a1 : Int32} {a3 : Int32} {b0 : Int32} (h0 : tq_sh0 a0 = 12) {q0 : Option Value → tq_PI → tq_PL → Prop} {out : (Int32 × Int32 × Int32) ⊕ (Int32)} (hf : FX12_spanOf_j43L6 I L a0 a1 a3 b0 = some out) (hk : Sum.elim (fun p : Int32 × Int32 × Int32 => tq_X S mX12_spanOf (d + 1) tq_k0 6 ([.ref a0, .int p.1, .int p.2.1, .int p.2.2]) [] (tq_st I L) (tq_Q q0)) (fun p : Int32 => tq_X S mX12_spanOf (d + 1) tq_k0 61 ([tq_u, .int p, tq_u, tq_u]) [] (tq_st I L) (tq_Q q0)) out) : tq_X S mX12_spanOf (d + 1) tq_k0 43 ([.ref a0, .int a1, tq_u, .int a3]) ([.int b0]) (tq_st I L) (tq_Q q0) := by
  unfold FX12_spanOf_j43L6 at hf
  refine tq_istore_n ([.ref a0, .int a1, .int b0, .int a3]) rX12_spanOf_43 (Nat.le_of_ble_eq_true rfl) rfl ?_
  refine tq_iload_n rX12_spanOf_44 rfl ?_
  refine tq_iload_n rX12_spanOf_45 rfl ?_
  refine tq_icmp_le rX12_spanOf_46 (fun c7 => ?_) (fun c7 => ?_)
  · rw [if_pos c7] at hf
    refine tq_iload_n rX12_spanOf_53 rfl ?_
    exact tq_forget _ (tq_le_s (tq_le_u (tq_le_s (tq_le_s tq_le_n)))) (FX12_spanOf_j54L6_x  h0 hf hk)
  · rw [if_neg c7] at hf
    refine tq_iload_n rX12_spanOf_49 rfl ?_
    refine tq_goto rX12_spanOf_50 ?_
    exact tq_forget _ (tq_le_s (tq_le_u (tq_le_s (tq_le_s tq_le_n)))) (FX12_spanOf_j54L6_x  h0 hf hk)

set_option maxRecDepth 100000 in
set_option maxHeartbeats 4000000 in
theorem FX12_spanOf_s6_x {S : Nat × (Nat → Int32)} {d : Nat} {I : tq_PI} {L : tq_PL} {a0 : Nat} {a1 : Int32} {a2 : Int32} {a3 : Int32} (h0 : tq_sh0 a0 = 12) {q0 : Option Value → tq_PI → tq_PL → Prop} {out : (Int32 × Int32 × Int32) ⊕ (Int32)} (hf : FX12_spanOf_s6 I L a0 a1 a2 a3 = some out) (hk : Sum.elim (fun p : Int32 × Int32 × Int32 => tq_X S mX12_spanOf (d + 1) tq_k0 6 ([.ref a0, .int p.1, .int p.2.1, .int p.2.2]) [] (tq_st I L) (tq_Q q0)) (fun p : Int32 => tq_X S mX12_spanOf (d + 1) tq_k0 61 ([tq_u, .int p, tq_u, tq_u]) [] (tq_st I L) (tq_Q q0)) out) : tq_X S mX12_spanOf (d + 1) tq_k0 6 ([.ref a0, .int a1, .int a2, .int a3]) [] (tq_st I L) (tq_Q q0) := by
  unfold FX12_spanOf_s6 at hf
  refine tq_iload_n rX12_spanOf_6 rfl ?_
  refine tq_aload_n rX12_spanOf_7 rfl ?_
  obtain ⟨p1, e1, hf⟩ := tq_let_elim hf
  refine ty_callVI p1 ([]) ([.int a3]) rX12_spanOf_8 l_X12_190 moX12_many mvX12_many h0 rfl rfl (Nat.le_of_ble_eq_true rfl) ⟨rfl, rfl⟩ (CX12_many h0 e1) ?_
  refine tq_icmp_ge rX12_spanOf_11 (fun c2 => ?_) (fun c2 => ?_)
  · rw [if_pos c2] at hf
    have hf := Option.some.inj hf
    subst hf
    exact tq_forget _ (tq_le_u (tq_le_s (tq_le_u (tq_le_u tq_le_n)))) hk
  · rw [if_neg c2] at hf
    refine tq_aload_n rX12_spanOf_14 rfl ?_
    refine tq_iconst (0 : Int32) rX12_spanOf_15 (by decide) ?_
    refine tq_iload_n rX12_spanOf_16 rfl ?_
    obtain ⟨p3, e3, hf⟩ := Option.bind_eq_some_iff.mp hf
    refine ty_callVI p3 ([.int (0 : Int32), .int a3]) ([]) rX12_spanOf_17 l_X12_193 moX12_kindOf mvX12_kindOf h0 rfl rfl (Nat.le_of_ble_eq_true rfl) ⟨rfl, rfl⟩ (CX12_kindOf h0 e3) ?_
    refine tq_if_eq rX12_spanOf_20 (fun c4 => ?_) (fun c4 => ?_)
    · rw [if_pos c4] at hf
      refine tq_iload_n rX12_spanOf_27 rfl ?_
      refine tq_aload_n rX12_spanOf_28 rfl ?_
      refine ty_getI rX12_spanOf_29 f_X12_148 rfl h0 ?_
      obtain ⟨g5, hf⟩ := tq_chk hf
      refine tq_irem rX12_spanOf_32 g5 ?_
      refine tq_if_ne rX12_spanOf_33 (fun c6 => ?_) (fun c6 => ?_)
      · rw [if_neg c6] at hf
        refine tq_iload_n rX12_spanOf_40 rfl ?_
        refine tq_iconst (1 : Int32) rX12_spanOf_41 (by decide) ?_
        refine tq_iadd rX12_spanOf_42 ?_
        exact tq_forget _ (tq_le_s (tq_le_s (tq_le_u (tq_le_s tq_le_n)))) (FX12_spanOf_j43L6_x  h0 hf hk)
      · rw [if_pos c6] at hf
        refine tq_iconst (1 : Int32) rX12_spanOf_36 (by decide) ?_
        refine tq_goto rX12_spanOf_37 ?_
        exact tq_forget _ (tq_le_s (tq_le_s (tq_le_u (tq_le_s tq_le_n)))) (FX12_spanOf_j43L6_x  h0 hf hk)
    · rw [if_neg c4] at hf
      refine tq_iconst (0 : Int32) rX12_spanOf_23 (by decide) ?_
      refine tq_goto rX12_spanOf_24 ?_
      exact tq_forget _ (tq_le_s (tq_le_s (tq_le_u (tq_le_s tq_le_n)))) (FX12_spanOf_j43L6_x  h0 hf hk)

set_option maxRecDepth 100000 in
set_option maxHeartbeats 4000000 in
theorem CX12_spanOf {S : Nat × (Nat → Int32)} {d : Nat} {I : tq_PI} {L : tq_PL} {a0 : Nat} (h0 : tq_sh0 a0 = 12) {out : Int32} (hf : FX12_spanOf I L a0 = some out) : tq_K S mX12_spanOf (d + 1) [.ref a0] I L (tq_one2 (some (.int out)) I L) := by
  unfold FX12_spanOf at hf
  refine tq_K_of (by decide) (Nat.le_of_ble_eq_true rfl) (ls := [.ref a0, tq_u, tq_u, tq_u]) rfl ?_
  refine tq_iconst (0 : Int32) rX12_spanOf_0 (by decide) ?_
  refine tq_istore_n ([.ref a0, .int (0 : Int32), tq_u, tq_u]) rX12_spanOf_1 (Nat.le_of_ble_eq_true rfl) rfl ?_
  refine tq_iconst (0 : Int32) rX12_spanOf_2 (by decide) ?_
  refine tq_istore_n ([.ref a0, .int (0 : Int32), .int (0 : Int32), tq_u]) rX12_spanOf_3 (Nat.le_of_ble_eq_true rfl) rfl ?_
  refine tq_iconst (0 : Int32) rX12_spanOf_4 (by decide) ?_
  refine tq_istore_n ([.ref a0, .int (0 : Int32), .int (0 : Int32), .int (0 : Int32)]) rX12_spanOf_5 (Nat.le_of_ble_eq_true rfl) rfl ?_
  obtain ⟨p8, e8, hf⟩ := Option.bind_eq_some_iff.mp hf
  refine tq_forget _ (tq_le_s (tq_le_s (tq_le_s (tq_le_s tq_le_n)))) ?_
  refine tq_it_elim (P := fun p : Int32 × Int32 × Int32 => tq_X S mX12_spanOf (d + 1) tq_k0 6 ([.ref a0, .int p.1, .int p.2.1, .int p.2.2]) [] (tq_st I L) (tq_Q (tq_one2 (some (.int out)) I L))) (R := fun p : Int32 => tq_X S mX12_spanOf (d + 1) tq_k0 61 ([tq_u, .int p, tq_u, tq_u]) [] (tq_st I L) (tq_Q (tq_one2 (some (.int out)) I L))) (fun p o hp hk => FX12_spanOf_s6_x  h0 hp hk) _ (((0 : Int32), (0 : Int32), (0 : Int32))) _ e8 ?_
  show tq_X _ _ _ _ _ _ _ _ _
  refine tq_iload_n rX12_spanOf_61 rfl ?_
  refine ty_iret rX12_spanOf_62 rfl rfl ?_
  have hf := Option.some.inj hf
  subst hf
  exact ⟨rfl, rfl, rfl⟩

abbrev mX12_isMirrored : tq_M := (yX12_isMirrored, cX12_isMirrored, 3, (Option.some Jvm.ClassFile.FieldType.boolean), 0, 0)
theorem rX12_isMirrored_0 : tq_D cX12_isMirrored 0 (.iconst 1) 1 1 := ⟨by decide +kernel, rfl⟩
theorem rX12_isMirrored_1 : tq_D cX12_isMirrored 1 (.istore_n 1) 1 2 := ⟨by decide +kernel, rfl⟩
theorem rX12_isMirrored_2 : tq_D cX12_isMirrored 2 (.iconst 0) 1 3 := ⟨by decide +kernel, rfl⟩
theorem rX12_isMirrored_3 : tq_D cX12_isMirrored 3 (.istore_n 2) 1 4 := ⟨by decide +kernel, rfl⟩
theorem rX12_isMirrored_4 : tq_D cX12_isMirrored 4 (.iload_n 2) 1 5 := ⟨by decide +kernel, rfl⟩
theorem rX12_isMirrored_5 : tq_D cX12_isMirrored 5 (.aload_n 0) 1 6 := ⟨by decide +kernel, rfl⟩
theorem rX12_isMirrored_6 : tq_D cX12_isMirrored 6 (.invokevirtual 190) 3 9 := ⟨by decide +kernel, rfl⟩
theorem rX12_isMirrored_9 : tq_J cX12_isMirrored 9 (.if_icmp .ge) 64 12 := ⟨55, by decide +kernel, by decide, rfl⟩
theorem rX12_isMirrored_12 : tq_D cX12_isMirrored 12 (.iload_n 1) 1 13 := ⟨by decide +kernel, rfl⟩
theorem rX12_isMirrored_13 : tq_J cX12_isMirrored 13 (.ifCond .eq) 56 16 := ⟨43, by decide +kernel, by decide, rfl⟩
theorem rX12_isMirrored_16 : tq_D cX12_isMirrored 16 (.aload_n 0) 1 17 := ⟨by decide +kernel, rfl⟩
theorem rX12_isMirrored_17 : tq_D cX12_isMirrored 17 (.iconst 0) 1 18 := ⟨by decide +kernel, rfl⟩
theorem rX12_isMirrored_18 : tq_D cX12_isMirrored 18 (.iload_n 2) 1 19 := ⟨by decide +kernel, rfl⟩
theorem rX12_isMirrored_19 : tq_D cX12_isMirrored 19 (.invokevirtual 193) 3 22 := ⟨by decide +kernel, rfl⟩
theorem rX12_isMirrored_22 : tq_D cX12_isMirrored 22 (.aload_n 0) 1 23 := ⟨by decide +kernel, rfl⟩
theorem rX12_isMirrored_23 : tq_D cX12_isMirrored 23 (.iconst 0) 1 24 := ⟨by decide +kernel, rfl⟩
theorem rX12_isMirrored_24 : tq_D cX12_isMirrored 24 (.iload_n 2) 1 25 := ⟨by decide +kernel, rfl⟩
theorem rX12_isMirrored_25 : tq_D cX12_isMirrored 25 (.iload_n 2) 1 26 := ⟨by decide +kernel, rfl⟩
theorem rX12_isMirrored_26 : tq_D cX12_isMirrored 26 (.aload_n 0) 1 27 := ⟨by decide +kernel, rfl⟩
theorem rX12_isMirrored_27 : tq_D cX12_isMirrored 27 (.getfield 148) 3 30 := ⟨by decide +kernel, rfl⟩
theorem rX12_isMirrored_30 : tq_D cX12_isMirrored 30 (.irem) 1 31 := ⟨by decide +kernel, rfl⟩
theorem rX12_isMirrored_31 : tq_D cX12_isMirrored 31 (.isub) 1 32 := ⟨by decide +kernel, rfl⟩
theorem rX12_isMirrored_32 : tq_D cX12_isMirrored 32 (.aload_n 0) 1 33 := ⟨by decide +kernel, rfl⟩
theorem rX12_isMirrored_33 : tq_D cX12_isMirrored 33 (.getfield 148) 3 36 := ⟨by decide +kernel, rfl⟩
theorem rX12_isMirrored_36 : tq_D cX12_isMirrored 36 (.iadd) 1 37 := ⟨by decide +kernel, rfl⟩
theorem rX12_isMirrored_37 : tq_D cX12_isMirrored 37 (.iconst 1) 1 38 := ⟨by decide +kernel, rfl⟩
theorem rX12_isMirrored_38 : tq_D cX12_isMirrored 38 (.isub) 1 39 := ⟨by decide +kernel, rfl⟩
theorem rX12_isMirrored_39 : tq_D cX12_isMirrored 39 (.iload_n 2) 1 40 := ⟨by decide +kernel, rfl⟩
theorem rX12_isMirrored_40 : tq_D cX12_isMirrored 40 (.aload_n 0) 1 41 := ⟨by decide +kernel, rfl⟩
theorem rX12_isMirrored_41 : tq_D cX12_isMirrored 41 (.getfield 148) 3 44 := ⟨by decide +kernel, rfl⟩
theorem rX12_isMirrored_44 : tq_D cX12_isMirrored 44 (.irem) 1 45 := ⟨by decide +kernel, rfl⟩
theorem rX12_isMirrored_45 : tq_D cX12_isMirrored 45 (.isub) 1 46 := ⟨by decide +kernel, rfl⟩
theorem rX12_isMirrored_46 : tq_D cX12_isMirrored 46 (.invokevirtual 193) 3 49 := ⟨by decide +kernel, rfl⟩
theorem rX12_isMirrored_49 : tq_J cX12_isMirrored 49 (.if_icmp .ne) 56 52 := ⟨7, by decide +kernel, by decide, rfl⟩
theorem rX12_isMirrored_52 : tq_D cX12_isMirrored 52 (.iconst 1) 1 53 := ⟨by decide +kernel, rfl⟩
theorem rX12_isMirrored_53 : tq_J cX12_isMirrored 53 .goto 57 56 := ⟨4, by decide +kernel, by decide, rfl⟩
theorem rX12_isMirrored_56 : tq_D cX12_isMirrored 56 (.iconst 0) 1 57 := ⟨by decide +kernel, rfl⟩
theorem rX12_isMirrored_57 : tq_D cX12_isMirrored 57 (.istore_n 1) 1 58 := ⟨by decide +kernel, rfl⟩
theorem rX12_isMirrored_58 : tq_D cX12_isMirrored 58 (.iinc 2 1) 3 61 := ⟨by decide +kernel, rfl⟩
theorem rX12_isMirrored_61 : tq_J cX12_isMirrored 61 .goto 4 64 := ⟨(-57), by decide +kernel, by decide, rfl⟩
theorem rX12_isMirrored_64 : tq_D cX12_isMirrored 64 (.iload_n 1) 1 65 := ⟨by decide +kernel, rfl⟩
theorem rX12_isMirrored_65 : decode cX12_isMirrored 65 = .ok (.ireturn, 1) := by decide +kernel
noncomputable def FX12_isMirrored_j57L4 (I : tq_PI) (L : tq_PL) (a0 : Nat) (a2 : Int32) (b0 : Int32) : Option ((Int32 × Int32) ⊕ (Int32)) :=
  some (.inl (b0, (a2 + 1)))
noncomputable def FX12_isMirrored_j56L4 (I : tq_PI) (L : tq_PL) (a0 : Nat) (a2 : Int32) : Option ((Int32 × Int32) ⊕ (Int32)) :=
  (FX12_isMirrored_j57L4 I L a0 a2 ((0 : Int32)))
noncomputable def FX12_isMirrored_s4 (I : tq_PI) (L : tq_PL) (a0 : Nat) (a1 : Int32) (a2 : Int32) : Option ((Int32 × Int32) ⊕ (Int32)) :=
  (tq_let (FX12_many I L a0) fun p1 => (if p1 ≤ a2 then some (.inr a1) else (if a1 = 0 then (FX12_isMirrored_j56L4 I L a0 a2) else ((FX12_kindOf I L a0 ((0 : Int32)) a2).bind fun p4 => (if ¬ (I a0 13) = 0 then (if ¬ (I a0 13) = 0 then ((FX12_kindOf I L a0 ((0 : Int32)) (((((a2 - (a2 - a2 / (I a0 13) * (I a0 13))) + (I a0 13)) - (1 : Int32)) - (a2 - a2 / (I a0 13) * (I a0 13))))).bind fun p7 => (if p4 = p7 then (FX12_isMirrored_j57L4 I L a0 a2 ((1 : Int32))) else (FX12_isMirrored_j56L4 I L a0 a2))) else none) else none)))))
noncomputable def FX12_isMirrored (I : tq_PI) (L : tq_PL) (a0 : Nat) : Option (Bool) :=
  ((tq_it (fun p : Int32 × Int32 => FX12_isMirrored_s4 I L a0 p.1 p.2) tq_N ((1 : Int32), (0 : Int32))).bind fun p9 => (if p9 = 0 ∨ p9 = 1 then some (decide (p9 = 1)) else none))
set_option maxRecDepth 100000 in
set_option maxHeartbeats 4000000 in
theorem FX12_isMirrored_j57L4_x {S : Nat × (Nat → Int32)} {d : Nat} {I : tq_PI} {L : tq_PL} {a0 : Nat} {a2 : Int32} {b0 : Int32} (h0 : tq_sh0 a0 = 12) {q0 : Option Value → tq_PI → tq_PL → Prop} {out : (Int32 × Int32) ⊕ (Int32)} (hf : FX12_isMirrored_j57L4 I L a0 a2 b0 = some out) (hk : Sum.elim (fun p : Int32 × Int32 => tq_X S mX12_isMirrored (d + 1) tq_k0 4 ([.ref a0, .int p.1, .int p.2]) [] (tq_st I L) (tq_Q q0)) (fun p : Int32 => tq_X S mX12_isMirrored (d + 1) tq_k0 64 ([tq_u, .int p, tq_u]) [] (tq_st I L) (tq_Q q0)) out) : tq_X S mX12_isMirrored (d + 1) tq_k0 57 ([.ref a0, tq_u, .int a2]) ([.int b0]) (tq_st I L) (tq_Q q0) := by
  unfold FX12_isMirrored_j57L4 at hf
  refine tq_istore_n ([.ref a0, .int b0, .int a2]) rX12_isMirrored_57 (Nat.le_of_ble_eq_true rfl) rfl ?_
  refine tq_iinc (a2 + 1) ([.ref a0, .int b0, .int (a2 + 1)]) rX12_isMirrored_58 rfl (tq_inc (by decide)) (Nat.le_of_ble_eq_true rfl) rfl ?_
  refine tq_goto rX12_isMirrored_61 ?_
  have hf := Option.some.inj hf
  subst hf
  exact tq_forget _ (tq_le_s (tq_le_s (tq_le_s tq_le_n))) hk

set_option maxRecDepth 100000 in
set_option maxHeartbeats 4000000 in
theorem FX12_isMirrored_j56L4_x {S : Nat × (Nat → Int32)} {d : Nat} {I : tq_PI} {L : tq_PL} {a0 : Nat} {a2 : Int32} (h0 : tq_sh0 a0 = 12) {q0 : Option Value → tq_PI → tq_PL → Prop} {out : (Int32 × Int32) ⊕ (Int32)} (hf : FX12_isMirrored_j56L4 I L a0 a2 = some out) (hk : Sum.elim (fun p : Int32 × Int32 => tq_X S mX12_isMirrored (d + 1) tq_k0 4 ([.ref a0, .int p.1, .int p.2]) [] (tq_st I L) (tq_Q q0)) (fun p : Int32 => tq_X S mX12_isMirrored (d + 1) tq_k0 64 ([tq_u, .int p, tq_u]) [] (tq_st I L) (tq_Q q0)) out) : tq_X S mX12_isMirrored (d + 1) tq_k0 56 ([.ref a0, tq_u, .int a2]) ([]) (tq_st I L) (tq_Q q0) := by
  unfold FX12_isMirrored_j56L4 at hf
  refine tq_iconst (0 : Int32) rX12_isMirrored_56 (by decide) ?_
  exact tq_forget _ (tq_le_s (tq_le_u (tq_le_s tq_le_n))) (FX12_isMirrored_j57L4_x  h0 hf hk)

set_option maxRecDepth 100000 in
set_option maxHeartbeats 4000000 in
theorem FX12_isMirrored_s4_x {S : Nat × (Nat → Int32)} {d : Nat} {I : tq_PI} {L : tq_PL} {a0 : Nat} {a1 : Int32} {a2 : Int32} (h0 : tq_sh0 a0 = 12) {q0 : Option Value → tq_PI → tq_PL → Prop} {out : (Int32 × Int32) ⊕ (Int32)} (hf : FX12_isMirrored_s4 I L a0 a1 a2 = some out) (hk : Sum.elim (fun p : Int32 × Int32 => tq_X S mX12_isMirrored (d + 1) tq_k0 4 ([.ref a0, .int p.1, .int p.2]) [] (tq_st I L) (tq_Q q0)) (fun p : Int32 => tq_X S mX12_isMirrored (d + 1) tq_k0 64 ([tq_u, .int p, tq_u]) [] (tq_st I L) (tq_Q q0)) out) : tq_X S mX12_isMirrored (d + 1) tq_k0 4 ([.ref a0, .int a1, .int a2]) [] (tq_st I L) (tq_Q q0) := by
  unfold FX12_isMirrored_s4 at hf
  refine tq_iload_n rX12_isMirrored_4 rfl ?_
  refine tq_aload_n rX12_isMirrored_5 rfl ?_
  obtain ⟨p1, e1, hf⟩ := tq_let_elim hf
  refine ty_callVI p1 ([]) ([.int a2]) rX12_isMirrored_6 l_X12_190 moX12_many mvX12_many h0 rfl rfl (Nat.le_of_ble_eq_true rfl) ⟨rfl, rfl⟩ (CX12_many h0 e1) ?_
  refine tq_icmp_ge rX12_isMirrored_9 (fun c2 => ?_) (fun c2 => ?_)
  · rw [if_pos c2] at hf
    have hf := Option.some.inj hf
    subst hf
    exact tq_forget _ (tq_le_u (tq_le_s (tq_le_u tq_le_n))) hk
  · rw [if_neg c2] at hf
    refine tq_iload_n rX12_isMirrored_12 rfl ?_
    refine tq_if_eq rX12_isMirrored_13 (fun c3 => ?_) (fun c3 => ?_)
    · rw [if_pos c3] at hf
      exact tq_forget _ (tq_le_s (tq_le_u (tq_le_s tq_le_n))) (FX12_isMirrored_j56L4_x  h0 hf hk)
    · rw [if_neg c3] at hf
      refine tq_aload_n rX12_isMirrored_16 rfl ?_
      refine tq_iconst (0 : Int32) rX12_isMirrored_17 (by decide) ?_
      refine tq_iload_n rX12_isMirrored_18 rfl ?_
      obtain ⟨p4, e4, hf⟩ := Option.bind_eq_some_iff.mp hf
      refine ty_callVI p4 ([.int (0 : Int32), .int a2]) ([]) rX12_isMirrored_19 l_X12_193 moX12_kindOf mvX12_kindOf h0 rfl rfl (Nat.le_of_ble_eq_true rfl) ⟨rfl, rfl⟩ (CX12_kindOf h0 e4) ?_
      refine tq_aload_n rX12_isMirrored_22 rfl ?_
      refine tq_iconst (0 : Int32) rX12_isMirrored_23 (by decide) ?_
      refine tq_iload_n rX12_isMirrored_24 rfl ?_
      refine tq_iload_n rX12_isMirrored_25 rfl ?_
      refine tq_aload_n rX12_isMirrored_26 rfl ?_
      refine ty_getI rX12_isMirrored_27 f_X12_148 rfl h0 ?_
      obtain ⟨g5, hf⟩ := tq_chk hf
      refine tq_irem rX12_isMirrored_30 g5 ?_
      refine tq_isub rX12_isMirrored_31 ?_
      refine tq_aload_n rX12_isMirrored_32 rfl ?_
      refine ty_getI rX12_isMirrored_33 f_X12_148 rfl h0 ?_
      refine tq_iadd rX12_isMirrored_36 ?_
      refine tq_iconst (1 : Int32) rX12_isMirrored_37 (by decide) ?_
      refine tq_isub rX12_isMirrored_38 ?_
      refine tq_iload_n rX12_isMirrored_39 rfl ?_
      refine tq_aload_n rX12_isMirrored_40 rfl ?_
      refine ty_getI rX12_isMirrored_41 f_X12_148 rfl h0 ?_
      obtain ⟨g6, hf⟩ := tq_chk hf
      refine tq_irem rX12_isMirrored_44 g6 ?_
      refine tq_isub rX12_isMirrored_45 ?_
      obtain ⟨p7, e7, hf⟩ := Option.bind_eq_some_iff.mp hf
      refine ty_callVI p7 ([.int (0 : Int32), .int ((((a2 - (a2 - a2 / (I a0 13) * (I a0 13))) + (I a0 13)) - (1 : Int32)) - (a2 - a2 / (I a0 13) * (I a0 13)))]) ([.int p4]) rX12_isMirrored_46 l_X12_193 moX12_kindOf mvX12_kindOf h0 rfl rfl (Nat.le_of_ble_eq_true rfl) ⟨rfl, rfl⟩ (CX12_kindOf h0 e7) ?_
      refine tq_icmp_ne rX12_isMirrored_49 (fun c8 => ?_) (fun c8 => ?_)
      · rw [if_neg c8] at hf
        exact tq_forget _ (tq_le_s (tq_le_u (tq_le_s tq_le_n))) (FX12_isMirrored_j56L4_x  h0 hf hk)
      · rw [if_pos c8] at hf
        refine tq_iconst (1 : Int32) rX12_isMirrored_52 (by decide) ?_
        refine tq_goto rX12_isMirrored_53 ?_
        exact tq_forget _ (tq_le_s (tq_le_u (tq_le_s tq_le_n))) (FX12_isMirrored_j57L4_x  h0 hf hk)

set_option maxRecDepth 100000 in
set_option maxHeartbeats 4000000 in
theorem CX12_isMirrored {S : Nat × (Nat → Int32)} {d : Nat} {I : tq_PI} {L : tq_PL} {a0 : Nat} (h0 : tq_sh0 a0 = 12) {out : Bool} (hf : FX12_isMirrored I L a0 = some out) : tq_K S mX12_isMirrored (d + 1) [.ref a0] I L (tq_one2 (some (.int (tq_b out))) I L) := by
  unfold FX12_isMirrored at hf
  refine tq_K_of (by decide) (Nat.le_of_ble_eq_true rfl) (ls := [.ref a0, tq_u, tq_u]) rfl ?_
  refine tq_iconst (1 : Int32) rX12_isMirrored_0 (by decide) ?_
  refine tq_istore_n ([.ref a0, .int (1 : Int32), tq_u]) rX12_isMirrored_1 (Nat.le_of_ble_eq_true rfl) rfl ?_
  refine tq_iconst (0 : Int32) rX12_isMirrored_2 (by decide) ?_
  refine tq_istore_n ([.ref a0, .int (1 : Int32), .int (0 : Int32)]) rX12_isMirrored_3 (Nat.le_of_ble_eq_true rfl) rfl ?_
  obtain ⟨p9, e9, hf⟩ := Option.bind_eq_some_iff.mp hf
  refine tq_forget _ (tq_le_s (tq_le_s (tq_le_s tq_le_n))) ?_
  refine tq_it_elim (P := fun p : Int32 × Int32 => tq_X S mX12_isMirrored (d + 1) tq_k0 4 ([.ref a0, .int p.1, .int p.2]) [] (tq_st I L) (tq_Q (tq_one2 (some (.int (tq_b out))) I L))) (R := fun p : Int32 => tq_X S mX12_isMirrored (d + 1) tq_k0 64 ([tq_u, .int p, tq_u]) [] (tq_st I L) (tq_Q (tq_one2 (some (.int (tq_b out))) I L))) (fun p o hp hk => FX12_isMirrored_s4_x  h0 hp hk) _ (((1 : Int32), (0 : Int32))) _ e9 ?_
  show tq_X _ _ _ _ _ _ _ _ _
  refine tq_iload_n rX12_isMirrored_64 rfl ?_
  obtain ⟨g10, hf⟩ := tq_chk hf
  refine ty_zret (ty := .boolean) rX12_isMirrored_65 rfl (tq_fitZ g10).1 rfl ?_
  have hf := Option.some.inj hf
  subst hf
  have e9 : tq_b (decide (p9 = 1)) = p9 := by rcases g10 with g10 | g10 <;> rw [g10] <;> rfl
  exact ⟨by rw [e9], rfl, rfl⟩

abbrev mX12_caves : tq_M := (yX12_caves, cX12_caves, 7, (Option.some Jvm.ClassFile.FieldType.int), 0, 0)
theorem moX12_caveOf : tq_mok mX12_caveOf 1 := ⟨tq_sg1 _ (List.mem_of_getElem? (i := 13) rfl), tq_sg7 _ (List.mem_of_getElem? (i := 147) rfl), ⟨by decide, by decide, by decide +kernel⟩, by decide⟩
theorem mvX12_caveOf : 12 < 13 ∧ (tq_cl 12).1 = mX12_caveOf.1.cls ∧ Cond.instanceMethod mX12_caveOf.1 ∈ lw_tbl ∧ Cond.selects mX12_caveOf.1.cls mX12_caveOf.1 mX12_caveOf.1 ∈ lw_tbl := ⟨by decide, rfl, tq_sg7 _ (List.mem_of_getElem? (i := 146) rfl), List.mem_append_left _ (List.mem_map.mpr ⟨_, List.mem_of_getElem? (i := 71) rfl, rfl⟩)⟩
theorem moX12_isFirst : tq_mok mX12_isFirst 1 := ⟨tq_sg1 _ (List.mem_of_getElem? (i := 13) rfl), tq_sg7 _ (List.mem_of_getElem? (i := 151) rfl), ⟨by decide, by decide, by decide +kernel⟩, by decide⟩
theorem mvX12_isFirst : 12 < 13 ∧ (tq_cl 12).1 = mX12_isFirst.1.cls ∧ Cond.instanceMethod mX12_isFirst.1 ∈ lw_tbl ∧ Cond.selects mX12_isFirst.1.cls mX12_isFirst.1 mX12_isFirst.1 ∈ lw_tbl := ⟨by decide, rfl, tq_sg7 _ (List.mem_of_getElem? (i := 150) rfl), List.mem_append_left _ (List.mem_map.mpr ⟨_, List.mem_of_getElem? (i := 72) rfl, rfl⟩)⟩
theorem moX12_isMirrored : tq_mok mX12_isMirrored 0 := ⟨tq_sg1 _ (List.mem_of_getElem? (i := 13) rfl), tq_sg7 _ (List.mem_of_getElem? (i := 143) rfl), ⟨by decide, by decide, by decide +kernel⟩, by decide⟩
theorem mvX12_isMirrored : 12 < 13 ∧ (tq_cl 12).1 = mX12_isMirrored.1.cls ∧ Cond.instanceMethod mX12_isMirrored.1 ∈ lw_tbl ∧ Cond.selects mX12_isMirrored.1.cls mX12_isMirrored.1 mX12_isMirrored.1 ∈ lw_tbl := ⟨by decide, rfl, tq_sg7 _ (List.mem_of_getElem? (i := 142) rfl), List.mem_append_left _ (List.mem_map.mpr ⟨_, List.mem_of_getElem? (i := 70) rfl, rfl⟩)⟩
theorem moX12_spanOf : tq_mok mX12_spanOf 0 := ⟨tq_sg1 _ (List.mem_of_getElem? (i := 13) rfl), tq_sg7 _ (List.mem_of_getElem? (i := 139) rfl), ⟨by decide, by decide, by decide +kernel⟩, by decide⟩
theorem mvX12_spanOf : 12 < 13 ∧ (tq_cl 12).1 = mX12_spanOf.1.cls ∧ Cond.instanceMethod mX12_spanOf.1 ∈ lw_tbl ∧ Cond.selects mX12_spanOf.1.cls mX12_spanOf.1 mX12_spanOf.1 ∈ lw_tbl := ⟨by decide, rfl, tq_sg7 _ (List.mem_of_getElem? (i := 138) rfl), List.mem_append_left _ (List.mem_map.mpr ⟨_, List.mem_of_getElem? (i := 69) rfl, rfl⟩)⟩
theorem l_X12_239 : tq_lok RX12 239 mX12_spanOf.1 := Or.inl (tq_sg7 _ (List.mem_of_getElem? (i := 136) rfl))
theorem l_X12_242 : tq_lok RX12 242 mX12_isMirrored.1 := Or.inl (tq_sg7 _ (List.mem_of_getElem? (i := 140) rfl))
theorem l_X12_246 : tq_lok RX12 246 mX12_caveOf.1 := Or.inl (tq_sg7 _ (List.mem_of_getElem? (i := 144) rfl))
theorem l_X12_249 : tq_lok RX12 249 mX12_isFirst.1 := Or.inl (tq_sg7 _ (List.mem_of_getElem? (i := 148) rfl))
theorem rX12_caves_0 : tq_D cX12_caves 0 (.aload_n 0) 1 1 := ⟨by decide +kernel, rfl⟩
theorem rX12_caves_1 : tq_D cX12_caves 1 (.iload_n 1) 1 2 := ⟨by decide +kernel, rfl⟩
theorem rX12_caves_2 : tq_D cX12_caves 2 (.invokevirtual 221) 3 5 := ⟨by decide +kernel, rfl⟩
theorem rX12_caves_5 : tq_J cX12_caves 5 (.ifCond .eq) 17 8 := ⟨12, by decide +kernel, by decide, rfl⟩
theorem rX12_caves_8 : tq_D cX12_caves 8 (.iload_n 2) 1 9 := ⟨by decide +kernel, rfl⟩
theorem rX12_caves_9 : tq_D cX12_caves 9 (.iconst 0) 1 10 := ⟨by decide +kernel, rfl⟩
theorem rX12_caves_10 : tq_D cX12_caves 10 (.iconst 3) 1 11 := ⟨by decide +kernel, rfl⟩
theorem rX12_caves_11 : tq_D cX12_caves 11 (.invokestatic 118) 3 14 := ⟨by decide +kernel, rfl⟩
theorem rX12_caves_14 : tq_J cX12_caves 14 (.ifCond .ne) 19 17 := ⟨5, by decide +kernel, by decide, rfl⟩
theorem rX12_caves_17 : tq_D cX12_caves 17 (.iconst (-1)) 1 18 := ⟨by decide +kernel, rfl⟩
theorem rX12_caves_18 : decode cX12_caves 18 = .ok (.ireturn, 1) := by decide +kernel
theorem rX12_caves_19 : tq_D cX12_caves 19 (.aload_n 0) 1 20 := ⟨by decide +kernel, rfl⟩
theorem rX12_caves_20 : tq_D cX12_caves 20 (.invokevirtual 224) 3 23 := ⟨by decide +kernel, rfl⟩
theorem rX12_caves_23 : tq_D cX12_caves 23 (.iload_n 2) 1 24 := ⟨by decide +kernel, rfl⟩
theorem rX12_caves_24 : tq_D cX12_caves 24 (.iconst 1) 1 25 := ⟨by decide +kernel, rfl⟩
theorem rX12_caves_25 : tq_J cX12_caves 25 (.if_icmp .le) 53 28 := ⟨28, by decide +kernel, by decide, rfl⟩
theorem rX12_caves_28 : tq_D cX12_caves 28 (.iload_n 2) 1 29 := ⟨by decide +kernel, rfl⟩
theorem rX12_caves_29 : tq_D cX12_caves 29 (.iconst 2) 1 30 := ⟨by decide +kernel, rfl⟩
theorem rX12_caves_30 : tq_J cX12_caves 30 (.if_icmp .ne) 40 33 := ⟨10, by decide +kernel, by decide, rfl⟩
theorem rX12_caves_33 : tq_D cX12_caves 33 (.aload_n 0) 1 34 := ⟨by decide +kernel, rfl⟩
theorem rX12_caves_34 : tq_D cX12_caves 34 (.invokevirtual 239) 3 37 := ⟨by decide +kernel, rfl⟩
theorem rX12_caves_37 : tq_J cX12_caves 37 .goto 52 40 := ⟨15, by decide +kernel, by decide, rfl⟩
theorem rX12_caves_40 : tq_D cX12_caves 40 (.aload_n 0) 1 41 := ⟨by decide +kernel, rfl⟩
theorem rX12_caves_41 : tq_D cX12_caves 41 (.invokevirtual 242) 3 44 := ⟨by decide +kernel, rfl⟩
theorem rX12_caves_44 : tq_J cX12_caves 44 (.ifCond .eq) 51 47 := ⟨7, by decide +kernel, by decide, rfl⟩
theorem rX12_caves_47 : tq_D cX12_caves 47 (.iconst 1) 1 48 := ⟨by decide +kernel, rfl⟩
theorem rX12_caves_48 : tq_J cX12_caves 48 .goto 52 51 := ⟨4, by decide +kernel, by decide, rfl⟩
theorem rX12_caves_51 : tq_D cX12_caves 51 (.iconst 0) 1 52 := ⟨by decide +kernel, rfl⟩
theorem rX12_caves_52 : decode cX12_caves 52 = .ok (.ireturn, 1) := by decide +kernel
theorem rX12_caves_53 : tq_D cX12_caves 53 (.iconst 0) 1 54 := ⟨by decide +kernel, rfl⟩
theorem rX12_caves_54 : tq_D cX12_caves 54 (.istore_n 3) 1 55 := ⟨by decide +kernel, rfl⟩
theorem rX12_caves_55 : tq_D cX12_caves 55 (.iconst 0) 1 56 := ⟨by decide +kernel, rfl⟩
theorem rX12_caves_56 : tq_D cX12_caves 56 (.istore 4) 2 58 := ⟨by decide +kernel, rfl⟩
theorem rX12_caves_58 : tq_D cX12_caves 58 (.iconst 0) 1 59 := ⟨by decide +kernel, rfl⟩
theorem rX12_caves_59 : tq_D cX12_caves 59 (.istore 5) 2 61 := ⟨by decide +kernel, rfl⟩
theorem rX12_caves_61 : tq_D cX12_caves 61 (.iload 5) 2 63 := ⟨by decide +kernel, rfl⟩
theorem rX12_caves_63 : tq_D cX12_caves 63 (.aload_n 0) 1 64 := ⟨by decide +kernel, rfl⟩
theorem rX12_caves_64 : tq_D cX12_caves 64 (.invokevirtual 190) 3 67 := ⟨by decide +kernel, rfl⟩
theorem rX12_caves_67 : tq_J cX12_caves 67 (.if_icmp .ge) 130 70 := ⟨63, by decide +kernel, by decide, rfl⟩
theorem rX12_caves_70 : tq_D cX12_caves 70 (.aload_n 0) 1 71 := ⟨by decide +kernel, rfl⟩
theorem rX12_caves_71 : tq_D cX12_caves 71 (.iconst 0) 1 72 := ⟨by decide +kernel, rfl⟩
theorem rX12_caves_72 : tq_D cX12_caves 72 (.iload 5) 2 74 := ⟨by decide +kernel, rfl⟩
theorem rX12_caves_74 : tq_D cX12_caves 74 (.invokevirtual 193) 3 77 := ⟨by decide +kernel, rfl⟩
theorem rX12_caves_77 : tq_J cX12_caves 77 (.ifCond .eq) 83 80 := ⟨6, by decide +kernel, by decide, rfl⟩
theorem rX12_caves_80 : tq_J cX12_caves 80 .goto 124 83 := ⟨44, by decide +kernel, by decide, rfl⟩
theorem rX12_caves_83 : tq_D cX12_caves 83 (.aload_n 0) 1 84 := ⟨by decide +kernel, rfl⟩
theorem rX12_caves_84 : tq_D cX12_caves 84 (.iload 5) 2 86 := ⟨by decide +kernel, rfl⟩
theorem rX12_caves_86 : tq_D cX12_caves 86 (.invokevirtual 246) 3 89 := ⟨by decide +kernel, rfl⟩
theorem rX12_caves_89 : tq_D cX12_caves 89 (.istore 6) 2 91 := ⟨by decide +kernel, rfl⟩
theorem rX12_caves_91 : tq_D cX12_caves 91 (.iload_n 3) 1 92 := ⟨by decide +kernel, rfl⟩
theorem rX12_caves_92 : tq_D cX12_caves 92 (.aload_n 0) 1 93 := ⟨by decide +kernel, rfl⟩
theorem rX12_caves_93 : tq_D cX12_caves 93 (.iload 5) 2 95 := ⟨by decide +kernel, rfl⟩
theorem rX12_caves_95 : tq_D cX12_caves 95 (.invokevirtual 249) 3 98 := ⟨by decide +kernel, rfl⟩
theorem rX12_caves_98 : tq_J cX12_caves 98 (.ifCond .eq) 105 101 := ⟨7, by decide +kernel, by decide, rfl⟩
theorem rX12_caves_101 : tq_D cX12_caves 101 (.iconst 1) 1 102 := ⟨by decide +kernel, rfl⟩
theorem rX12_caves_102 : tq_J cX12_caves 102 .goto 106 105 := ⟨4, by decide +kernel, by decide, rfl⟩
theorem rX12_caves_105 : tq_D cX12_caves 105 (.iconst 0) 1 106 := ⟨by decide +kernel, rfl⟩
theorem rX12_caves_106 : tq_D cX12_caves 106 (.iadd) 1 107 := ⟨by decide +kernel, rfl⟩
theorem rX12_caves_107 : tq_D cX12_caves 107 (.istore_n 3) 1 108 := ⟨by decide +kernel, rfl⟩
theorem rX12_caves_108 : tq_D cX12_caves 108 (.iload 6) 2 110 := ⟨by decide +kernel, rfl⟩
theorem rX12_caves_110 : tq_D cX12_caves 110 (.iload 4) 2 112 := ⟨by decide +kernel, rfl⟩
theorem rX12_caves_112 : tq_J cX12_caves 112 (.if_icmp .le) 120 115 := ⟨8, by decide +kernel, by decide, rfl⟩
theorem rX12_caves_115 : tq_D cX12_caves 115 (.iload 6) 2 117 := ⟨by decide +kernel, rfl⟩
theorem rX12_caves_117 : tq_J cX12_caves 117 .goto 122 120 := ⟨5, by decide +kernel, by decide, rfl⟩
theorem rX12_caves_120 : tq_D cX12_caves 120 (.iload 4) 2 122 := ⟨by decide +kernel, rfl⟩
theorem rX12_caves_122 : tq_D cX12_caves 122 (.istore 4) 2 124 := ⟨by decide +kernel, rfl⟩
theorem rX12_caves_124 : tq_D cX12_caves 124 (.iinc 5 1) 3 127 := ⟨by decide +kernel, rfl⟩
theorem rX12_caves_127 : tq_J cX12_caves 127 .goto 61 130 := ⟨(-66), by decide +kernel, by decide, rfl⟩
theorem rX12_caves_130 : tq_D cX12_caves 130 (.iload_n 2) 1 131 := ⟨by decide +kernel, rfl⟩
theorem rX12_caves_131 : tq_J cX12_caves 131 (.ifCond .ne) 138 134 := ⟨7, by decide +kernel, by decide, rfl⟩
theorem rX12_caves_134 : tq_D cX12_caves 134 (.iload_n 3) 1 135 := ⟨by decide +kernel, rfl⟩
theorem rX12_caves_135 : tq_J cX12_caves 135 .goto 140 138 := ⟨5, by decide +kernel, by decide, rfl⟩
theorem rX12_caves_138 : tq_D cX12_caves 138 (.iload 4) 2 140 := ⟨by decide +kernel, rfl⟩
theorem rX12_caves_140 : decode cX12_caves 140 = .ok (.ireturn, 1) := by decide +kernel
noncomputable def FX12_caves_j17 (I : tq_PI) (L : tq_PL)  : Option (Int32 × tq_PI) :=
  some ((-1 : Int32), I)
noncomputable def FX12_caves_j124L61 (I : tq_PI) (L : tq_PL) (a0 : Nat) (a2 : Int32) (a3 : Int32) (a4 : Int32) (a5 : Int32) : Option ((Int32 × Int32 × Int32 × tq_PI) ⊕ (Int32 × Int32 × tq_PI)) :=
  some (.inl (a3, a4, (a5 + 1), I))
noncomputable def FX12_caves_j122L61 (I : tq_PI) (L : tq_PL) (a0 : Nat) (a2 : Int32) (a3 : Int32) (a5 : Int32) (b0 : Int32) : Option ((Int32 × Int32 × Int32 × tq_PI) ⊕ (Int32 × Int32 × tq_PI)) :=
  (FX12_caves_j124L61 I L a0 a2 a3 b0 a5)
noncomputable def FX12_caves_j106L61 (I : tq_PI) (L : tq_PL) (a0 : Nat) (a2 : Int32) (a4 : Int32) (a5 : Int32) (a6 : Int32) (b0 : Int32) (b1 : Int32) : Option ((Int32 × Int32 × Int32 × tq_PI) ⊕ (Int32 × Int32 × tq_PI)) :=
  (if a6 ≤ a4 then (FX12_caves_j122L61 I L a0 a2 ((b1 + b0)) a5 a4) else (FX12_caves_j122L61 I L a0 a2 ((b1 + b0)) a5 a6))
noncomputable def FX12_caves_s61 (I : tq_PI) (L : tq_PL) (a0 : Nat) (a2 : Int32) (a3 : Int32) (a4 : Int32) (a5 : Int32) : Option ((Int32 × Int32 × Int32 × tq_PI) ⊕ (Int32 × Int32 × tq_PI)) :=
  (tq_let (FX12_many I L a0) fun p7 => (if p7 ≤ a5 then some (.inr (a3, a4, I)) else ((FX12_kindOf I L a0 ((0 : Int32)) a5).bind fun p9 => (if p9 = 0 then ((FX12_caveOf I L a0 a5).bind fun p11 => ((FX12_isFirst p11.2 L a0 a5).bind fun p12 => (if (tq_b p12) = 0 then (FX12_caves_j106L61 p11.2 L a0 a2 a4 a5 p11.1 ((0 : Int32)) a3) else (FX12_caves_j106L61 p11.2 L a0 a2 a4 a5 p11.1 ((1 : Int32)) a3)))) else (FX12_caves_j124L61 I L a0 a2 a3 a4 a5)))))
noncomputable def FX12_caves (I : tq_PI) (L : tq_PL) (a0 : Nat) (a1 : Int32) (a2 : Int32) : Option (Int32 × tq_PI) :=
  ((FX12_isHill I L a0 a1).bind fun p1 => (if (tq_b p1.1) = 0 then (FX12_caves_j17 p1.2 L ) else (tq_let (FX12_isIn p1.2 L a2 ((0 : Int32)) ((3 : Int32))) fun p3 => (if (tq_b p3) = 0 then (FX12_caves_j17 p1.2 L ) else ((FX12_asTold p1.2 L a0).bind fun p5 => (if a2 ≤ (1 : Int32) then ((tq_it (fun p : Int32 × Int32 × Int32 × tq_PI => FX12_caves_s61 p.2.2.2 L a0 a2 p.1 p.2.1 p.2.2.1) tq_N ((0 : Int32), (0 : Int32), (0 : Int32), p5)).bind fun p15 => (if a2 = 0 then some (p15.1, p15.2.2) else some (p15.2.1, p15.2.2))) else (if a2 = (2 : Int32) then ((FX12_spanOf p5 L a0).bind fun p20 => some (p20, p5)) else ((FX12_isMirrored p5 L a0).bind fun p18 => (if (tq_b p18) = 0 then some ((0 : Int32), p5) else some ((1 : Int32), p5))))))))))
set_option maxRecDepth 100000 in
set_option maxHeartbeats 4000000 in
theorem FX12_caves_j17_x {S : Nat × (Nat → Int32)} {d : Nat} {I : tq_PI} {L : tq_PL}   {q0 : Option Value → tq_PI → tq_PL → Prop} {out : Int32 × tq_PI} (hf : FX12_caves_j17 I L = some out) (hk : q0 (some (.int out.1)) out.2 L) : tq_X S mX12_caves (d + 3) tq_k0 17 ([tq_u, tq_u, tq_u, tq_u, tq_u, tq_u, tq_u]) ([]) (tq_st I L) (tq_Q q0) := by
  unfold FX12_caves_j17 at hf
  refine tq_iconst (-1 : Int32) rX12_caves_17 (by decide) ?_
  refine ty_iret rX12_caves_18 rfl rfl ?_
  have hf := Option.some.inj hf
  subst hf
  exact hk

set_option maxRecDepth 100000 in
set_option maxHeartbeats 4000000 in
theorem FX12_caves_j124L61_x {S : Nat × (Nat → Int32)} {d : Nat} {I : tq_PI} {L : tq_PL} {a0 : Nat} {a2 : Int32} {a3 : Int32} {a4 : Int32} {a5 : Int32} (h0 : tq_sh0 a0 = 12) {q0 : Option Value → tq_PI → tq_PL → Prop} {out : (Int32 × Int32 × Int32 × tq_PI) ⊕ (Int32 × Int32 × tq_PI)} (hf : FX12_caves_j124L61 I L a0 a2 a3 a4 a5 = some out) (hk : Sum.elim (fun p : Int32 × Int32 × Int32 × tq_PI => tq_X S mX12_caves (d + 3) tq_k0 61 ([.ref a0, tq_u, .int a2, .int p.1, .int p.2.1, .int p.2.2.1, tq_u]) [] (tq_st p.2.2.2 L) (tq_Q q0)) (fun p : Int32 × Int32 × tq_PI => tq_X S mX12_caves (d + 3) tq_k0 130 ([tq_u, tq_u, .int a2, .int p.1, .int p.2.1, tq_u, tq_u]) [] (tq_st p.2.2 L) (tq_Q q0)) out) : tq_X S mX12_caves (d + 3) tq_k0 124 ([.ref a0, tq_u, .int a2, .int a3, .int a4, .int a5, tq_u]) ([]) (tq_st I L) (tq_Q q0) := by
  unfold FX12_caves_j124L61 at hf
  refine tq_iinc (a5 + 1) ([.ref a0, tq_u, .int a2, .int a3, .int a4, .int (a5 + 1), tq_u]) rX12_caves_124 rfl (tq_inc (by decide)) (Nat.le_of_ble_eq_true rfl) rfl ?_
  refine tq_goto rX12_caves_127 ?_
  have hf := Option.some.inj hf
  subst hf
  exact tq_forget _ (tq_le_s (tq_le_u (tq_le_s (tq_le_s (tq_le_s (tq_le_s (tq_le_u tq_le_n))))))) hk

set_option maxRecDepth 100000 in
set_option maxHeartbeats 4000000 in
theorem FX12_caves_j122L61_x {S : Nat × (Nat → Int32)} {d : Nat} {I : tq_PI} {L : tq_PL} {a0 : Nat} {a2 : Int32} {a3 : Int32} {a5 : Int32} {b0 : Int32} (h0 : tq_sh0 a0 = 12) {q0 : Option Value → tq_PI → tq_PL → Prop} {out : (Int32 × Int32 × Int32 × tq_PI) ⊕ (Int32 × Int32 × tq_PI)} (hf : FX12_caves_j122L61 I L a0 a2 a3 a5 b0 = some out) (hk : Sum.elim (fun p : Int32 × Int32 × Int32 × tq_PI => tq_X S mX12_caves (d + 3) tq_k0 61 ([.ref a0, tq_u, .int a2, .int p.1, .int p.2.1, .int p.2.2.1, tq_u]) [] (tq_st p.2.2.2 L) (tq_Q q0)) (fun p : Int32 × Int32 × tq_PI => tq_X S mX12_caves (d + 3) tq_k0 130 ([tq_u, tq_u, .int a2, .int p.1, .int p.2.1, tq_u, tq_u]) [] (tq_st p.2.2 L) (tq_Q q0)) out) : tq_X S mX12_caves (d + 3) tq_k0 122 ([.ref a0, tq_u, .int a2, .int a3, tq_u, .int a5, tq_u]) ([.int b0]) (tq_st I L) (tq_Q q0) := by
  unfold FX12_caves_j122L61 at hf
  refine tq_istore ([.ref a0, tq_u, .int a2, .int a3, .int b0, .int a5, tq_u]) rX12_caves_122 (Nat.le_of_ble_eq_true rfl) rfl ?_
  exact tq_forget _ (tq_le_s (tq_le_u (tq_le_s (tq_le_s (tq_le_s (tq_le_s (tq_le_u tq_le_n))))))) (FX12_caves_j124L61_x  h0 hf hk)

set_option maxRecDepth 100000 in
set_option maxHeartbeats 4000000 in
theorem FX12_caves_j106L61_x {S : Nat × (Nat → Int32)} {d : Nat} {I : tq_PI} {L : tq_PL} {a0 : Nat} {a2 : Int32} {a4 : Int32} {a5 : Int32} {a6 : Int32} {b0 : Int32} {b1 : Int32} (h0 : tq_sh0 a0 = 12) {q0 : Option Value → tq_PI → tq_PL → Prop} {out : (Int32 × Int32 × Int32 × tq_PI) ⊕ (Int32 × Int32 × tq_PI)} (hf : FX12_caves_j106L61 I L a0 a2 a4 a5 a6 b0 b1 = some out) (hk : Sum.elim (fun p : Int32 × Int32 × Int32 × tq_PI => tq_X S mX12_caves (d + 3) tq_k0 61 ([.ref a0, tq_u, .int a2, .int p.1, .int p.2.1, .int p.2.2.1, tq_u]) [] (tq_st p.2.2.2 L) (tq_Q q0)) (fun p : Int32 × Int32 × tq_PI => tq_X S mX12_caves (d + 3) tq_k0 130 ([tq_u, tq_u, .int a2, .int p.1, .int p.2.1, tq_u, tq_u]) [] (tq_st p.2.2 L) (tq_Q q0)) out) : tq_X S mX12_caves (d + 3) tq_k0 106 ([.ref a0, tq_u, .int a2, tq_u, .int a4, .int a5, .int a6]) ([.int b0, .int b1]) (tq_st I L) (tq_Q q0) := by
  unfold FX12_caves_j106L61 at hf
  refine tq_iadd rX12_caves_106 ?_
  refine tq_istore_n ([.ref a0, tq_u, .int a2, .int (b1 + b0), .int a4, .int a5, .int a6]) rX12_caves_107 (Nat.le_of_ble_eq_true rfl) rfl ?_
  refine tq_iload rX12_caves_108 rfl ?_
  refine tq_iload rX12_caves_110 rfl ?_
  refine tq_icmp_le rX12_caves_112 (fun c14 => ?_) (fun c14 => ?_)
  · rw [if_pos c14] at hf
    refine tq_iload rX12_caves_120 rfl ?_
    exact tq_forget _ (tq_le_s (tq_le_u (tq_le_s (tq_le_s (tq_le_u (tq_le_s (tq_le_u tq_le_n))))))) (FX12_caves_j122L61_x  h0 hf hk)
  · rw [if_neg c14] at hf
    refine tq_iload rX12_caves_115 rfl ?_
    refine tq_goto rX12_caves_117 ?_
    exact tq_forget _ (tq_le_s (tq_le_u (tq_le_s (tq_le_s (tq_le_u (tq_le_s (tq_le_u tq_le_n))))))) (FX12_caves_j122L61_x  h0 hf hk)

set_option maxRecDepth 100000 in
set_option maxHeartbeats 4000000 in
theorem FX12_caves_s61_x {S : Nat × (Nat → Int32)} {d : Nat} {I : tq_PI} {L : tq_PL} {a0 : Nat} {a2 : Int32} {a3 : Int32} {a4 : Int32} {a5 : Int32} (h0 : tq_sh0 a0 = 12) {q0 : Option Value → tq_PI → tq_PL → Prop} {out : (Int32 × Int32 × Int32 × tq_PI) ⊕ (Int32 × Int32 × tq_PI)} (hf : FX12_caves_s61 I L a0 a2 a3 a4 a5 = some out) (hk : Sum.elim (fun p : Int32 × Int32 × Int32 × tq_PI => tq_X S mX12_caves (d + 3) tq_k0 61 ([.ref a0, tq_u, .int a2, .int p.1, .int p.2.1, .int p.2.2.1, tq_u]) [] (tq_st p.2.2.2 L) (tq_Q q0)) (fun p : Int32 × Int32 × tq_PI => tq_X S mX12_caves (d + 3) tq_k0 130 ([tq_u, tq_u, .int a2, .int p.1, .int p.2.1, tq_u, tq_u]) [] (tq_st p.2.2 L) (tq_Q q0)) out) : tq_X S mX12_caves (d + 3) tq_k0 61 ([.ref a0, tq_u, .int a2, .int a3, .int a4, .int a5, tq_u]) [] (tq_st I L) (tq_Q q0) := by
  unfold FX12_caves_s61 at hf
  refine tq_iload rX12_caves_61 rfl ?_
  refine tq_aload_n rX12_caves_63 rfl ?_
  obtain ⟨p7, e7, hf⟩ := tq_let_elim hf
  refine ty_callVI p7 ([]) ([.int a5]) rX12_caves_64 l_X12_190 moX12_many mvX12_many h0 rfl rfl (Nat.le_of_ble_eq_true rfl) ⟨rfl, rfl⟩ (CX12_many h0 e7) ?_
  refine tq_icmp_ge rX12_caves_67 (fun c8 => ?_) (fun c8 => ?_)
  · rw [if_pos c8] at hf
    have hf := Option.some.inj hf
    subst hf
    exact tq_forget _ (tq_le_u (tq_le_u (tq_le_s (tq_le_s (tq_le_s (tq_le_u (tq_le_u tq_le_n))))))) hk
  · rw [if_neg c8] at hf
    refine tq_aload_n rX12_caves_70 rfl ?_
    refine tq_iconst (0 : Int32) rX12_caves_71 (by decide) ?_
    refine tq_iload rX12_caves_72 rfl ?_
    obtain ⟨p9, e9, hf⟩ := Option.bind_eq_some_iff.mp hf
    refine ty_callVI p9 ([.int (0 : Int32), .int a5]) ([]) rX12_caves_74 l_X12_193 moX12_kindOf mvX12_kindOf h0 rfl rfl (Nat.le_of_ble_eq_true rfl) ⟨rfl, rfl⟩ (CX12_kindOf h0 e9) ?_
    refine tq_if_eq rX12_caves_77 (fun c10 => ?_) (fun c10 => ?_)
    · rw [if_pos c10] at hf
      refine tq_aload_n rX12_caves_83 rfl ?_
      refine tq_iload rX12_caves_84 rfl ?_
      obtain ⟨p11, e11, hf⟩ := Option.bind_eq_some_iff.mp hf
      refine ty_callVI p11.1 ([.int a5]) ([]) rX12_caves_86 l_X12_246 moX12_caveOf mvX12_caveOf h0 rfl rfl (Nat.le_of_ble_eq_true rfl) ⟨rfl, rfl⟩ (CX12_caveOf h0 e11) ?_
      refine tq_istore ([.ref a0, tq_u, .int a2, .int a3, .int a4, .int a5, .int p11.1]) rX12_caves_89 (Nat.le_of_ble_eq_true rfl) rfl ?_
      refine tq_iload_n rX12_caves_91 rfl ?_
      refine tq_aload_n rX12_caves_92 rfl ?_
      refine tq_iload rX12_caves_93 rfl ?_
      obtain ⟨p12, e12, hf⟩ := Option.bind_eq_some_iff.mp hf
      refine ty_callVI (tq_b p12) ([.int a5]) ([.int a3]) rX12_caves_95 l_X12_249 moX12_isFirst mvX12_isFirst h0 rfl rfl (Nat.le_of_ble_eq_true rfl) ⟨rfl, rfl⟩ (CX12_isFirst h0 e12) ?_
      refine tq_if_eq rX12_caves_98 (fun c13 => ?_) (fun c13 => ?_)
      · rw [if_pos c13] at hf
        refine tq_iconst (0 : Int32) rX12_caves_105 (by decide) ?_
        exact tq_forget _ (tq_le_s (tq_le_u (tq_le_s (tq_le_u (tq_le_s (tq_le_s (tq_le_s tq_le_n))))))) (FX12_caves_j106L61_x  h0 hf hk)
      · rw [if_neg c13] at hf
        refine tq_iconst (1 : Int32) rX12_caves_101 (by decide) ?_
        refine tq_goto rX12_caves_102 ?_
        exact tq_forget _ (tq_le_s (tq_le_u (tq_le_s (tq_le_u (tq_le_s (tq_le_s (tq_le_s tq_le_n))))))) (FX12_caves_j106L61_x  h0 hf hk)
    · rw [if_neg c10] at hf
      refine tq_goto rX12_caves_80 ?_
      exact tq_forget _ (tq_le_s (tq_le_u (tq_le_s (tq_le_s (tq_le_s (tq_le_s (tq_le_u tq_le_n))))))) (FX12_caves_j124L61_x  h0 hf hk)

set_option maxRecDepth 100000 in
set_option maxHeartbeats 4000000 in
theorem CX12_caves {S : Nat × (Nat → Int32)} {d : Nat} {I : tq_PI} {L : tq_PL} {a0 : Nat} {a1 : Int32} {a2 : Int32} (h0 : tq_sh0 a0 = 12) {out : Int32 × tq_PI} (hf : FX12_caves I L a0 a1 a2 = some out) : tq_K S mX12_caves (d + 3) [.ref a0, .int a1, .int a2] I L (tq_one2 (some (.int out.1)) out.2 L) := by
  unfold FX12_caves at hf
  refine tq_K_of (by decide) (Nat.le_of_ble_eq_true rfl) (ls := [.ref a0, .int a1, .int a2, tq_u, tq_u, tq_u, tq_u]) rfl ?_
  refine tq_aload_n rX12_caves_0 rfl ?_
  refine tq_iload_n rX12_caves_1 rfl ?_
  obtain ⟨p1, e1, hf⟩ := Option.bind_eq_some_iff.mp hf
  refine ty_callVI (tq_b p1.1) ([.int a1]) ([]) rX12_caves_2 l_X12_221 moX12_isHill mvX12_isHill h0 rfl rfl (Nat.le_of_ble_eq_true rfl) ⟨rfl, rfl⟩ (CX12_isHill h0 e1) ?_
  refine tq_if_eq rX12_caves_5 (fun c2 => ?_) (fun c2 => ?_)
  · rw [if_pos c2] at hf
    exact tq_forget _ (tq_le_u (tq_le_u (tq_le_u (tq_le_u (tq_le_u (tq_le_u (tq_le_u tq_le_n))))))) (FX12_caves_j17_x   hf ⟨rfl, rfl, rfl⟩)
  · rw [if_neg c2] at hf
    refine tq_iload_n rX12_caves_8 rfl ?_
    refine tq_iconst (0 : Int32) rX12_caves_9 (by decide) ?_
    refine tq_iconst (3 : Int32) rX12_caves_10 (by decide) ?_
    obtain ⟨p3, e3, hf⟩ := tq_let_elim hf
    refine ty_callSI (tq_b p3) ([.int a2, .int (0 : Int32), .int (3 : Int32)]) ([]) rX12_caves_11 l_X12_118 moX12_isIn msX12_isIn rfl rfl (Nat.le_of_ble_eq_true rfl) ⟨rfl, rfl⟩ (CX12_isIn  e3) ?_
    refine tq_if_ne rX12_caves_14 (fun c4 => ?_) (fun c4 => ?_)
    · rw [if_neg c4] at hf
      refine tq_aload_n rX12_caves_19 rfl ?_
      obtain ⟨p5, e5, hf⟩ := Option.bind_eq_some_iff.mp hf
      refine ty_callVV ([]) ([]) rX12_caves_20 l_X12_224 moX12_asTold mvX12_asTold h0 rfl rfl (Nat.le_of_ble_eq_true rfl) ⟨rfl, rfl⟩ (CX12_asTold h0 e5) ?_
      refine tq_iload_n rX12_caves_23 rfl ?_
      refine tq_iconst (1 : Int32) rX12_caves_24 (by decide) ?_
      refine tq_icmp_le rX12_caves_25 (fun c6 => ?_) (fun c6 => ?_)
      · rw [if_pos c6] at hf
        refine tq_iconst (0 : Int32) rX12_caves_53 (by decide) ?_
        refine tq_istore_n ([.ref a0, .int a1, .int a2, .int (0 : Int32), tq_u, tq_u, tq_u]) rX12_caves_54 (Nat.le_of_ble_eq_true rfl) rfl ?_
        refine tq_iconst (0 : Int32) rX12_caves_55 (by decide) ?_
        refine tq_istore ([.ref a0, .int a1, .int a2, .int (0 : Int32), .int (0 : Int32), tq_u, tq_u]) rX12_caves_56 (Nat.le_of_ble_eq_true rfl) rfl ?_
        refine tq_iconst (0 : Int32) rX12_caves_58 (by decide) ?_
        refine tq_istore ([.ref a0, .int a1, .int a2, .int (0 : Int32), .int (0 : Int32), .int (0 : Int32), tq_u]) rX12_caves_59 (Nat.le_of_ble_eq_true rfl) rfl ?_
        obtain ⟨p15, e15, hf⟩ := Option.bind_eq_some_iff.mp hf
        refine tq_forget _ (tq_le_s (tq_le_u (tq_le_s (tq_le_s (tq_le_s (tq_le_s (tq_le_u tq_le_n))))))) ?_
        refine tq_it_elim (P := fun p : Int32 × Int32 × Int32 × tq_PI => tq_X S mX12_caves (d + 3) tq_k0 61 ([.ref a0, tq_u, .int a2, .int p.1, .int p.2.1, .int p.2.2.1, tq_u]) [] (tq_st p.2.2.2 L) (tq_Q (tq_one2 (some (.int out.1)) out.2 L))) (R := fun p : Int32 × Int32 × tq_PI => tq_X S mX12_caves (d + 3) tq_k0 130 ([tq_u, tq_u, .int a2, .int p.1, .int p.2.1, tq_u, tq_u]) [] (tq_st p.2.2 L) (tq_Q (tq_one2 (some (.int out.1)) out.2 L))) (fun p o hp hk => FX12_caves_s61_x  h0 hp hk) _ (((0 : Int32), (0 : Int32), (0 : Int32), p5)) _ e15 ?_
        show tq_X _ _ _ _ _ _ _ _ _
        refine tq_iload_n rX12_caves_130 rfl ?_
        refine tq_if_ne rX12_caves_131 (fun c16 => ?_) (fun c16 => ?_)
        · rw [if_neg c16] at hf
          refine tq_iload rX12_caves_138 rfl ?_
          refine ty_iret rX12_caves_140 rfl rfl ?_
          have hf := Option.some.inj hf
          subst hf
          exact ⟨rfl, rfl, rfl⟩
        · rw [if_pos c16] at hf
          refine tq_iload_n rX12_caves_134 rfl ?_
          refine tq_goto rX12_caves_135 ?_
          refine ty_iret rX12_caves_140 rfl rfl ?_
          have hf := Option.some.inj hf
          subst hf
          exact ⟨rfl, rfl, rfl⟩
      · rw [if_neg c6] at hf
        refine tq_iload_n rX12_caves_28 rfl ?_
        refine tq_iconst (2 : Int32) rX12_caves_29 (by decide) ?_
        refine tq_icmp_ne rX12_caves_30 (fun c17 => ?_) (fun c17 => ?_)
        · rw [if_neg c17] at hf
          refine tq_aload_n rX12_caves_40 rfl ?_
          obtain ⟨p18, e18, hf⟩ := Option.bind_eq_some_iff.mp hf
          refine ty_callVI (tq_b p18) ([]) ([]) rX12_caves_41 l_X12_242 moX12_isMirrored mvX12_isMirrored h0 rfl rfl (Nat.le_of_ble_eq_true rfl) ⟨rfl, rfl⟩ (CX12_isMirrored h0 e18) ?_
          refine tq_if_eq rX12_caves_44 (fun c19 => ?_) (fun c19 => ?_)
          · rw [if_pos c19] at hf
            refine tq_iconst (0 : Int32) rX12_caves_51 (by decide) ?_
            refine ty_iret rX12_caves_52 rfl rfl ?_
            have hf := Option.some.inj hf
            subst hf
            exact ⟨rfl, rfl, rfl⟩
          · rw [if_neg c19] at hf
            refine tq_iconst (1 : Int32) rX12_caves_47 (by decide) ?_
            refine tq_goto rX12_caves_48 ?_
            refine ty_iret rX12_caves_52 rfl rfl ?_
            have hf := Option.some.inj hf
            subst hf
            exact ⟨rfl, rfl, rfl⟩
        · rw [if_pos c17] at hf
          refine tq_aload_n rX12_caves_33 rfl ?_
          obtain ⟨p20, e20, hf⟩ := Option.bind_eq_some_iff.mp hf
          refine ty_callVI p20 ([]) ([]) rX12_caves_34 l_X12_239 moX12_spanOf mvX12_spanOf h0 rfl rfl (Nat.le_of_ble_eq_true rfl) ⟨rfl, rfl⟩ (CX12_spanOf h0 e20) ?_
          refine tq_goto rX12_caves_37 ?_
          refine ty_iret rX12_caves_52 rfl rfl ?_
          have hf := Option.some.inj hf
          subst hf
          exact ⟨rfl, rfl, rfl⟩
    · rw [if_pos c4] at hf
      exact tq_forget _ (tq_le_u (tq_le_u (tq_le_u (tq_le_u (tq_le_u (tq_le_u (tq_le_u tq_le_n))))))) (FX12_caves_j17_x   hf ⟨rfl, rfl, rfl⟩)

