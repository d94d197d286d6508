/-! THE MIRROR, part 10: by program (wip/whole/gen_mirror.py). -/
abbrev mX12_streak : tq_M := (yX12_streak, cX12_streak, 7, (Option.some Jvm.ClassFile.FieldType.int), 0, 0)
theorem rX12_streak_0 : tq_D cX12_streak 0 (.aload_n 0) 1 1 := ⟨by decide +kernel, rfl⟩
theorem rX12_streak_1 : tq_D cX12_streak 1 (.iload_n 1) 1 2 := ⟨by decide +kernel, rfl⟩
theorem rX12_streak_2 : tq_D cX12_streak 2 (.invokevirtual 221) 3 5 := ⟨by decide +kernel, rfl⟩
theorem rX12_streak_5 : tq_J cX12_streak 5 (.ifCond .eq) 15 8 := ⟨10, by decide +kernel, by decide, rfl⟩
theorem rX12_streak_8 : tq_D cX12_streak 8 (.iload_n 2) 1 9 := ⟨by decide +kernel, rfl⟩
theorem rX12_streak_9 : tq_D cX12_streak 9 (.invokestatic 227) 3 12 := ⟨by decide +kernel, rfl⟩
theorem rX12_streak_12 : tq_J cX12_streak 12 (.ifCond .ne) 17 15 := ⟨5, by decide +kernel, by decide, rfl⟩
theorem rX12_streak_15 : tq_D cX12_streak 15 (.iconst (-1)) 1 16 := ⟨by decide +kernel, rfl⟩
theorem rX12_streak_16 : decode cX12_streak 16 = .ok (.ireturn, 1) := by decide +kernel
theorem rX12_streak_17 : tq_D cX12_streak 17 (.aload_n 0) 1 18 := ⟨by decide +kernel, rfl⟩
theorem rX12_streak_18 : tq_D cX12_streak 18 (.invokevirtual 224) 3 21 := ⟨by decide +kernel, rfl⟩
theorem rX12_streak_21 : tq_D cX12_streak 21 (.aload_n 0) 1 22 := ⟨by decide +kernel, rfl⟩
theorem rX12_streak_22 : tq_D cX12_streak 22 (.iconst 0) 1 23 := ⟨by decide +kernel, rfl⟩
theorem rX12_streak_23 : tq_D cX12_streak 23 (.iload_n 2) 1 24 := ⟨by decide +kernel, rfl⟩
theorem rX12_streak_24 : tq_D cX12_streak 24 (.invokevirtual 274) 3 27 := ⟨by decide +kernel, rfl⟩
theorem rX12_streak_27 : tq_D cX12_streak 27 (.iconst 0) 1 28 := ⟨by decide +kernel, rfl⟩
theorem rX12_streak_28 : tq_D cX12_streak 28 (.istore_n 3) 1 29 := ⟨by decide +kernel, rfl⟩
theorem rX12_streak_29 : tq_D cX12_streak 29 (.iconst 0) 1 30 := ⟨by decide +kernel, rfl⟩
theorem rX12_streak_30 : tq_D cX12_streak 30 (.istore 4) 2 32 := ⟨by decide +kernel, rfl⟩
theorem rX12_streak_32 : tq_D cX12_streak 32 (.iconst 0) 1 33 := ⟨by decide +kernel, rfl⟩
theorem rX12_streak_33 : tq_D cX12_streak 33 (.istore 5) 2 35 := ⟨by decide +kernel, rfl⟩
theorem rX12_streak_35 : tq_D cX12_streak 35 (.iload 5) 2 37 := ⟨by decide +kernel, rfl⟩
theorem rX12_streak_37 : tq_D cX12_streak 37 (.aload_n 0) 1 38 := ⟨by decide +kernel, rfl⟩
theorem rX12_streak_38 : tq_D cX12_streak 38 (.invokevirtual 190) 3 41 := ⟨by decide +kernel, rfl⟩
theorem rX12_streak_41 : tq_J cX12_streak 41 (.if_icmp .ge) 120 44 := ⟨79, by decide +kernel, by decide, rfl⟩
theorem rX12_streak_44 : tq_D cX12_streak 44 (.aload_n 0) 1 45 := ⟨by decide +kernel, rfl⟩
theorem rX12_streak_45 : tq_D cX12_streak 45 (.iconst 0) 1 46 := ⟨by decide +kernel, rfl⟩
theorem rX12_streak_46 : tq_D cX12_streak 46 (.iload_n 2) 1 47 := ⟨by decide +kernel, rfl⟩
theorem rX12_streak_47 : tq_D cX12_streak 47 (.iload 5) 2 49 := ⟨by decide +kernel, rfl⟩
theorem rX12_streak_49 : tq_D cX12_streak 49 (.invokevirtual 277) 3 52 := ⟨by decide +kernel, rfl⟩
theorem rX12_streak_52 : tq_J cX12_streak 52 (.ifCond .eq) 69 55 := ⟨17, by decide +kernel, by decide, rfl⟩
theorem rX12_streak_55 : tq_D cX12_streak 55 (.aload_n 0) 1 56 := ⟨by decide +kernel, rfl⟩
theorem rX12_streak_56 : tq_D cX12_streak 56 (.iconst 0) 1 57 := ⟨by decide +kernel, rfl⟩
theorem rX12_streak_57 : tq_D cX12_streak 57 (.iload 5) 2 59 := ⟨by decide +kernel, rfl⟩
theorem rX12_streak_59 : tq_D cX12_streak 59 (.invokevirtual 301) 3 62 := ⟨by decide +kernel, rfl⟩
theorem rX12_streak_62 : tq_J cX12_streak 62 (.ifCond .ne) 69 65 := ⟨7, by decide +kernel, by decide, rfl⟩
theorem rX12_streak_65 : tq_D cX12_streak 65 (.iconst 1) 1 66 := ⟨by decide +kernel, rfl⟩
theorem rX12_streak_66 : tq_J cX12_streak 66 .goto 70 69 := ⟨4, by decide +kernel, by decide, rfl⟩
theorem rX12_streak_69 : tq_D cX12_streak 69 (.iconst 0) 1 70 := ⟨by decide +kernel, rfl⟩
theorem rX12_streak_70 : tq_D cX12_streak 70 (.istore 6) 2 72 := ⟨by decide +kernel, rfl⟩
theorem rX12_streak_72 : tq_D cX12_streak 72 (.iload 6) 2 74 := ⟨by decide +kernel, rfl⟩
theorem rX12_streak_74 : tq_J cX12_streak 74 (.ifCond .eq) 98 77 := ⟨24, by decide +kernel, by decide, rfl⟩
theorem rX12_streak_77 : tq_D cX12_streak 77 (.iload 5) 2 79 := ⟨by decide +kernel, rfl⟩
theorem rX12_streak_79 : tq_D cX12_streak 79 (.aload_n 0) 1 80 := ⟨by decide +kernel, rfl⟩
theorem rX12_streak_80 : tq_D cX12_streak 80 (.getfield 148) 3 83 := ⟨by decide +kernel, rfl⟩
theorem rX12_streak_83 : tq_D cX12_streak 83 (.irem) 1 84 := ⟨by decide +kernel, rfl⟩
theorem rX12_streak_84 : tq_J cX12_streak 84 (.ifCond .ne) 91 87 := ⟨7, by decide +kernel, by decide, rfl⟩
theorem rX12_streak_87 : tq_D cX12_streak 87 (.iconst 1) 1 88 := ⟨by decide +kernel, rfl⟩
theorem rX12_streak_88 : tq_J cX12_streak 88 .goto 99 91 := ⟨11, by decide +kernel, by decide, rfl⟩
theorem rX12_streak_91 : tq_D cX12_streak 91 (.iload 4) 2 93 := ⟨by decide +kernel, rfl⟩
theorem rX12_streak_93 : tq_D cX12_streak 93 (.iconst 1) 1 94 := ⟨by decide +kernel, rfl⟩
theorem rX12_streak_94 : tq_D cX12_streak 94 (.iadd) 1 95 := ⟨by decide +kernel, rfl⟩
theorem rX12_streak_95 : tq_J cX12_streak 95 .goto 99 98 := ⟨4, by decide +kernel, by decide, rfl⟩
theorem rX12_streak_98 : tq_D cX12_streak 98 (.iconst 0) 1 99 := ⟨by decide +kernel, rfl⟩
theorem rX12_streak_99 : tq_D cX12_streak 99 (.istore 4) 2 101 := ⟨by decide +kernel, rfl⟩
theorem rX12_streak_101 : tq_D cX12_streak 101 (.iload 4) 2 103 := ⟨by decide +kernel, rfl⟩
theorem rX12_streak_103 : tq_D cX12_streak 103 (.iload_n 3) 1 104 := ⟨by decide +kernel, rfl⟩
theorem rX12_streak_104 : tq_J cX12_streak 104 (.if_icmp .le) 112 107 := ⟨8, by decide +kernel, by decide, rfl⟩
theorem rX12_streak_107 : tq_D cX12_streak 107 (.iload 4) 2 109 := ⟨by decide +kernel, rfl⟩
theorem rX12_streak_109 : tq_J cX12_streak 109 .goto 113 112 := ⟨4, by decide +kernel, by decide, rfl⟩
theorem rX12_streak_112 : tq_D cX12_streak 112 (.iload_n 3) 1 113 := ⟨by decide +kernel, rfl⟩
theorem rX12_streak_113 : tq_D cX12_streak 113 (.istore_n 3) 1 114 := ⟨by decide +kernel, rfl⟩
theorem rX12_streak_114 : tq_D cX12_streak 114 (.iinc 5 1) 3 117 := ⟨by decide +kernel, rfl⟩
theorem rX12_streak_117 : tq_J cX12_streak 117 .goto 35 120 := ⟨(-82), by decide +kernel, by decide, rfl⟩
theorem rX12_streak_120 : tq_D cX12_streak 120 (.iload_n 3) 1 121 := ⟨by decide +kernel, rfl⟩
theorem rX12_streak_121 : decode cX12_streak 121 = .ok (.ireturn, 1) := by decide +kernel
noncomputable def FX12_streak_j15 (I : tq_PI) (L : tq_PL)  : Option (Int32 × tq_PI) :=
  some ((-1 : Int32), I)
noncomputable def FX12_streak_j113L35 (I : tq_PI) (L : tq_PL) (a0 : Nat) (a2 : Int32) (a4 : Int32) (a5 : Int32) (b0 : Int32) : Option ((Int32 × Int32 × Int32 × tq_PI) ⊕ (Int32 × tq_PI)) :=
  some (.inl (b0, a4, (a5 + 1), I))
noncomputable def FX12_streak_j99L35 (I : tq_PI) (L : tq_PL) (a0 : Nat) (a2 : Int32) (a3 : Int32) (a5 : Int32) (b0 : Int32) : Option ((Int32 × Int32 × Int32 × tq_PI) ⊕ (Int32 × tq_PI)) :=
  (if b0 ≤ a3 then (FX12_streak_j113L35 I L a0 a2 b0 a5 a3) else (FX12_streak_j113L35 I L a0 a2 b0 a5 b0))
noncomputable def FX12_streak_j70L35 (I : tq_PI) (L : tq_PL) (a0 : Nat) (a2 : Int32) (a3 : Int32) (a4 : Int32) (a5 : Int32) (b0 : Int32) : Option ((Int32 × Int32 × Int32 × tq_PI) ⊕ (Int32 × tq_PI)) :=
  (if b0 = 0 then (FX12_streak_j99L35 I L a0 a2 a3 a5 ((0 : Int32))) else (if ¬ (I a0 13) = 0 then (if (a5 - a5 / (I a0 13) * (I a0 13)) = 0 then (FX12_streak_j99L35 I L a0 a2 a3 a5 ((1 : Int32))) else (FX12_streak_j99L35 I L a0 a2 a3 a5 ((a4 + (1 : Int32))))) else none))
noncomputable def FX12_streak_j69L35 (I : tq_PI) (L : tq_PL) (a0 : Nat) (a2 : Int32) (a3 : Int32) (a4 : Int32) (a5 : Int32) : Option ((Int32 × Int32 × Int32 × tq_PI) ⊕ (Int32 × tq_PI)) :=
  (FX12_streak_j70L35 I L a0 a2 a3 a4 a5 ((0 : Int32)))
noncomputable def FX12_streak_s35 (I : tq_PI) (L : tq_PL) (a0 : Nat) (a2 : Int32) (a3 : Int32) (a4 : Int32) (a5 : Int32) : Option ((Int32 × Int32 × Int32 × tq_PI) ⊕ (Int32 × tq_PI)) :=
  (tq_let (FX12_many I L a0) fun p7 => (if p7 ≤ a5 then some (.inr (a3, I)) else ((FX12_isCut I L a0 ((0 : Int32)) a2 a5).bind fun p9 => (if (tq_b p9) = 0 then (FX12_streak_j69L35 I L a0 a2 a3 a4 a5) else ((FX12_taken I L a0 ((0 : Int32)) a5).bind fun p15 => (if p15.1 = 0 then (FX12_streak_j70L35 p15.2 L a0 a2 a3 a4 a5 ((1 : Int32))) else (FX12_streak_j69L35 p15.2 L a0 a2 a3 a4 a5)))))))
noncomputable def FX12_streak (I : tq_PI) (L : tq_PL) (a0 : Nat) (a1 : Int32) (a2 : Int32) : Option (Int32 × tq_PI) :=
  ((FX12_isHill I L a0 a1).bind fun p1 => (if (tq_b p1.1) = 0 then (FX12_streak_j15 p1.2 L ) else (tq_let (FX12_isSide p1.2 L a2) fun p3 => (if (tq_b p3) = 0 then (FX12_streak_j15 p1.2 L ) else ((FX12_asTold p1.2 L a0).bind fun p5 => ((FX12_reaches p5 L a0 ((0 : Int32)) a2).bind fun p6 => ((tq_it (fun p : Int32 × Int32 × Int32 × tq_PI => FX12_streak_s35 p.2.2.2 L a0 a2 p.1 p.2.1 p.2.2.1) tq_N ((0 : Int32), (0 : Int32), (0 : Int32), p6)).bind fun p17 => some (p17.1, p17.2))))))))
set_option maxRecDepth 100000 in
set_option maxHeartbeats 4000000 in
theorem FX12_streak_j15_x {S : Nat × (Nat → Int32)} {d : Nat} {I : tq_PI} {L : tq_PL}   {q0 : Option Value → tq_PI → tq_PL → Prop} {out : Int32 × tq_PI} (hf : FX12_streak_j15 I L = some out) (hk : q0 (some (.int out.1)) out.2 L) : tq_X S mX12_streak (d + 5) tq_k0 15 ([tq_u, tq_u, tq_u, tq_u, tq_u, tq_u, tq_u]) ([]) (tq_st I L) (tq_Q q0) := by
  unfold FX12_streak_j15 at hf
  refine tq_iconst (-1 : Int32) rX12_streak_15 (by decide) ?_
  refine ty_iret rX12_streak_16 rfl rfl ?_
  have hf := Option.some.inj hf
  subst hf
  exact hk

set_option maxRecDepth 100000 in
set_option maxHeartbeats 4000000 in
theorem FX12_streak_j113L35_x {S : Nat × (Nat → Int32)} {d : Nat} {I : tq_PI} {L : tq_PL} {a0 : Nat} {a2 : Int32} {a4 : Int32} {a5 : Int32} {b0 : Int32} (h0 : tq_sh0 a0 = 12) {q0 : Option Value → tq_PI → tq_PL → Prop} {out : (Int32 × Int32 × Int32 × tq_PI) ⊕ (Int32 × tq_PI)} (hf : FX12_streak_j113L35 I L a0 a2 a4 a5 b0 = some out) (hk : Sum.elim (fun p : Int32 × Int32 × Int32 × tq_PI => tq_X S mX12_streak (d + 5) tq_k0 35 ([.ref a0, tq_u, .int a2, .int p.1, .int p.2.1, .int p.2.2.1, tq_u]) [] (tq_st p.2.2.2 L) (tq_Q q0)) (fun p : Int32 × tq_PI => tq_X S mX12_streak (d + 5) tq_k0 120 ([tq_u, tq_u, tq_u, .int p.1, tq_u, tq_u, tq_u]) [] (tq_st p.2 L) (tq_Q q0)) out) : tq_X S mX12_streak (d + 5) tq_k0 113 ([.ref a0, tq_u, .int a2, tq_u, .int a4, .int a5, tq_u]) ([.int b0]) (tq_st I L) (tq_Q q0) := by
  unfold FX12_streak_j113L35 at hf
  refine tq_istore_n ([.ref a0, tq_u, .int a2, .int b0, .int a4, .int a5, tq_u]) rX12_streak_113 (Nat.le_of_ble_eq_true rfl) rfl ?_
  refine tq_iinc (a5 + 1) ([.ref a0, tq_u, .int a2, .int b0, .int a4, .int (a5 + 1), tq_u]) rX12_streak_114 rfl (tq_inc (by decide)) (Nat.le_of_ble_eq_true rfl) rfl ?_
  refine tq_goto rX12_streak_117 ?_
  have hf := Option.some.inj hf
  subst hf
  exact tq_forget _ (tq_le_s (tq_le_u (tq_le_s (tq_le_s (tq_le_s (tq_le_s (tq_le_u tq_le_n))))))) hk

set_option maxRecDepth 100000 in
set_option maxHeartbeats 4000000 in
theorem FX12_streak_j99L35_x {S : Nat × (Nat → Int32)} {d : Nat} {I : tq_PI} {L : tq_PL} {a0 : Nat} {a2 : Int32} {a3 : Int32} {a5 : Int32} {b0 : Int32} (h0 : tq_sh0 a0 = 12) {q0 : Option Value → tq_PI → tq_PL → Prop} {out : (Int32 × Int32 × Int32 × tq_PI) ⊕ (Int32 × tq_PI)} (hf : FX12_streak_j99L35 I L a0 a2 a3 a5 b0 = some out) (hk : Sum.elim (fun p : Int32 × Int32 × Int32 × tq_PI => tq_X S mX12_streak (d + 5) tq_k0 35 ([.ref a0, tq_u, .int a2, .int p.1, .int p.2.1, .int p.2.2.1, tq_u]) [] (tq_st p.2.2.2 L) (tq_Q q0)) (fun p : Int32 × tq_PI => tq_X S mX12_streak (d + 5) tq_k0 120 ([tq_u, tq_u, tq_u, .int p.1, tq_u, tq_u, tq_u]) [] (tq_st p.2 L) (tq_Q q0)) out) : tq_X S mX12_streak (d + 5) tq_k0 99 ([.ref a0, tq_u, .int a2, .int a3, tq_u, .int a5, tq_u]) ([.int b0]) (tq_st I L) (tq_Q q0) := by
  unfold FX12_streak_j99L35 at hf
  refine tq_istore ([.ref a0, tq_u, .int a2, .int a3, .int b0, .int a5, tq_u]) rX12_streak_99 (Nat.le_of_ble_eq_true rfl) rfl ?_
  refine tq_iload rX12_streak_101 rfl ?_
  refine tq_iload_n rX12_streak_103 rfl ?_
  refine tq_icmp_le rX12_streak_104 (fun c12 => ?_) (fun c12 => ?_)
  · rw [if_pos c12] at hf
    refine tq_iload_n rX12_streak_112 rfl ?_
    exact tq_forget _ (tq_le_s (tq_le_u (tq_le_s (tq_le_u (tq_le_s (tq_le_s (tq_le_u tq_le_n))))))) (FX12_streak_j113L35_x  h0 hf hk)
  · rw [if_neg c12] at hf
    refine tq_iload rX12_streak_107 rfl ?_
    refine tq_goto rX12_streak_109 ?_
    exact tq_forget _ (tq_le_s (tq_le_u (tq_le_s (tq_le_u (tq_le_s (tq_le_s (tq_le_u tq_le_n))))))) (FX12_streak_j113L35_x  h0 hf hk)

set_option maxRecDepth 100000 in
set_option maxHeartbeats 4000000 in
theorem FX12_streak_j70L35_x {S : Nat × (Nat → Int32)} {d : Nat} {I : tq_PI} {L : tq_PL} {a0 : Nat} {a2 : Int32} {a3 : Int32} {a4 : Int32} {a5 : Int32} {b0 : Int32} (h0 : tq_sh0 a0 = 12) {q0 : Option Value → tq_PI → tq_PL → Prop} {out : (Int32 × Int32 × Int32 × tq_PI) ⊕ (Int32 × tq_PI)} (hf : FX12_streak_j70L35 I L a0 a2 a3 a4 a5 b0 = some out) (hk : Sum.elim (fun p : Int32 × Int32 × Int32 × tq_PI => tq_X S mX12_streak (d + 5) tq_k0 35 ([.ref a0, tq_u, .int a2, .int p.1, .int p.2.1, .int p.2.2.1, tq_u]) [] (tq_st p.2.2.2 L) (tq_Q q0)) (fun p : Int32 × tq_PI => tq_X S mX12_streak (d + 5) tq_k0 120 ([tq_u, tq_u, tq_u, .int p.1, tq_u, tq_u, tq_u]) [] (tq_st p.2 L) (tq_Q q0)) out) : tq_X S mX12_streak (d + 5) tq_k0 70 ([.ref a0, tq_u, .int a2, .int a3, .int a4, .int a5, tq_u]) ([.int b0]) (tq_st I L) (tq_Q q0) := by
  unfold FX12_streak_j70L35 at hf
  refine tq_istore ([.ref a0, tq_u, .int a2, .int a3, .int a4, .int a5, .int b0]) rX12_streak_70 (Nat.le_of_ble_eq_true rfl) rfl ?_
  refine tq_iload rX12_streak_72 rfl ?_
  refine tq_if_eq rX12_streak_74 (fun c11 => ?_) (fun c11 => ?_)
  · rw [if_pos c11] at hf
    refine tq_iconst (0 : Int32) rX12_streak_98 (by decide) ?_
    exact tq_forget _ (tq_le_s (tq_le_u (tq_le_s (tq_le_s (tq_le_u (tq_le_s (tq_le_u tq_le_n))))))) (FX12_streak_j99L35_x  h0 hf hk)
  · rw [if_neg c11] at hf
    refine tq_iload rX12_streak_77 rfl ?_
    refine tq_aload_n rX12_streak_79 rfl ?_
    refine ty_getI rX12_streak_80 f_X12_148 rfl h0 ?_
    obtain ⟨g13, hf⟩ := tq_chk hf
    refine tq_irem rX12_streak_83 g13 ?_
    refine tq_if_ne rX12_streak_84 (fun c14 => ?_) (fun c14 => ?_)
    · rw [if_neg c14] at hf
      refine tq_iload rX12_streak_91 rfl ?_
      refine tq_iconst (1 : Int32) rX12_streak_93 (by decide) ?_
      refine tq_iadd rX12_streak_94 ?_
      refine tq_goto rX12_streak_95 ?_
      exact tq_forget _ (tq_le_s (tq_le_u (tq_le_s (tq_le_s (tq_le_u (tq_le_s (tq_le_u tq_le_n))))))) (FX12_streak_j99L35_x  h0 hf hk)
    · rw [if_pos c14] at hf
      refine tq_iconst (1 : Int32) rX12_streak_87 (by decide) ?_
      refine tq_goto rX12_streak_88 ?_
      exact tq_forget _ (tq_le_s (tq_le_u (tq_le_s (tq_le_s (tq_le_u (tq_le_s (tq_le_u tq_le_n))))))) (FX12_streak_j99L35_x  h0 hf hk)

set_option maxRecDepth 100000 in
set_option maxHeartbeats 4000000 in
theorem FX12_streak_j69L35_x {S : Nat × (Nat → Int32)} {d : Nat} {I : tq_PI} {L : tq_PL} {a0 : Nat} {a2 : Int32} {a3 : Int32} {a4 : Int32} {a5 : Int32} (h0 : tq_sh0 a0 = 12) {q0 : Option Value → tq_PI → tq_PL → Prop} {out : (Int32 × Int32 × Int32 × tq_PI) ⊕ (Int32 × tq_PI)} (hf : FX12_streak_j69L35 I L a0 a2 a3 a4 a5 = some out) (hk : Sum.elim (fun p : Int32 × Int32 × Int32 × tq_PI => tq_X S mX12_streak (d + 5) tq_k0 35 ([.ref a0, tq_u, .int a2, .int p.1, .int p.2.1, .int p.2.2.1, tq_u]) [] (tq_st p.2.2.2 L) (tq_Q q0)) (fun p : Int32 × tq_PI => tq_X S mX12_streak (d + 5) tq_k0 120 ([tq_u, tq_u, tq_u, .int p.1, tq_u, tq_u, tq_u]) [] (tq_st p.2 L) (tq_Q q0)) out) : tq_X S mX12_streak (d + 5) tq_k0 69 ([.ref a0, tq_u, .int a2, .int a3, .int a4, .int a5, tq_u]) ([]) (tq_st I L) (tq_Q q0) := by
  unfold FX12_streak_j69L35 at hf
  refine tq_iconst (0 : Int32) rX12_streak_69 (by decide) ?_
  exact tq_forget _ (tq_le_s (tq_le_u (tq_le_s (tq_le_s (tq_le_s (tq_le_s (tq_le_u tq_le_n))))))) (FX12_streak_j70L35_x  h0 hf hk)

set_option maxRecDepth 100000 in
set_option maxHeartbeats 4000000 in
theorem FX12_streak_s35_x {S : Nat × (Nat → Int32)} {d : Nat} {I : tq_PI} {L : tq_PL} {a0 : Nat} {a2 : Int32} {a3 : Int32} {a4 : Int32} {a5 : Int32} (h0 : tq_sh0 a0 = 12) {q0 : Option Value → tq_PI → tq_PL → Prop} {out : (Int32 × Int32 × Int32 × tq_PI) ⊕ (Int32 × tq_PI)} (hf : FX12_streak_s35 I L a0 a2 a3 a4 a5 = some out) (hk : Sum.elim (fun p : Int32 × Int32 × Int32 × tq_PI => tq_X S mX12_streak (d + 5) tq_k0 35 ([.ref a0, tq_u, .int a2, .int p.1, .int p.2.1, .int p.2.2.1, tq_u]) [] (tq_st p.2.2.2 L) (tq_Q q0)) (fun p : Int32 × tq_PI => tq_X S mX12_streak (d + 5) tq_k0 120 ([tq_u, tq_u, tq_u, .int p.1, tq_u, tq_u, tq_u]) [] (tq_st p.2 L) (tq_Q q0)) out) : tq_X S mX12_streak (d + 5) tq_k0 35 ([.ref a0, tq_u, .int a2, .int a3, .int a4, .int a5, tq_u]) [] (tq_st I L) (tq_Q q0) := by
  unfold FX12_streak_s35 at hf
  refine tq_iload rX12_streak_35 rfl ?_
  refine tq_aload_n rX12_streak_37 rfl ?_
  obtain ⟨p7, e7, hf⟩ := tq_let_elim hf
  refine ty_callVI p7 ([]) ([.int a5]) rX12_streak_38 l_X12_190 moX12_many mvX12_many h0 rfl rfl (Nat.le_of_ble_eq_true rfl) ⟨rfl, rfl⟩ (CX12_many h0 e7) ?_
  refine tq_icmp_ge rX12_streak_41 (fun c8 => ?_) (fun c8 => ?_)
  · rw [if_pos c8] at hf
    have hf := Option.some.inj hf
    subst hf
    exact tq_forget _ (tq_le_u (tq_le_u (tq_le_u (tq_le_s (tq_le_u (tq_le_u (tq_le_u tq_le_n))))))) hk
  · rw [if_neg c8] at hf
    refine tq_aload_n rX12_streak_44 rfl ?_
    refine tq_iconst (0 : Int32) rX12_streak_45 (by decide) ?_
    refine tq_iload_n rX12_streak_46 rfl ?_
    refine tq_iload rX12_streak_47 rfl ?_
    obtain ⟨p9, e9, hf⟩ := Option.bind_eq_some_iff.mp hf
    refine ty_callVI (tq_b p9) ([.int (0 : Int32), .int a2, .int a5]) ([]) rX12_streak_49 l_X12_277 moX12_isCut mvX12_isCut h0 rfl rfl (Nat.le_of_ble_eq_true rfl) ⟨rfl, rfl⟩ (CX12_isCut h0 e9) ?_
    refine tq_if_eq rX12_streak_52 (fun c10 => ?_) (fun c10 => ?_)
    · rw [if_pos c10] at hf
      exact tq_forget _ (tq_le_s (tq_le_u (tq_le_s (tq_le_s (tq_le_s (tq_le_s (tq_le_u tq_le_n))))))) (FX12_streak_j69L35_x  h0 hf hk)
    · rw [if_neg c10] at hf
      refine tq_aload_n rX12_streak_55 rfl ?_
      refine tq_iconst (0 : Int32) rX12_streak_56 (by decide) ?_
      refine tq_iload rX12_streak_57 rfl ?_
      obtain ⟨p15, e15, hf⟩ := Option.bind_eq_some_iff.mp hf
      refine ty_callVI p15.1 ([.int (0 : Int32), .int a5]) ([]) rX12_streak_59 l_X12_301 moX12_taken mvX12_taken h0 rfl rfl (Nat.le_of_ble_eq_true rfl) ⟨rfl, rfl⟩ (CX12_taken h0 e15) ?_
      refine tq_if_ne rX12_streak_62 (fun c16 => ?_) (fun c16 => ?_)
      · rw [if_neg c16] at hf
        exact tq_forget _ (tq_le_s (tq_le_u (tq_le_s (tq_le_s (tq_le_s (tq_le_s (tq_le_u tq_le_n))))))) (FX12_streak_j69L35_x  h0 hf hk)
      · rw [if_pos c16] at hf
        refine tq_iconst (1 : Int32) rX12_streak_65 (by decide) ?_
        refine tq_goto rX12_streak_66 ?_
        exact tq_forget _ (tq_le_s (tq_le_u (tq_le_s (tq_le_s (tq_le_s (tq_le_s (tq_le_u tq_le_n))))))) (FX12_streak_j70L35_x  h0 hf hk)

set_option maxRecDepth 100000 in
set_option maxHeartbeats 4000000 in
theorem CX12_streak {S : Nat × (Nat → Int32)} {d : Nat} {I : tq_PI} {L : tq_PL} {a0 : Nat} {a1 : Int32} {a2 : Int32} (h0 : tq_sh0 a0 = 12) {out : Int32 × tq_PI} (hf : FX12_streak I L a0 a1 a2 = some out) : tq_K S mX12_streak (d + 5) [.ref a0, .int a1, .int a2] I L (tq_one2 (some (.int out.1)) out.2 L) := by
  unfold FX12_streak at hf
  refine tq_K_of (by decide) (Nat.le_of_ble_eq_true rfl) (ls := [.ref a0, .int a1, .int a2, tq_u, tq_u, tq_u, tq_u]) rfl ?_
  refine tq_aload_n rX12_streak_0 rfl ?_
  refine tq_iload_n rX12_streak_1 rfl ?_
  obtain ⟨p1, e1, hf⟩ := Option.bind_eq_some_iff.mp hf
  refine ty_callVI (tq_b p1.1) ([.int a1]) ([]) rX12_streak_2 l_X12_221 moX12_isHill mvX12_isHill h0 rfl rfl (Nat.le_of_ble_eq_true rfl) ⟨rfl, rfl⟩ (CX12_isHill h0 e1) ?_
  refine tq_if_eq rX12_streak_5 (fun c2 => ?_) (fun c2 => ?_)
  · rw [if_pos c2] at hf
    exact tq_forget _ (tq_le_u (tq_le_u (tq_le_u (tq_le_u (tq_le_u (tq_le_u (tq_le_u tq_le_n))))))) (FX12_streak_j15_x   hf ⟨rfl, rfl, rfl⟩)
  · rw [if_neg c2] at hf
    refine tq_iload_n rX12_streak_8 rfl ?_
    obtain ⟨p3, e3, hf⟩ := tq_let_elim hf
    refine ty_callSI (tq_b p3) ([.int a2]) ([]) rX12_streak_9 l_X12_227 moX12_isSide msX12_isSide rfl rfl (Nat.le_of_ble_eq_true rfl) ⟨rfl, rfl⟩ (CX12_isSide  e3) ?_
    refine tq_if_ne rX12_streak_12 (fun c4 => ?_) (fun c4 => ?_)
    · rw [if_neg c4] at hf
      refine tq_aload_n rX12_streak_17 rfl ?_
      obtain ⟨p5, e5, hf⟩ := Option.bind_eq_some_iff.mp hf
      refine ty_callVV ([]) ([]) rX12_streak_18 l_X12_224 moX12_asTold mvX12_asTold h0 rfl rfl (Nat.le_of_ble_eq_true rfl) ⟨rfl, rfl⟩ (CX12_asTold h0 e5) ?_
      refine tq_aload_n rX12_streak_21 rfl ?_
      refine tq_iconst (0 : Int32) rX12_streak_22 (by decide) ?_
      refine tq_iload_n rX12_streak_23 rfl ?_
      obtain ⟨p6, e6, hf⟩ := Option.bind_eq_some_iff.mp hf
      refine ty_callVV ([.int (0 : Int32), .int a2]) ([]) rX12_streak_24 l_X12_274 moX12_reaches mvX12_reaches h0 rfl rfl (Nat.le_of_ble_eq_true rfl) ⟨rfl, rfl⟩ (CX12_reaches h0 e6) ?_
      refine tq_iconst (0 : Int32) rX12_streak_27 (by decide) ?_
      refine tq_istore_n ([.ref a0, .int a1, .int a2, .int (0 : Int32), tq_u, tq_u, tq_u]) rX12_streak_28 (Nat.le_of_ble_eq_true rfl) rfl ?_
      refine tq_iconst (0 : Int32) rX12_streak_29 (by decide) ?_
      refine tq_istore ([.ref a0, .int a1, .int a2, .int (0 : Int32), .int (0 : Int32), tq_u, tq_u]) rX12_streak_30 (Nat.le_of_ble_eq_true rfl) rfl ?_
      refine tq_iconst (0 : Int32) rX12_streak_32 (by decide) ?_
      refine tq_istore ([.ref a0, .int a1, .int a2, .int (0 : Int32), .int (0 : Int32), .int (0 : Int32), tq_u]) rX12_streak_33 (Nat.le_of_ble_eq_true rfl) rfl ?_
      obtain ⟨p17, e17, hf⟩ := Option.bind_eq_some_iff.mp hf
      refine tq_forget _ (tq_le_s (tq_le_u (tq_le_s (tq_le_s (tq_le_s (tq_le_s (tq_le_u tq_le_n))))))) ?_
      refine tq_it_elim (P := fun p : Int32 × Int32 × Int32 × tq_PI => tq_X S mX12_streak (d + 5) tq_k0 35 ([.ref a0, tq_u, .int a2, .int p.1, .int p.2.1, .int p.2.2.1, tq_u]) [] (tq_st p.2.2.2 L) (tq_Q (tq_one2 (some (.int out.1)) out.2 L))) (R := fun p : Int32 × tq_PI => tq_X S mX12_streak (d + 5) tq_k0 120 ([tq_u, tq_u, tq_u, .int p.1, tq_u, tq_u, tq_u]) [] (tq_st p.2 L) (tq_Q (tq_one2 (some (.int out.1)) out.2 L))) (fun p o hp hk => FX12_streak_s35_x  h0 hp hk) _ (((0 : Int32), (0 : Int32), (0 : Int32), p6)) _ e17 ?_
      show tq_X _ _ _ _ _ _ _ _ _
      refine tq_iload_n rX12_streak_120 rfl ?_
      refine ty_iret rX12_streak_121 rfl rfl ?_
      have hf := Option.some.inj hf
      subst hf
      exact ⟨rfl, rfl, rfl⟩
    · rw [if_pos c4] at hf
      exact tq_forget _ (tq_le_u (tq_le_u (tq_le_u (tq_le_u (tq_le_u (tq_le_u (tq_le_u tq_le_n))))))) (FX12_streak_j15_x   hf ⟨rfl, rfl, rfl⟩)

abbrev mX12_safest : tq_M := (yX12_safest, cX12_safest, 5, (Option.some Jvm.ClassFile.FieldType.int), 0, 0)
theorem rX12_safest_0 : tq_D cX12_safest 0 (.aload_n 0) 1 1 := ⟨by decide +kernel, rfl⟩
theorem rX12_safest_1 : tq_D cX12_safest 1 (.iconst 0) 1 2 := ⟨by decide +kernel, rfl⟩
theorem rX12_safest_2 : tq_D cX12_safest 2 (.iload_n 1) 1 3 := ⟨by decide +kernel, rfl⟩
theorem rX12_safest_3 : tq_D cX12_safest 3 (.invokevirtual 274) 3 6 := ⟨by decide +kernel, rfl⟩
theorem rX12_safest_6 : tq_D cX12_safest 6 (.iconst (-1)) 1 7 := ⟨by decide +kernel, rfl⟩
theorem rX12_safest_7 : tq_D cX12_safest 7 (.istore_n 3) 1 8 := ⟨by decide +kernel, rfl⟩
theorem rX12_safest_8 : tq_D cX12_safest 8 (.iconst 0) 1 9 := ⟨by decide +kernel, rfl⟩
theorem rX12_safest_9 : tq_D cX12_safest 9 (.istore 4) 2 11 := ⟨by decide +kernel, rfl⟩
theorem rX12_safest_11 : tq_D cX12_safest 11 (.iload 4) 2 13 := ⟨by decide +kernel, rfl⟩
theorem rX12_safest_13 : tq_D cX12_safest 13 (.aload_n 0) 1 14 := ⟨by decide +kernel, rfl⟩
theorem rX12_safest_14 : tq_D cX12_safest 14 (.invokevirtual 190) 3 17 := ⟨by decide +kernel, rfl⟩
theorem rX12_safest_17 : tq_J cX12_safest 17 (.if_icmp .ge) 84 20 := ⟨67, by decide +kernel, by decide, rfl⟩
theorem rX12_safest_20 : tq_D cX12_safest 20 (.aload_n 0) 1 21 := ⟨by decide +kernel, rfl⟩
theorem rX12_safest_21 : tq_D cX12_safest 21 (.iconst 0) 1 22 := ⟨by decide +kernel, rfl⟩
theorem rX12_safest_22 : tq_D cX12_safest 22 (.iload_n 1) 1 23 := ⟨by decide +kernel, rfl⟩
theorem rX12_safest_23 : tq_D cX12_safest 23 (.iload 4) 2 25 := ⟨by decide +kernel, rfl⟩
theorem rX12_safest_25 : tq_D cX12_safest 25 (.invokevirtual 277) 3 28 := ⟨by decide +kernel, rfl⟩
theorem rX12_safest_28 : tq_J cX12_safest 28 (.ifCond .eq) 78 31 := ⟨50, by decide +kernel, by decide, rfl⟩
theorem rX12_safest_31 : tq_D cX12_safest 31 (.iload_n 3) 1 32 := ⟨by decide +kernel, rfl⟩
theorem rX12_safest_32 : tq_D cX12_safest 32 (.iconst (-1)) 1 33 := ⟨by decide +kernel, rfl⟩
theorem rX12_safest_33 : tq_J cX12_safest 33 (.if_icmp .eq) 65 36 := ⟨32, by decide +kernel, by decide, rfl⟩
theorem rX12_safest_36 : tq_D cX12_safest 36 (.iload_n 2) 1 37 := ⟨by decide +kernel, rfl⟩
theorem rX12_safest_37 : tq_J cX12_safest 37 (.ifCond .eq) 78 40 := ⟨41, by decide +kernel, by decide, rfl⟩
theorem rX12_safest_40 : tq_D cX12_safest 40 (.aload_n 0) 1 41 := ⟨by decide +kernel, rfl⟩
theorem rX12_safest_41 : tq_D cX12_safest 41 (.iconst 0) 1 42 := ⟨by decide +kernel, rfl⟩
theorem rX12_safest_42 : tq_D cX12_safest 42 (.iload 4) 2 44 := ⟨by decide +kernel, rfl⟩
theorem rX12_safest_44 : tq_D cX12_safest 44 (.invokevirtual 193) 3 47 := ⟨by decide +kernel, rfl⟩
theorem rX12_safest_47 : tq_D cX12_safest 47 (.invokestatic 230) 3 50 := ⟨by decide +kernel, rfl⟩
theorem rX12_safest_50 : tq_D cX12_safest 50 (.aload_n 0) 1 51 := ⟨by decide +kernel, rfl⟩
theorem rX12_safest_51 : tq_D cX12_safest 51 (.iconst 0) 1 52 := ⟨by decide +kernel, rfl⟩
theorem rX12_safest_52 : tq_D cX12_safest 52 (.iload_n 3) 1 53 := ⟨by decide +kernel, rfl⟩
theorem rX12_safest_53 : tq_D cX12_safest 53 (.invokevirtual 193) 3 56 := ⟨by decide +kernel, rfl⟩
theorem rX12_safest_56 : tq_D cX12_safest 56 (.invokestatic 230) 3 59 := ⟨by decide +kernel, rfl⟩
theorem rX12_safest_59 : tq_J cX12_safest 59 (.if_icmp .gt) 65 62 := ⟨6, by decide +kernel, by decide, rfl⟩
theorem rX12_safest_62 : tq_J cX12_safest 62 .goto 78 65 := ⟨16, by decide +kernel, by decide, rfl⟩
theorem rX12_safest_65 : tq_D cX12_safest 65 (.aload_n 0) 1 66 := ⟨by decide +kernel, rfl⟩
theorem rX12_safest_66 : tq_D cX12_safest 66 (.iconst 0) 1 67 := ⟨by decide +kernel, rfl⟩
theorem rX12_safest_67 : tq_D cX12_safest 67 (.iload 4) 2 69 := ⟨by decide +kernel, rfl⟩
theorem rX12_safest_69 : tq_D cX12_safest 69 (.invokevirtual 301) 3 72 := ⟨by decide +kernel, rfl⟩
theorem rX12_safest_72 : tq_J cX12_safest 72 (.ifCond .ne) 78 75 := ⟨6, by decide +kernel, by decide, rfl⟩
theorem rX12_safest_75 : tq_D cX12_safest 75 (.iload 4) 2 77 := ⟨by decide +kernel, rfl⟩
theorem rX12_safest_77 : tq_D cX12_safest 77 (.istore_n 3) 1 78 := ⟨by decide +kernel, rfl⟩
theorem rX12_safest_78 : tq_D cX12_safest 78 (.iinc 4 1) 3 81 := ⟨by decide +kernel, rfl⟩
theorem rX12_safest_81 : tq_J cX12_safest 81 .goto 11 84 := ⟨(-70), by decide +kernel, by decide, rfl⟩
theorem rX12_safest_84 : tq_D cX12_safest 84 (.iload_n 3) 1 85 := ⟨by decide +kernel, rfl⟩
theorem rX12_safest_85 : decode cX12_safest 85 = .ok (.ireturn, 1) := by decide +kernel
noncomputable def FX12_safest_j78L11 (I : tq_PI) (L : tq_PL) (a0 : Nat) (a1 : Int32) (a2 : Int32) (a3 : Int32) (a4 : Int32) : Option ((Int32 × Int32 × tq_PI) ⊕ (Int32 × tq_PI)) :=
  some (.inl (a3, (a4 + 1), I))
noncomputable def FX12_safest_j65L11 (I : tq_PI) (L : tq_PL) (a0 : Nat) (a1 : Int32) (a2 : Int32) (a3 : Int32) (a4 : Int32) : Option ((Int32 × Int32 × tq_PI) ⊕ (Int32 × tq_PI)) :=
  ((FX12_taken I L a0 ((0 : Int32)) a4).bind fun p7 => (if p7.1 = 0 then (FX12_safest_j78L11 p7.2 L a0 a1 a2 a4 a4) else (FX12_safest_j78L11 p7.2 L a0 a1 a2 a3 a4)))
noncomputable def FX12_safest_s11 (I : tq_PI) (L : tq_PL) (a0 : Nat) (a1 : Int32) (a2 : Int32) (a3 : Int32) (a4 : Int32) : Option ((Int32 × Int32 × tq_PI) ⊕ (Int32 × tq_PI)) :=
  (tq_let (FX12_many I L a0) fun p2 => (if p2 ≤ a4 then some (.inr (a3, I)) else ((FX12_isCut I L a0 ((0 : Int32)) a1 a4).bind fun p4 => (if (tq_b p4) = 0 then (FX12_safest_j78L11 I L a0 a1 a2 a3 a4) else (if a3 = (-1 : Int32) then (FX12_safest_j65L11 I L a0 a1 a2 a3 a4) else (if a2 = 0 then (FX12_safest_j78L11 I L a0 a1 a2 a3 a4) else ((FX12_kindOf I L a0 ((0 : Int32)) a4).bind fun p10 => (tq_let (FX12_worthOf I L p10) fun p11 => ((FX12_kindOf I L a0 ((0 : Int32)) a3).bind fun p12 => (tq_let (FX12_worthOf I L p12) fun p13 => (if p13 < p11 then (FX12_safest_j65L11 I L a0 a1 a2 a3 a4) else (FX12_safest_j78L11 I L a0 a1 a2 a3 a4))))))))))))
noncomputable def FX12_safest (I : tq_PI) (L : tq_PL) (a0 : Nat) (a1 : Int32) (a2 : Int32) : Option (Int32 × tq_PI) :=
  ((FX12_reaches I L a0 ((0 : Int32)) a1).bind fun p1 => ((tq_it (fun p : Int32 × Int32 × tq_PI => FX12_safest_s11 p.2.2 L a0 a1 a2 p.1 p.2.1) tq_N ((-1 : Int32), (0 : Int32), p1)).bind fun p15 => some (p15.1, p15.2)))
set_option maxRecDepth 100000 in
set_option maxHeartbeats 4000000 in
theorem FX12_safest_j78L11_x {S : Nat × (Nat → Int32)} {d : Nat} {I : tq_PI} {L : tq_PL} {a0 : Nat} {a1 : Int32} {a2 : Int32} {a3 : Int32} {a4 : Int32} (h0 : tq_sh0 a0 = 12) {q0 : Option Value → tq_PI → tq_PL → Prop} {out : (Int32 × Int32 × tq_PI) ⊕ (Int32 × tq_PI)} (hf : FX12_safest_j78L11 I L a0 a1 a2 a3 a4 = some out) (hk : Sum.elim (fun p : Int32 × Int32 × tq_PI => tq_X S mX12_safest (d + 5) tq_k0 11 ([.ref a0, .int a1, .int a2, .int p.1, .int p.2.1]) [] (tq_st p.2.2 L) (tq_Q q0)) (fun p : Int32 × tq_PI => tq_X S mX12_safest (d + 5) tq_k0 84 ([tq_u, tq_u, tq_u, .int p.1, tq_u]) [] (tq_st p.2 L) (tq_Q q0)) out) : tq_X S mX12_safest (d + 5) tq_k0 78 ([.ref a0, .int a1, .int a2, .int a3, .int a4]) ([]) (tq_st I L) (tq_Q q0) := by
  unfold FX12_safest_j78L11 at hf
  refine tq_iinc (a4 + 1) ([.ref a0, .int a1, .int a2, .int a3, .int (a4 + 1)]) rX12_safest_78 rfl (tq_inc (by decide)) (Nat.le_of_ble_eq_true rfl) rfl ?_
  refine tq_goto rX12_safest_81 ?_
  have hf := Option.some.inj hf
  subst hf
  exact tq_forget _ (tq_le_s (tq_le_s (tq_le_s (tq_le_s (tq_le_s tq_le_n))))) hk

set_option maxRecDepth 100000 in
set_option maxHeartbeats 4000000 in
theorem FX12_safest_j65L11_x {S : Nat × (Nat → Int32)} {d : Nat} {I : tq_PI} {L : tq_PL} {a0 : Nat} {a1 : Int32} {a2 : Int32} {a3 : Int32} {a4 : Int32} (h0 : tq_sh0 a0 = 12) {q0 : Option Value → tq_PI → tq_PL → Prop} {out : (Int32 × Int32 × tq_PI) ⊕ (Int32 × tq_PI)} (hf : FX12_safest_j65L11 I L a0 a1 a2 a3 a4 = some out) (hk : Sum.elim (fun p : Int32 × Int32 × tq_PI => tq_X S mX12_safest (d + 5) tq_k0 11 ([.ref a0, .int a1, .int a2, .int p.1, .int p.2.1]) [] (tq_st p.2.2 L) (tq_Q q0)) (fun p : Int32 × tq_PI => tq_X S mX12_safest (d + 5) tq_k0 84 ([tq_u, tq_u, tq_u, .int p.1, tq_u]) [] (tq_st p.2 L) (tq_Q q0)) out) : tq_X S mX12_safest (d + 5) tq_k0 65 ([.ref a0, .int a1, .int a2, .int a3, .int a4]) ([]) (tq_st I L) (tq_Q q0) := by
  unfold FX12_safest_j65L11 at hf
  refine tq_aload_n rX12_safest_65 rfl ?_
  refine tq_iconst (0 : Int32) rX12_safest_66 (by decide) ?_
  refine tq_iload rX12_safest_67 rfl ?_
  obtain ⟨p7, e7, hf⟩ := Option.bind_eq_some_iff.mp hf
  refine ty_callVI p7.1 ([.int (0 : Int32), .int a4]) ([]) rX12_safest_69 l_X12_301 moX12_taken mvX12_taken h0 rfl rfl (Nat.le_of_ble_eq_true rfl) ⟨rfl, rfl⟩ (CX12_taken h0 e7) ?_
  refine tq_if_ne rX12_safest_72 (fun c8 => ?_) (fun c8 => ?_)
  · rw [if_neg c8] at hf
    exact tq_forget _ (tq_le_s (tq_le_s (tq_le_s (tq_le_s (tq_le_s tq_le_n))))) (FX12_safest_j78L11_x  h0 hf hk)
  · rw [if_pos c8] at hf
    refine tq_iload rX12_safest_75 rfl ?_
    refine tq_istore_n ([.ref a0, .int a1, .int a2, .int a4, .int a4]) rX12_safest_77 (Nat.le_of_ble_eq_true rfl) rfl ?_
    exact tq_forget _ (tq_le_s (tq_le_s (tq_le_s (tq_le_s (tq_le_s tq_le_n))))) (FX12_safest_j78L11_x  h0 hf hk)

set_option maxRecDepth 100000 in
set_option maxHeartbeats 4000000 in
theorem FX12_safest_s11_x {S : Nat × (Nat → Int32)} {d : Nat} {I : tq_PI} {L : tq_PL} {a0 : Nat} {a1 : Int32} {a2 : Int32} {a3 : Int32} {a4 : Int32} (h0 : tq_sh0 a0 = 12) {q0 : Option Value → tq_PI → tq_PL → Prop} {out : (Int32 × Int32 × tq_PI) ⊕ (Int32 × tq_PI)} (hf : FX12_safest_s11 I L a0 a1 a2 a3 a4 = some out) (hk : Sum.elim (fun p : Int32 × Int32 × tq_PI => tq_X S mX12_safest (d + 5) tq_k0 11 ([.ref a0, .int a1, .int a2, .int p.1, .int p.2.1]) [] (tq_st p.2.2 L) (tq_Q q0)) (fun p : Int32 × tq_PI => tq_X S mX12_safest (d + 5) tq_k0 84 ([tq_u, tq_u, tq_u, .int p.1, tq_u]) [] (tq_st p.2 L) (tq_Q q0)) out) : tq_X S mX12_safest (d + 5) tq_k0 11 ([.ref a0, .int a1, .int a2, .int a3, .int a4]) [] (tq_st I L) (tq_Q q0) := by
  unfold FX12_safest_s11 at hf
  refine tq_iload rX12_safest_11 rfl ?_
  refine tq_aload_n rX12_safest_13 rfl ?_
  obtain ⟨p2, e2, hf⟩ := tq_let_elim hf
  refine ty_callVI p2 ([]) ([.int a4]) rX12_safest_14 l_X12_190 moX12_many mvX12_many h0 rfl rfl (Nat.le_of_ble_eq_true rfl) ⟨rfl, rfl⟩ (CX12_many h0 e2) ?_
  refine tq_icmp_ge rX12_safest_17 (fun c3 => ?_) (fun c3 => ?_)
  · rw [if_pos c3] at hf
    have hf := Option.some.inj hf
    subst hf
    exact tq_forget _ (tq_le_u (tq_le_u (tq_le_u (tq_le_s (tq_le_u tq_le_n))))) hk
  · rw [if_neg c3] at hf
    refine tq_aload_n rX12_safest_20 rfl ?_
    refine tq_iconst (0 : Int32) rX12_safest_21 (by decide) ?_
    refine tq_iload_n rX12_safest_22 rfl ?_
    refine tq_iload rX12_safest_23 rfl ?_
    obtain ⟨p4, e4, hf⟩ := Option.bind_eq_some_iff.mp hf
    refine ty_callVI (tq_b p4) ([.int (0 : Int32), .int a1, .int a4]) ([]) rX12_safest_25 l_X12_277 moX12_isCut mvX12_isCut h0 rfl rfl (Nat.le_of_ble_eq_true rfl) ⟨rfl, rfl⟩ (CX12_isCut h0 e4) ?_
    refine tq_if_eq rX12_safest_28 (fun c5 => ?_) (fun c5 => ?_)
    · rw [if_pos c5] at hf
      exact tq_forget _ (tq_le_s (tq_le_s (tq_le_s (tq_le_s (tq_le_s tq_le_n))))) (FX12_safest_j78L11_x  h0 hf hk)
    · rw [if_neg c5] at hf
      refine tq_iload_n rX12_safest_31 rfl ?_
      refine tq_iconst (-1 : Int32) rX12_safest_32 (by decide) ?_
      refine tq_icmp_eq rX12_safest_33 (fun c6 => ?_) (fun c6 => ?_)
      · rw [if_pos c6] at hf
        exact tq_forget _ (tq_le_s (tq_le_s (tq_le_s (tq_le_s (tq_le_s tq_le_n))))) (FX12_safest_j65L11_x  h0 hf hk)
      · rw [if_neg c6] at hf
        refine tq_iload_n rX12_safest_36 rfl ?_
        refine tq_if_eq rX12_safest_37 (fun c9 => ?_) (fun c9 => ?_)
        · rw [if_pos c9] at hf
          exact tq_forget _ (tq_le_s (tq_le_s (tq_le_s (tq_le_s (tq_le_s tq_le_n))))) (FX12_safest_j78L11_x  h0 hf hk)
        · rw [if_neg c9] at hf
          refine tq_aload_n rX12_safest_40 rfl ?_
          refine tq_iconst (0 : Int32) rX12_safest_41 (by decide) ?_
          refine tq_iload rX12_safest_42 rfl ?_
          obtain ⟨p10, e10, hf⟩ := Option.bind_eq_some_iff.mp hf
          refine ty_callVI p10 ([.int (0 : Int32), .int a4]) ([]) rX12_safest_44 l_X12_193 moX12_kindOf mvX12_kindOf h0 rfl rfl (Nat.le_of_ble_eq_true rfl) ⟨rfl, rfl⟩ (CX12_kindOf h0 e10) ?_
          obtain ⟨p11, e11, hf⟩ := tq_let_elim hf
          refine ty_callSI p11 ([.int p10]) ([]) rX12_safest_47 l_X12_230 moX12_worthOf msX12_worthOf rfl rfl (Nat.le_of_ble_eq_true rfl) ⟨rfl, rfl⟩ (CX12_worthOf  e11) ?_
          refine tq_aload_n rX12_safest_50 rfl ?_
          refine tq_iconst (0 : Int32) rX12_safest_51 (by decide) ?_
          refine tq_iload_n rX12_safest_52 rfl ?_
          obtain ⟨p12, e12, hf⟩ := Option.bind_eq_some_iff.mp hf
          refine ty_callVI p12 ([.int (0 : Int32), .int a3]) ([.int p11]) rX12_safest_53 l_X12_193 moX12_kindOf mvX12_kindOf h0 rfl rfl (Nat.le_of_ble_eq_true rfl) ⟨rfl, rfl⟩ (CX12_kindOf h0 e12) ?_
          obtain ⟨p13, e13, hf⟩ := tq_let_elim hf
          refine ty_callSI p13 ([.int p12]) ([.int p11]) rX12_safest_56 l_X12_230 moX12_worthOf msX12_worthOf rfl rfl (Nat.le_of_ble_eq_true rfl) ⟨rfl, rfl⟩ (CX12_worthOf  e13) ?_
          refine tq_icmp_gt rX12_safest_59 (fun c14 => ?_) (fun c14 => ?_)
          · rw [if_pos c14] at hf
            exact tq_forget _ (tq_le_s (tq_le_s (tq_le_s (tq_le_s (tq_le_s tq_le_n))))) (FX12_safest_j65L11_x  h0 hf hk)
          · rw [if_neg c14] at hf
            refine tq_goto rX12_safest_62 ?_
            exact tq_forget _ (tq_le_s (tq_le_s (tq_le_s (tq_le_s (tq_le_s tq_le_n))))) (FX12_safest_j78L11_x  h0 hf hk)

set_option maxRecDepth 100000 in
set_option maxHeartbeats 4000000 in
theorem CX12_safest {S : Nat × (Nat → Int32)} {d : Nat} {I : tq_PI} {L : tq_PL} {a0 : Nat} {a1 : Int32} {a2 : Int32} (h0 : tq_sh0 a0 = 12) {out : Int32 × tq_PI} (hf : FX12_safest I L a0 a1 a2 = some out) : tq_K S mX12_safest (d + 5) [.ref a0, .int a1, .int a2] I L (tq_one2 (some (.int out.1)) out.2 L) := by
  unfold FX12_safest at hf
  refine tq_K_of (by decide) (Nat.le_of_ble_eq_true rfl) (ls := [.ref a0, .int a1, .int a2, tq_u, tq_u]) rfl ?_
  refine tq_aload_n rX12_safest_0 rfl ?_
  refine tq_iconst (0 : Int32) rX12_safest_1 (by decide) ?_
  refine tq_iload_n rX12_safest_2 rfl ?_
  obtain ⟨p1, e1, hf⟩ := Option.bind_eq_some_iff.mp hf
  refine ty_callVV ([.int (0 : Int32), .int a1]) ([]) rX12_safest_3 l_X12_274 moX12_reaches mvX12_reaches h0 rfl rfl (Nat.le_of_ble_eq_true rfl) ⟨rfl, rfl⟩ (CX12_reaches h0 e1) ?_
  refine tq_iconst (-1 : Int32) rX12_safest_6 (by decide) ?_
  refine tq_istore_n ([.ref a0, .int a1, .int a2, .int (-1 : Int32), tq_u]) rX12_safest_7 (Nat.le_of_ble_eq_true rfl) rfl ?_
  refine tq_iconst (0 : Int32) rX12_safest_8 (by decide) ?_
  refine tq_istore ([.ref a0, .int a1, .int a2, .int (-1 : Int32), .int (0 : Int32)]) rX12_safest_9 (Nat.le_of_ble_eq_true rfl) rfl ?_
  obtain ⟨p15, e15, hf⟩ := Option.bind_eq_some_iff.mp hf
  refine tq_forget _ (tq_le_s (tq_le_s (tq_le_s (tq_le_s (tq_le_s tq_le_n))))) ?_
  refine tq_it_elim (P := fun p : Int32 × Int32 × tq_PI => tq_X S mX12_safest (d + 5) tq_k0 11 ([.ref a0, .int a1, .int a2, .int p.1, .int p.2.1]) [] (tq_st p.2.2 L) (tq_Q (tq_one2 (some (.int out.1)) out.2 L))) (R := fun p : Int32 × tq_PI => tq_X S mX12_safest (d + 5) tq_k0 84 ([tq_u, tq_u, tq_u, .int p.1, tq_u]) [] (tq_st p.2 L) (tq_Q (tq_one2 (some (.int out.1)) out.2 L))) (fun p o hp hk => FX12_safest_s11_x  h0 hp hk) _ (((-1 : Int32), (0 : Int32), p1)) _ e15 ?_
  show tq_X _ _ _ _ _ _ _ _ _
  refine tq_iload_n rX12_safest_84 rfl ?_
  refine ty_iret rX12_safest_85 rfl rfl ?_
  have hf := Option.some.inj hf
  subst hf
  exact ⟨rfl, rfl, rfl⟩

abbrev mX12_steady : tq_M := (yX12_steady, cX12_steady, 7, (Option.some Jvm.ClassFile.FieldType.int), 0, 0)
theorem moX12_safest : tq_mok mX12_safest 2 := ⟨tq_sg1 _ (List.mem_of_getElem? (i := 13) rfl), tq_sg8 _ (List.mem_of_getElem? (i := 30) rfl), ⟨by decide, by decide, by decide +kernel⟩, by decide⟩
theorem mvX12_safest : 12 < 13 ∧ (tq_cl 12).1 = mX12_safest.1.cls ∧ Cond.instanceMethod mX12_safest.1 ∈ lw_tbl ∧ Cond.selects mX12_safest.1.cls mX12_safest.1 mX12_safest.1 ∈ lw_tbl := ⟨by decide, rfl, tq_sg8 _ (List.mem_of_getElem? (i := 29) rfl), List.mem_append_left _ (List.mem_map.mpr ⟨_, List.mem_of_getElem? (i := 89) rfl, rfl⟩)⟩
theorem l_X12_314 : tq_lok RX12 314 mX12_safest.1 := Or.inl (tq_sg8 _ (List.mem_of_getElem? (i := 27) rfl))
theorem rX12_steady_0 : tq_D cX12_steady 0 (.aload_n 0) 1 1 := ⟨by decide +kernel, rfl⟩
theorem rX12_steady_1 : tq_D cX12_steady 1 (.iload_n 1) 1 2 := ⟨by decide +kernel, rfl⟩
theorem rX12_steady_2 : tq_D cX12_steady 2 (.invokevirtual 221) 3 5 := ⟨by decide +kernel, rfl⟩
theorem rX12_steady_5 : tq_J cX12_steady 5 (.ifCond .eq) 15 8 := ⟨10, by decide +kernel, by decide, rfl⟩
theorem rX12_steady_8 : tq_D cX12_steady 8 (.iload_n 2) 1 9 := ⟨by decide +kernel, rfl⟩
theorem rX12_steady_9 : tq_D cX12_steady 9 (.invokestatic 227) 3 12 := ⟨by decide +kernel, rfl⟩
theorem rX12_steady_12 : tq_J cX12_steady 12 (.ifCond .ne) 17 15 := ⟨5, by decide +kernel, by decide, rfl⟩
theorem rX12_steady_15 : tq_D cX12_steady 15 (.iconst (-1)) 1 16 := ⟨by decide +kernel, rfl⟩
theorem rX12_steady_16 : decode cX12_steady 16 = .ok (.ireturn, 1) := by decide +kernel
theorem rX12_steady_17 : tq_D cX12_steady 17 (.aload_n 0) 1 18 := ⟨by decide +kernel, rfl⟩
theorem rX12_steady_18 : tq_D cX12_steady 18 (.invokevirtual 224) 3 21 := ⟨by decide +kernel, rfl⟩
theorem rX12_steady_21 : tq_D cX12_steady 21 (.iconst 0) 1 22 := ⟨by decide +kernel, rfl⟩
theorem rX12_steady_22 : tq_D cX12_steady 22 (.istore 4) 2 24 := ⟨by decide +kernel, rfl⟩
theorem rX12_steady_24 : tq_D cX12_steady 24 (.iconst 0) 1 25 := ⟨by decide +kernel, rfl⟩
theorem rX12_steady_25 : tq_D cX12_steady 25 (.istore 5) 2 27 := ⟨by decide +kernel, rfl⟩
theorem rX12_steady_27 : tq_D cX12_steady 27 (.aload_n 0) 1 28 := ⟨by decide +kernel, rfl⟩
theorem rX12_steady_28 : tq_D cX12_steady 28 (.iload_n 2) 1 29 := ⟨by decide +kernel, rfl⟩
theorem rX12_steady_29 : tq_D cX12_steady 29 (.iconst 0) 1 30 := ⟨by decide +kernel, rfl⟩
theorem rX12_steady_30 : tq_D cX12_steady 30 (.invokevirtual 314) 3 33 := ⟨by decide +kernel, rfl⟩
theorem rX12_steady_33 : tq_D cX12_steady 33 (.istore 6) 2 35 := ⟨by decide +kernel, rfl⟩
theorem rX12_steady_35 : tq_D cX12_steady 35 (.iload 6) 2 37 := ⟨by decide +kernel, rfl⟩
theorem rX12_steady_37 : tq_D cX12_steady 37 (.iconst (-1)) 1 38 := ⟨by decide +kernel, rfl⟩
theorem rX12_steady_38 : tq_J cX12_steady 38 (.if_icmp .eq) 78 41 := ⟨40, by decide +kernel, by decide, rfl⟩
theorem rX12_steady_41 : tq_D cX12_steady 41 (.iinc 4 1) 3 44 := ⟨by decide +kernel, rfl⟩
theorem rX12_steady_44 : tq_D cX12_steady 44 (.iload 5) 2 46 := ⟨by decide +kernel, rfl⟩
theorem rX12_steady_46 : tq_D cX12_steady 46 (.aload_n 0) 1 47 := ⟨by decide +kernel, rfl⟩
theorem rX12_steady_47 : tq_D cX12_steady 47 (.iconst 0) 1 48 := ⟨by decide +kernel, rfl⟩
theorem rX12_steady_48 : tq_D cX12_steady 48 (.iload 6) 2 50 := ⟨by decide +kernel, rfl⟩
theorem rX12_steady_50 : tq_D cX12_steady 50 (.invokevirtual 193) 3 53 := ⟨by decide +kernel, rfl⟩
theorem rX12_steady_53 : tq_D cX12_steady 53 (.invokestatic 230) 3 56 := ⟨by decide +kernel, rfl⟩
theorem rX12_steady_56 : tq_D cX12_steady 56 (.iadd) 1 57 := ⟨by decide +kernel, rfl⟩
theorem rX12_steady_57 : tq_D cX12_steady 57 (.istore 5) 2 59 := ⟨by decide +kernel, rfl⟩
theorem rX12_steady_59 : tq_D cX12_steady 59 (.aload_n 0) 1 60 := ⟨by decide +kernel, rfl⟩
theorem rX12_steady_60 : tq_D cX12_steady 60 (.getfield 20) 3 63 := ⟨by decide +kernel, rfl⟩
theorem rX12_steady_63 : tq_D cX12_steady 63 (.iload 6) 2 65 := ⟨by decide +kernel, rfl⟩
theorem rX12_steady_65 : tq_D cX12_steady 65 (.iconst 0) 1 66 := ⟨by decide +kernel, rfl⟩
theorem rX12_steady_66 : tq_D cX12_steady 66 (.iastore) 1 67 := ⟨by decide +kernel, rfl⟩
theorem rX12_steady_67 : tq_D cX12_steady 67 (.aload_n 0) 1 68 := ⟨by decide +kernel, rfl⟩
theorem rX12_steady_68 : tq_D cX12_steady 68 (.iload_n 2) 1 69 := ⟨by decide +kernel, rfl⟩
theorem rX12_steady_69 : tq_D cX12_steady 69 (.iconst 0) 1 70 := ⟨by decide +kernel, rfl⟩
theorem rX12_steady_70 : tq_D cX12_steady 70 (.invokevirtual 314) 3 73 := ⟨by decide +kernel, rfl⟩
theorem rX12_steady_73 : tq_D cX12_steady 73 (.istore 6) 2 75 := ⟨by decide +kernel, rfl⟩
theorem rX12_steady_75 : tq_J cX12_steady 75 .goto 35 78 := ⟨(-40), by decide +kernel, by decide, rfl⟩
theorem rX12_steady_78 : tq_D cX12_steady 78 (.iload_n 3) 1 79 := ⟨by decide +kernel, rfl⟩
theorem rX12_steady_79 : tq_J cX12_steady 79 (.ifCond .eq) 87 82 := ⟨8, by decide +kernel, by decide, rfl⟩
theorem rX12_steady_82 : tq_D cX12_steady 82 (.iload 5) 2 84 := ⟨by decide +kernel, rfl⟩
theorem rX12_steady_84 : tq_J cX12_steady 84 .goto 89 87 := ⟨5, by decide +kernel, by decide, rfl⟩
theorem rX12_steady_87 : tq_D cX12_steady 87 (.iload 4) 2 89 := ⟨by decide +kernel, rfl⟩
theorem rX12_steady_89 : decode cX12_steady 89 = .ok (.ireturn, 1) := by decide +kernel
noncomputable def FX12_steady_j15 (I : tq_PI) (L : tq_PL)  : Option (Int32 × tq_PI) :=
  some ((-1 : Int32), I)
noncomputable def FX12_steady_s35 (I : tq_PI) (L : tq_PL) (a0 : Nat) (a2 : Int32) (a3 : Int32) (a4 : Int32) (a5 : Int32) (a6 : Int32) : Option ((Int32 × Int32 × Int32 × tq_PI) ⊕ (Int32 × Int32 × tq_PI)) :=
  (if a6 = (-1 : Int32) then some (.inr (a4, a5, I)) else ((FX12_kindOf I L a0 ((0 : Int32)) a6).bind fun p8 => (tq_let (FX12_worthOf I L p8) fun p9 => (if 0 ≤ a6 ∧ a6 < 192 then ((FX12_safest ((tq_up2 I (tq_rg a0 15) a6.toNatClampNeg (0 : Int32))) L a0 a2 ((0 : Int32))).bind fun p11 => some (.inl ((a4 + 1), (a5 + p9), p11.1, p11.2))) else none))))
noncomputable def FX12_steady (I : tq_PI) (L : tq_PL) (a0 : Nat) (a1 : Int32) (a2 : Int32) (a3 : Int32) : Option (Int32 × tq_PI) :=
  ((FX12_isHill I L a0 a1).bind fun p1 => (if (tq_b p1.1) = 0 then (FX12_steady_j15 p1.2 L ) else (tq_let (FX12_isSide p1.2 L a2) fun p3 => (if (tq_b p3) = 0 then (FX12_steady_j15 p1.2 L ) else ((FX12_asTold p1.2 L a0).bind fun p5 => ((FX12_safest p5 L a0 a2 ((0 : Int32))).bind fun p6 => ((tq_it (fun p : Int32 × Int32 × Int32 × tq_PI => FX12_steady_s35 p.2.2.2 L a0 a2 a3 p.1 p.2.1 p.2.2.1) tq_N ((0 : Int32), (0 : Int32), p6.1, p6.2)).bind fun p12 => (if a3 = 0 then some (p12.1, p12.2.2) else some (p12.2.1, p12.2.2)))))))))
set_option maxRecDepth 100000 in
set_option maxHeartbeats 4000000 in
theorem FX12_steady_j15_x {S : Nat × (Nat → Int32)} {d : Nat} {I : tq_PI} {L : tq_PL}   {q0 : Option Value → tq_PI → tq_PL → Prop} {out : Int32 × tq_PI} (hf : FX12_steady_j15 I L = some out) (hk : q0 (some (.int out.1)) out.2 L) : tq_X S mX12_steady (d + 6) tq_k0 15 ([tq_u, tq_u, tq_u, tq_u, tq_u, tq_u, tq_u]) ([]) (tq_st I L) (tq_Q q0) := by
  unfold FX12_steady_j15 at hf
  refine tq_iconst (-1 : Int32) rX12_steady_15 (by decide) ?_
  refine ty_iret rX12_steady_16 rfl rfl ?_
  have hf := Option.some.inj hf
  subst hf
  exact hk

set_option maxRecDepth 100000 in
set_option maxHeartbeats 4000000 in
theorem FX12_steady_s35_x {S : Nat × (Nat → Int32)} {d : Nat} {I : tq_PI} {L : tq_PL} {a0 : Nat} {a2 : Int32} {a3 : Int32} {a4 : Int32} {a5 : Int32} {a6 : Int32} (h0 : tq_sh0 a0 = 12) {q0 : Option Value → tq_PI → tq_PL → Prop} {out : (Int32 × Int32 × Int32 × tq_PI) ⊕ (Int32 × Int32 × tq_PI)} (hf : FX12_steady_s35 I L a0 a2 a3 a4 a5 a6 = some out) (hk : Sum.elim (fun p : Int32 × Int32 × Int32 × tq_PI => tq_X S mX12_steady (d + 6) tq_k0 35 ([.ref a0, tq_u, .int a2, .int a3, .int p.1, .int p.2.1, .int p.2.2.1]) [] (tq_st p.2.2.2 L) (tq_Q q0)) (fun p : Int32 × Int32 × tq_PI => tq_X S mX12_steady (d + 6) tq_k0 78 ([tq_u, tq_u, tq_u, .int a3, .int p.1, .int p.2.1, tq_u]) [] (tq_st p.2.2 L) (tq_Q q0)) out) : tq_X S mX12_steady (d + 6) tq_k0 35 ([.ref a0, tq_u, .int a2, .int a3, .int a4, .int a5, .int a6]) [] (tq_st I L) (tq_Q q0) := by
  unfold FX12_steady_s35 at hf
  refine tq_iload rX12_steady_35 rfl ?_
  refine tq_iconst (-1 : Int32) rX12_steady_37 (by decide) ?_
  refine tq_icmp_eq rX12_steady_38 (fun c7 => ?_) (fun c7 => ?_)
  · rw [if_pos c7] at hf
    have hf := Option.some.inj hf
    subst hf
    exact tq_forget _ (tq_le_u (tq_le_u (tq_le_u (tq_le_s (tq_le_s (tq_le_s (tq_le_u tq_le_n))))))) hk
  · rw [if_neg c7] at hf
    refine tq_iinc (a4 + 1) ([.ref a0, tq_u, .int a2, .int a3, .int (a4 + 1), .int a5, .int a6]) rX12_steady_41 rfl (tq_inc (by decide)) (Nat.le_of_ble_eq_true rfl) rfl ?_
    refine tq_iload rX12_steady_44 rfl ?_
    refine tq_aload_n rX12_steady_46 rfl ?_
    refine tq_iconst (0 : Int32) rX12_steady_47 (by decide) ?_
    refine tq_iload rX12_steady_48 rfl ?_
    obtain ⟨p8, e8, hf⟩ := Option.bind_eq_some_iff.mp hf
    refine ty_callVI p8 ([.int (0 : Int32), .int a6]) ([.int a5]) rX12_steady_50 l_X12_193 moX12_kindOf mvX12_kindOf h0 rfl rfl (Nat.le_of_ble_eq_true rfl) ⟨rfl, rfl⟩ (CX12_kindOf h0 e8) ?_
    obtain ⟨p9, e9, hf⟩ := tq_let_elim hf
    refine ty_callSI p9 ([.int p8]) ([.int a5]) rX12_steady_53 l_X12_230 moX12_worthOf msX12_worthOf rfl rfl (Nat.le_of_ble_eq_true rfl) ⟨rfl, rfl⟩ (CX12_worthOf  e9) ?_
    refine tq_iadd rX12_steady_56 ?_
    refine tq_istore ([.ref a0, tq_u, .int a2, .int a3, .int (a4 + 1), .int (a5 + p9), .int a6]) rX12_steady_57 (Nat.le_of_ble_eq_true rfl) rfl ?_
    refine tq_aload_n rX12_steady_59 rfl ?_
    refine ty_getR rX12_steady_60 f_X12_20 rfl h0 (hp_12_15 h0).1 ?_
    refine tq_iload rX12_steady_63 rfl ?_
    refine tq_iconst (0 : Int32) rX12_steady_65 (by decide) ?_
    obtain ⟨g10, hf⟩ := tq_chk hf
    refine ty_iast (v := 192) rX12_steady_66 (hp_12_15 h0).2.1 (hp_12_15 h0).2.2 rfl (by decide) g10 ?_
    refine tq_aload_n rX12_steady_67 rfl ?_
    refine tq_iload_n rX12_steady_68 rfl ?_
    refine tq_iconst (0 : Int32) rX12_steady_69 (by decide) ?_
    obtain ⟨p11, e11, hf⟩ := Option.bind_eq_some_iff.mp hf
    refine ty_callVI p11.1 ([.int a2, .int (0 : Int32)]) ([]) rX12_steady_70 l_X12_314 moX12_safest mvX12_safest h0 rfl rfl (Nat.le_of_ble_eq_true rfl) ⟨rfl, rfl⟩ (CX12_safest h0 e11) ?_
    refine tq_istore ([.ref a0, tq_u, .int a2, .int a3, .int (a4 + 1), .int (a5 + p9), .int p11.1]) rX12_steady_73 (Nat.le_of_ble_eq_true rfl) rfl ?_
    refine tq_goto rX12_steady_75 ?_
    have hf := Option.some.inj hf
    subst hf
    exact tq_forget _ (tq_le_s (tq_le_u (tq_le_s (tq_le_s (tq_le_s (tq_le_s (tq_le_s tq_le_n))))))) hk

set_option maxRecDepth 100000 in
set_option maxHeartbeats 4000000 in
theorem CX12_steady {S : Nat × (Nat → Int32)} {d : Nat} {I : tq_PI} {L : tq_PL} {a0 : Nat} {a1 : Int32} {a2 : Int32} {a3 : Int32} (h0 : tq_sh0 a0 = 12) {out : Int32 × tq_PI} (hf : FX12_steady I L a0 a1 a2 a3 = some out) : tq_K S mX12_steady (d + 6) [.ref a0, .int a1, .int a2, .int a3] I L (tq_one2 (some (.int out.1)) out.2 L) := by
  unfold FX12_steady at hf
  refine tq_K_of (by decide) (Nat.le_of_ble_eq_true rfl) (ls := [.ref a0, .int a1, .int a2, .int a3, tq_u, tq_u, tq_u]) rfl ?_
  refine tq_aload_n rX12_steady_0 rfl ?_
  refine tq_iload_n rX12_steady_1 rfl ?_
  obtain ⟨p1, e1, hf⟩ := Option.bind_eq_some_iff.mp hf
  refine ty_callVI (tq_b p1.1) ([.int a1]) ([]) rX12_steady_2 l_X12_221 moX12_isHill mvX12_isHill h0 rfl rfl (Nat.le_of_ble_eq_true rfl) ⟨rfl, rfl⟩ (CX12_isHill h0 e1) ?_
  refine tq_if_eq rX12_steady_5 (fun c2 => ?_) (fun c2 => ?_)
  · rw [if_pos c2] at hf
    exact tq_forget _ (tq_le_u (tq_le_u (tq_le_u (tq_le_u (tq_le_u (tq_le_u (tq_le_u tq_le_n))))))) (FX12_steady_j15_x   hf ⟨rfl, rfl, rfl⟩)
  · rw [if_neg c2] at hf
    refine tq_iload_n rX12_steady_8 rfl ?_
    obtain ⟨p3, e3, hf⟩ := tq_let_elim hf
    refine ty_callSI (tq_b p3) ([.int a2]) ([]) rX12_steady_9 l_X12_227 moX12_isSide msX12_isSide rfl rfl (Nat.le_of_ble_eq_true rfl) ⟨rfl, rfl⟩ (CX12_isSide  e3) ?_
    refine tq_if_ne rX12_steady_12 (fun c4 => ?_) (fun c4 => ?_)
    · rw [if_neg c4] at hf
      refine tq_aload_n rX12_steady_17 rfl ?_
      obtain ⟨p5, e5, hf⟩ := Option.bind_eq_some_iff.mp hf
      refine ty_callVV ([]) ([]) rX12_steady_18 l_X12_224 moX12_asTold mvX12_asTold h0 rfl rfl (Nat.le_of_ble_eq_true rfl) ⟨rfl, rfl⟩ (CX12_asTold h0 e5) ?_
      refine tq_iconst (0 : Int32) rX12_steady_21 (by decide) ?_
      refine tq_istore ([.ref a0, .int a1, .int a2, .int a3, .int (0 : Int32), tq_u, tq_u]) rX12_steady_22 (Nat.le_of_ble_eq_true rfl) rfl ?_
      refine tq_iconst (0 : Int32) rX12_steady_24 (by decide) ?_
      refine tq_istore ([.ref a0, .int a1, .int a2, .int a3, .int (0 : Int32), .int (0 : Int32), tq_u]) rX12_steady_25 (Nat.le_of_ble_eq_true rfl) rfl ?_
      refine tq_aload_n rX12_steady_27 rfl ?_
      refine tq_iload_n rX12_steady_28 rfl ?_
      refine tq_iconst (0 : Int32) rX12_steady_29 (by decide) ?_
      obtain ⟨p6, e6, hf⟩ := Option.bind_eq_some_iff.mp hf
      refine ty_callVI p6.1 ([.int a2, .int (0 : Int32)]) ([]) rX12_steady_30 l_X12_314 moX12_safest mvX12_safest h0 rfl rfl (Nat.le_of_ble_eq_true rfl) ⟨rfl, rfl⟩ (CX12_safest h0 e6) ?_
      refine tq_istore ([.ref a0, .int a1, .int a2, .int a3, .int (0 : Int32), .int (0 : Int32), .int p6.1]) rX12_steady_33 (Nat.le_of_ble_eq_true rfl) rfl ?_
      obtain ⟨p12, e12, hf⟩ := Option.bind_eq_some_iff.mp hf
      refine tq_forget _ (tq_le_s (tq_le_u (tq_le_s (tq_le_s (tq_le_s (tq_le_s (tq_le_s tq_le_n))))))) ?_
      refine tq_it_elim (P := fun p : Int32 × Int32 × Int32 × tq_PI => tq_X S mX12_steady (d + 6) tq_k0 35 ([.ref a0, tq_u, .int a2, .int a3, .int p.1, .int p.2.1, .int p.2.2.1]) [] (tq_st p.2.2.2 L) (tq_Q (tq_one2 (some (.int out.1)) out.2 L))) (R := fun p : Int32 × Int32 × tq_PI => tq_X S mX12_steady (d + 6) tq_k0 78 ([tq_u, tq_u, tq_u, .int a3, .int p.1, .int p.2.1, tq_u]) [] (tq_st p.2.2 L) (tq_Q (tq_one2 (some (.int out.1)) out.2 L))) (fun p o hp hk => FX12_steady_s35_x  h0 hp hk) _ (((0 : Int32), (0 : Int32), p6.1, p6.2)) _ e12 ?_
      show tq_X _ _ _ _ _ _ _ _ _
      refine tq_iload_n rX12_steady_78 rfl ?_
      refine tq_if_eq rX12_steady_79 (fun c13 => ?_) (fun c13 => ?_)
      · rw [if_pos c13] at hf
        refine tq_iload rX12_steady_87 rfl ?_
        refine ty_iret rX12_steady_89 rfl rfl ?_
        have hf := Option.some.inj hf
        subst hf
        exact ⟨rfl, rfl, rfl⟩
      · rw [if_neg c13] at hf
        refine tq_iload rX12_steady_82 rfl ?_
        refine tq_goto rX12_steady_84 ?_
        refine ty_iret rX12_steady_89 rfl rfl ?_
        have hf := Option.some.inj hf
        subst hf
        exact ⟨rfl, rfl, rfl⟩
    · rw [if_pos c4] at hf
      exact tq_forget _ (tq_le_u (tq_le_u (tq_le_u (tq_le_u (tq_le_u (tq_le_u (tq_le_u tq_le_n))))))) (FX12_steady_j15_x   hf ⟨rfl, rfl, rfl⟩)

abbrev mX12_race : tq_M := (yX12_race, cX12_race, 6, (Option.some Jvm.ClassFile.FieldType.int), 0, 0)
theorem rX12_race_0 : tq_D cX12_race 0 (.aload_n 0) 1 1 := ⟨by decide +kernel, rfl⟩
theorem rX12_race_1 : tq_D cX12_race 1 (.iload_n 1) 1 2 := ⟨by decide +kernel, rfl⟩
theorem rX12_race_2 : tq_D cX12_race 2 (.invokevirtual 221) 3 5 := ⟨by decide +kernel, rfl⟩
theorem rX12_race_5 : tq_J cX12_race 5 (.ifCond .eq) 27 8 := ⟨22, by decide +kernel, by decide, rfl⟩
theorem rX12_race_8 : tq_D cX12_race 8 (.iload_n 2) 1 9 := ⟨by decide +kernel, rfl⟩
theorem rX12_race_9 : tq_D cX12_race 9 (.iconst 0) 1 10 := ⟨by decide +kernel, rfl⟩
theorem rX12_race_10 : tq_D cX12_race 10 (.bipush 40) 2 12 := ⟨by decide +kernel, rfl⟩
theorem rX12_race_12 : tq_D cX12_race 12 (.invokestatic 118) 3 15 := ⟨by decide +kernel, rfl⟩
theorem rX12_race_15 : tq_J cX12_race 15 (.ifCond .eq) 27 18 := ⟨12, by decide +kernel, by decide, rfl⟩
theorem rX12_race_18 : tq_D cX12_race 18 (.iload_n 3) 1 19 := ⟨by decide +kernel, rfl⟩
theorem rX12_race_19 : tq_D cX12_race 19 (.iconst 0) 1 20 := ⟨by decide +kernel, rfl⟩
theorem rX12_race_20 : tq_D cX12_race 20 (.iconst 2) 1 21 := ⟨by decide +kernel, rfl⟩
theorem rX12_race_21 : tq_D cX12_race 21 (.invokestatic 118) 3 24 := ⟨by decide +kernel, rfl⟩
theorem rX12_race_24 : tq_J cX12_race 24 (.ifCond .ne) 30 27 := ⟨6, by decide +kernel, by decide, rfl⟩
theorem rX12_race_27 : tq_D cX12_race 27 (.bipush (-2)) 2 29 := ⟨by decide +kernel, rfl⟩
theorem rX12_race_29 : decode cX12_race 29 = .ok (.ireturn, 1) := by decide +kernel
theorem rX12_race_30 : tq_D cX12_race 30 (.aload_n 0) 1 31 := ⟨by decide +kernel, rfl⟩
theorem rX12_race_31 : tq_D cX12_race 31 (.invokevirtual 289) 3 34 := ⟨by decide +kernel, rfl⟩
theorem rX12_race_34 : tq_D cX12_race 34 (.iconst 0) 1 35 := ⟨by decide +kernel, rfl⟩
theorem rX12_race_35 : tq_D cX12_race 35 (.istore 4) 2 37 := ⟨by decide +kernel, rfl⟩
theorem rX12_race_37 : tq_D cX12_race 37 (.iload 4) 2 39 := ⟨by decide +kernel, rfl⟩
theorem rX12_race_39 : tq_D cX12_race 39 (.iload_n 2) 1 40 := ⟨by decide +kernel, rfl⟩
theorem rX12_race_40 : tq_J cX12_race 40 (.if_icmp .ge) 99 43 := ⟨59, by decide +kernel, by decide, rfl⟩
theorem rX12_race_43 : tq_D cX12_race 43 (.aload_n 0) 1 44 := ⟨by decide +kernel, rfl⟩
theorem rX12_race_44 : tq_D cX12_race 44 (.iload 4) 2 46 := ⟨by decide +kernel, rfl⟩
theorem rX12_race_46 : tq_D cX12_race 46 (.iconst 2) 1 47 := ⟨by decide +kernel, rfl⟩
theorem rX12_race_47 : tq_D cX12_race 47 (.irem) 1 48 := ⟨by decide +kernel, rfl⟩
theorem rX12_race_48 : tq_D cX12_race 48 (.iconst 1) 1 49 := ⟨by decide +kernel, rfl⟩
theorem rX12_race_49 : tq_D cX12_race 49 (.invokevirtual 314) 3 52 := ⟨by decide +kernel, rfl⟩
theorem rX12_race_52 : tq_D cX12_race 52 (.istore 5) 2 54 := ⟨by decide +kernel, rfl⟩
theorem rX12_race_54 : tq_D cX12_race 54 (.iload 5) 2 56 := ⟨by decide +kernel, rfl⟩
theorem rX12_race_56 : tq_D cX12_race 56 (.iconst (-1)) 1 57 := ⟨by decide +kernel, rfl⟩
theorem rX12_race_57 : tq_J cX12_race 57 (.if_icmp .ne) 63 60 := ⟨6, by decide +kernel, by decide, rfl⟩
theorem rX12_race_60 : tq_J cX12_race 60 .goto 93 63 := ⟨33, by decide +kernel, by decide, rfl⟩
theorem rX12_race_63 : tq_D cX12_race 63 (.aload_n 0) 1 64 := ⟨by decide +kernel, rfl⟩
theorem rX12_race_64 : tq_D cX12_race 64 (.getfield 32) 3 67 := ⟨by decide +kernel, rfl⟩
theorem rX12_race_67 : tq_D cX12_race 67 (.iload 4) 2 69 := ⟨by decide +kernel, rfl⟩
theorem rX12_race_69 : tq_D cX12_race 69 (.iconst 2) 1 70 := ⟨by decide +kernel, rfl⟩
theorem rX12_race_70 : tq_D cX12_race 70 (.irem) 1 71 := ⟨by decide +kernel, rfl⟩
theorem rX12_race_71 : tq_D cX12_race 71 (.dup2) 1 72 := ⟨by decide +kernel, rfl⟩
theorem rX12_race_72 : tq_D cX12_race 72 (.iaload) 1 73 := ⟨by decide +kernel, rfl⟩
theorem rX12_race_73 : tq_D cX12_race 73 (.aload_n 0) 1 74 := ⟨by decide +kernel, rfl⟩
theorem rX12_race_74 : tq_D cX12_race 74 (.iconst 0) 1 75 := ⟨by decide +kernel, rfl⟩
theorem rX12_race_75 : tq_D cX12_race 75 (.iload 5) 2 77 := ⟨by decide +kernel, rfl⟩
theorem rX12_race_77 : tq_D cX12_race 77 (.invokevirtual 193) 3 80 := ⟨by decide +kernel, rfl⟩
theorem rX12_race_80 : tq_D cX12_race 80 (.invokestatic 230) 3 83 := ⟨by decide +kernel, rfl⟩
theorem rX12_race_83 : tq_D cX12_race 83 (.iadd) 1 84 := ⟨by decide +kernel, rfl⟩
theorem rX12_race_84 : tq_D cX12_race 84 (.iastore) 1 85 := ⟨by decide +kernel, rfl⟩
theorem rX12_race_85 : tq_D cX12_race 85 (.aload_n 0) 1 86 := ⟨by decide +kernel, rfl⟩
theorem rX12_race_86 : tq_D cX12_race 86 (.getfield 20) 3 89 := ⟨by decide +kernel, rfl⟩
theorem rX12_race_89 : tq_D cX12_race 89 (.iload 5) 2 91 := ⟨by decide +kernel, rfl⟩
theorem rX12_race_91 : tq_D cX12_race 91 (.iconst 0) 1 92 := ⟨by decide +kernel, rfl⟩
theorem rX12_race_92 : tq_D cX12_race 92 (.iastore) 1 93 := ⟨by decide +kernel, rfl⟩
theorem rX12_race_93 : tq_D cX12_race 93 (.iinc 4 1) 3 96 := ⟨by decide +kernel, rfl⟩
theorem rX12_race_96 : tq_J cX12_race 96 .goto 37 99 := ⟨(-59), by decide +kernel, by decide, rfl⟩
theorem rX12_race_99 : tq_D cX12_race 99 (.iload_n 3) 1 100 := ⟨by decide +kernel, rfl⟩
theorem rX12_race_100 : tq_D cX12_race 100 (.iconst 2) 1 101 := ⟨by decide +kernel, rfl⟩
theorem rX12_race_101 : tq_J cX12_race 101 (.if_icmp .ne) 112 104 := ⟨11, by decide +kernel, by decide, rfl⟩
theorem rX12_race_104 : tq_D cX12_race 104 (.aload_n 0) 1 105 := ⟨by decide +kernel, rfl⟩
theorem rX12_race_105 : tq_D cX12_race 105 (.iconst 0) 1 106 := ⟨by decide +kernel, rfl⟩
theorem rX12_race_106 : tq_D cX12_race 106 (.invokevirtual 256) 3 109 := ⟨by decide +kernel, rfl⟩
theorem rX12_race_109 : tq_J cX12_race 109 .goto 118 112 := ⟨9, by decide +kernel, by decide, rfl⟩
theorem rX12_race_112 : tq_D cX12_race 112 (.aload_n 0) 1 113 := ⟨by decide +kernel, rfl⟩
theorem rX12_race_113 : tq_D cX12_race 113 (.getfield 32) 3 116 := ⟨by decide +kernel, rfl⟩
theorem rX12_race_116 : tq_D cX12_race 116 (.iload_n 3) 1 117 := ⟨by decide +kernel, rfl⟩
theorem rX12_race_117 : tq_D cX12_race 117 (.iaload) 1 118 := ⟨by decide +kernel, rfl⟩
theorem rX12_race_118 : decode cX12_race 118 = .ok (.ireturn, 1) := by decide +kernel
noncomputable def FX12_race_j27 (I : tq_PI) (L : tq_PL)  : Option (Int32 × tq_PI) :=
  some ((-2 : Int32), I)
noncomputable def FX12_race_j93L37 (I : tq_PI) (L : tq_PL) (a0 : Nat) (a2 : Int32) (a3 : Int32) (a4 : Int32) : Option ((Int32 × tq_PI) ⊕ (tq_PI)) :=
  some (.inl ((a4 + 1), I))
noncomputable def FX12_race_s37 (I : tq_PI) (L : tq_PL) (a0 : Nat) (a2 : Int32) (a3 : Int32) (a4 : Int32) : Option ((Int32 × tq_PI) ⊕ (tq_PI)) :=
  (if a2 ≤ a4 then some (.inr I) else (if ¬ (2 : Int32) = 0 then ((FX12_safest I L a0 ((a4 - a4 / (2 : Int32) * (2 : Int32))) ((1 : Int32))).bind fun p10 => (if p10.1 = (-1 : Int32) then (FX12_race_j93L37 p10.2 L a0 a2 a3 a4) else (if ¬ (2 : Int32) = 0 then (if 0 ≤ (a4 - a4 / (2 : Int32) * (2 : Int32)) ∧ (a4 - a4 / (2 : Int32) * (2 : Int32)) < 2 then ((FX12_kindOf p10.2 L a0 ((0 : Int32)) p10.1).bind fun p14 => (tq_let (FX12_worthOf p10.2 L p14) fun p15 => (if 0 ≤ (a4 - a4 / (2 : Int32) * (2 : Int32)) ∧ (a4 - a4 / (2 : Int32) * (2 : Int32)) < 2 then (if 0 ≤ p10.1 ∧ p10.1 < 192 then (FX12_race_j93L37 ((tq_up2 (tq_up2 p10.2 (tq_rg a0 20) ((a4 - a4 / (2 : Int32) * (2 : Int32))).toNatClampNeg ((p10.2 (tq_rg a0 20) ((a4 - a4 / (2 : Int32) * (2 : Int32))).toNatClampNeg) + p15)) (tq_rg a0 15) p10.1.toNatClampNeg (0 : Int32))) L a0 a2 a3 a4) else none) else none))) else none) else none))) else none))
noncomputable def FX12_race (I : tq_PI) (L : tq_PL) (a0 : Nat) (a1 : Int32) (a2 : Int32) (a3 : Int32) : Option (Int32 × tq_PI) :=
  ((FX12_isHill I L a0 a1).bind fun p1 => (if (tq_b p1.1) = 0 then (FX12_race_j27 p1.2 L ) else (tq_let (FX12_isIn p1.2 L a2 ((0 : Int32)) ((40 : Int32))) fun p3 => (if (tq_b p3) = 0 then (FX12_race_j27 p1.2 L ) else (tq_let (FX12_isIn p1.2 L a3 ((0 : Int32)) ((2 : Int32))) fun p5 => (if (tq_b p5) = 0 then (FX12_race_j27 p1.2 L ) else ((FX12_begins p1.2 L a0).bind fun p7 => ((tq_it (fun p : Int32 × tq_PI => FX12_race_s37 p.2 L a0 a2 a3 p.1) tq_N ((0 : Int32), p7)).bind fun p18 => (if a3 = (2 : Int32) then ((FX12_thickOf p18 L a0 ((0 : Int32))).bind fun p21 => some (p21.1, p21.2)) else (if 0 ≤ a3 ∧ a3 < 2 then some ((p18 (tq_rg a0 20) a3.toNatClampNeg), p18) else none))))))))))
set_option maxRecDepth 100000 in
set_option maxHeartbeats 4000000 in
theorem FX12_race_j27_x {S : Nat × (Nat → Int32)} {d : Nat} {I : tq_PI} {L : tq_PL}   {q0 : Option Value → tq_PI → tq_PL → Prop} {out : Int32 × tq_PI} (hf : FX12_race_j27 I L = some out) (hk : q0 (some (.int out.1)) out.2 L) : tq_X S mX12_race (d + 6) tq_k0 27 ([tq_u, tq_u, tq_u, tq_u, tq_u, tq_u]) ([]) (tq_st I L) (tq_Q q0) := by
  unfold FX12_race_j27 at hf
  refine tq_bipush (-2 : Int32) rX12_race_27 (by decide) ?_
  refine ty_iret rX12_race_29 rfl rfl ?_
  have hf := Option.some.inj hf
  subst hf
  exact hk

set_option maxRecDepth 100000 in
set_option maxHeartbeats 4000000 in
theorem FX12_race_j93L37_x {S : Nat × (Nat → Int32)} {d : Nat} {I : tq_PI} {L : tq_PL} {a0 : Nat} {a2 : Int32} {a3 : Int32} {a4 : Int32} (h0 : tq_sh0 a0 = 12) {q0 : Option Value → tq_PI → tq_PL → Prop} {out : (Int32 × tq_PI) ⊕ (tq_PI)} (hf : FX12_race_j93L37 I L a0 a2 a3 a4 = some out) (hk : Sum.elim (fun p : Int32 × tq_PI => tq_X S mX12_race (d + 6) tq_k0 37 ([.ref a0, tq_u, .int a2, .int a3, .int p.1, tq_u]) [] (tq_st p.2 L) (tq_Q q0)) (fun p : tq_PI => tq_X S mX12_race (d + 6) tq_k0 99 ([.ref a0, tq_u, tq_u, .int a3, tq_u, tq_u]) [] (tq_st p L) (tq_Q q0)) out) : tq_X S mX12_race (d + 6) tq_k0 93 ([.ref a0, tq_u, .int a2, .int a3, .int a4, tq_u]) ([]) (tq_st I L) (tq_Q q0) := by
  unfold FX12_race_j93L37 at hf
  refine tq_iinc (a4 + 1) ([.ref a0, tq_u, .int a2, .int a3, .int (a4 + 1), tq_u]) rX12_race_93 rfl (tq_inc (by decide)) (Nat.le_of_ble_eq_true rfl) rfl ?_
  refine tq_goto rX12_race_96 ?_
  have hf := Option.some.inj hf
  subst hf
  exact tq_forget _ (tq_le_s (tq_le_u (tq_le_s (tq_le_s (tq_le_s (tq_le_u tq_le_n)))))) hk

set_option maxRecDepth 100000 in
set_option maxHeartbeats 4000000 in
theorem FX12_race_s37_x {S : Nat × (Nat → Int32)} {d : Nat} {I : tq_PI} {L : tq_PL} {a0 : Nat} {a2 : Int32} {a3 : Int32} {a4 : Int32} (h0 : tq_sh0 a0 = 12) {q0 : Option Value → tq_PI → tq_PL → Prop} {out : (Int32 × tq_PI) ⊕ (tq_PI)} (hf : FX12_race_s37 I L a0 a2 a3 a4 = some out) (hk : Sum.elim (fun p : Int32 × tq_PI => tq_X S mX12_race (d + 6) tq_k0 37 ([.ref a0, tq_u, .int a2, .int a3, .int p.1, tq_u]) [] (tq_st p.2 L) (tq_Q q0)) (fun p : tq_PI => tq_X S mX12_race (d + 6) tq_k0 99 ([.ref a0, tq_u, tq_u, .int a3, tq_u, tq_u]) [] (tq_st p L) (tq_Q q0)) out) : tq_X S mX12_race (d + 6) tq_k0 37 ([.ref a0, tq_u, .int a2, .int a3, .int a4, tq_u]) [] (tq_st I L) (tq_Q q0) := by
  unfold FX12_race_s37 at hf
  refine tq_iload rX12_race_37 rfl ?_
  refine tq_iload_n rX12_race_39 rfl ?_
  refine tq_icmp_ge rX12_race_40 (fun c8 => ?_) (fun c8 => ?_)
  · rw [if_pos c8] at hf
    have hf := Option.some.inj hf
    subst hf
    exact tq_forget _ (tq_le_s (tq_le_u (tq_le_u (tq_le_s (tq_le_u (tq_le_u tq_le_n)))))) hk
  · rw [if_neg c8] at hf
    refine tq_aload_n rX12_race_43 rfl ?_
    refine tq_iload rX12_race_44 rfl ?_
    refine tq_iconst (2 : Int32) rX12_race_46 (by decide) ?_
    obtain ⟨g9, hf⟩ := tq_chk hf
    refine tq_irem rX12_race_47 g9 ?_
    refine tq_iconst (1 : Int32) rX12_race_48 (by decide) ?_
    obtain ⟨p10, e10, hf⟩ := Option.bind_eq_some_iff.mp hf
    refine ty_callVI p10.1 ([.int (a4 - a4 / (2 : Int32) * (2 : Int32)), .int (1 : Int32)]) ([]) rX12_race_49 l_X12_314 moX12_safest mvX12_safest h0 rfl rfl (Nat.le_of_ble_eq_true rfl) ⟨rfl, rfl⟩ (CX12_safest h0 e10) ?_
    refine tq_istore ([.ref a0, tq_u, .int a2, .int a3, .int a4, .int p10.1]) rX12_race_52 (Nat.le_of_ble_eq_true rfl) rfl ?_
    refine tq_iload rX12_race_54 rfl ?_
    refine tq_iconst (-1 : Int32) rX12_race_56 (by decide) ?_
    refine tq_icmp_ne rX12_race_57 (fun c11 => ?_) (fun c11 => ?_)
    · rw [if_neg c11] at hf
      refine tq_aload_n rX12_race_63 rfl ?_
      refine ty_getR rX12_race_64 f_X12_32 rfl h0 (hp_12_20 h0).1 ?_
      refine tq_iload rX12_race_67 rfl ?_
      refine tq_iconst (2 : Int32) rX12_race_69 (by decide) ?_
      obtain ⟨g12, hf⟩ := tq_chk hf
      refine tq_irem rX12_race_70 g12 ?_
      refine tq_dup2 rX12_race_71 rfl rfl ?_
      obtain ⟨g13, hf⟩ := tq_chk hf
      refine ty_iald (v := 2) rX12_race_72 (hp_12_20 h0).2.1 (hp_12_20 h0).2.2 rfl (by decide) g13 ?_
      refine tq_aload_n rX12_race_73 rfl ?_
      refine tq_iconst (0 : Int32) rX12_race_74 (by decide) ?_
      refine tq_iload rX12_race_75 rfl ?_
      obtain ⟨p14, e14, hf⟩ := Option.bind_eq_some_iff.mp hf
      refine ty_callVI p14 ([.int (0 : Int32), .int p10.1]) ([.int (p10.2 (tq_rg a0 20) ((a4 - a4 / (2 : Int32) * (2 : Int32))).toNatClampNeg), .int (a4 - a4 / (2 : Int32) * (2 : Int32)), .ref (tq_rg a0 20)]) rX12_race_77 l_X12_193 moX12_kindOf mvX12_kindOf h0 rfl rfl (Nat.le_of_ble_eq_true rfl) ⟨rfl, rfl⟩ (CX12_kindOf h0 e14) ?_
      obtain ⟨p15, e15, hf⟩ := tq_let_elim hf
      refine ty_callSI p15 ([.int p14]) ([.int (p10.2 (tq_rg a0 20) ((a4 - a4 / (2 : Int32) * (2 : Int32))).toNatClampNeg), .int (a4 - a4 / (2 : Int32) * (2 : Int32)), .ref (tq_rg a0 20)]) rX12_race_80 l_X12_230 moX12_worthOf msX12_worthOf rfl rfl (Nat.le_of_ble_eq_true rfl) ⟨rfl, rfl⟩ (CX12_worthOf  e15) ?_
      refine tq_iadd rX12_race_83 ?_
      obtain ⟨g16, hf⟩ := tq_chk hf
      refine ty_iast (v := 2) rX12_race_84 (hp_12_20 h0).2.1 (hp_12_20 h0).2.2 rfl (by decide) g16 ?_
      refine tq_aload_n rX12_race_85 rfl ?_
      refine ty_getR rX12_race_86 f_X12_20 rfl h0 (hp_12_15 h0).1 ?_
      refine tq_iload rX12_race_89 rfl ?_
      refine tq_iconst (0 : Int32) rX12_race_91 (by decide) ?_
      obtain ⟨g17, hf⟩ := tq_chk hf
      refine ty_iast (v := 192) rX12_race_92 (hp_12_15 h0).2.1 (hp_12_15 h0).2.2 rfl (by decide) g17 ?_
      exact tq_forget _ (tq_le_s (tq_le_u (tq_le_s (tq_le_s (tq_le_s (tq_le_u tq_le_n)))))) (FX12_race_j93L37_x  h0 hf hk)
    · rw [if_pos c11] at hf
      refine tq_goto rX12_race_60 ?_
      exact tq_forget _ (tq_le_s (tq_le_u (tq_le_s (tq_le_s (tq_le_s (tq_le_u tq_le_n)))))) (FX12_race_j93L37_x  h0 hf hk)

set_option maxRecDepth 100000 in
set_option maxHeartbeats 4000000 in
theorem CX12_race {S : Nat × (Nat → Int32)} {d : Nat} {I : tq_PI} {L : tq_PL} {a0 : Nat} {a1 : Int32} {a2 : Int32} {a3 : Int32} (h0 : tq_sh0 a0 = 12) {out : Int32 × tq_PI} (hf : FX12_race I L a0 a1 a2 a3 = some out) : tq_K S mX12_race (d + 6) [.ref a0, .int a1, .int a2, .int a3] I L (tq_one2 (some (.int out.1)) out.2 L) := by
  unfold FX12_race at hf
  refine tq_K_of (by decide) (Nat.le_of_ble_eq_true rfl) (ls := [.ref a0, .int a1, .int a2, .int a3, tq_u, tq_u]) rfl ?_
  refine tq_aload_n rX12_race_0 rfl ?_
  refine tq_iload_n rX12_race_1 rfl ?_
  obtain ⟨p1, e1, hf⟩ := Option.bind_eq_some_iff.mp hf
  refine ty_callVI (tq_b p1.1) ([.int a1]) ([]) rX12_race_2 l_X12_221 moX12_isHill mvX12_isHill h0 rfl rfl (Nat.le_of_ble_eq_true rfl) ⟨rfl, rfl⟩ (CX12_isHill h0 e1) ?_
  refine tq_if_eq rX12_race_5 (fun c2 => ?_) (fun c2 => ?_)
  · rw [if_pos c2] at hf
    exact tq_forget _ (tq_le_u (tq_le_u (tq_le_u (tq_le_u (tq_le_u (tq_le_u tq_le_n)))))) (FX12_race_j27_x   hf ⟨rfl, rfl, rfl⟩)
  · rw [if_neg c2] at hf
    refine tq_iload_n rX12_race_8 rfl ?_
    refine tq_iconst (0 : Int32) rX12_race_9 (by decide) ?_
    refine tq_bipush (40 : Int32) rX12_race_10 (by decide) ?_
    obtain ⟨p3, e3, hf⟩ := tq_let_elim hf
    refine ty_callSI (tq_b p3) ([.int a2, .int (0 : Int32), .int (40 : Int32)]) ([]) rX12_race_12 l_X12_118 moX12_isIn msX12_isIn rfl rfl (Nat.le_of_ble_eq_true rfl) ⟨rfl, rfl⟩ (CX12_isIn  e3) ?_
    refine tq_if_eq rX12_race_15 (fun c4 => ?_) (fun c4 => ?_)
    · rw [if_pos c4] at hf
      exact tq_forget _ (tq_le_u (tq_le_u (tq_le_u (tq_le_u (tq_le_u (tq_le_u tq_le_n)))))) (FX12_race_j27_x   hf ⟨rfl, rfl, rfl⟩)
    · rw [if_neg c4] at hf
      refine tq_iload_n rX12_race_18 rfl ?_
      refine tq_iconst (0 : Int32) rX12_race_19 (by decide) ?_
      refine tq_iconst (2 : Int32) rX12_race_20 (by decide) ?_
      obtain ⟨p5, e5, hf⟩ := tq_let_elim hf
      refine ty_callSI (tq_b p5) ([.int a3, .int (0 : Int32), .int (2 : Int32)]) ([]) rX12_race_21 l_X12_118 moX12_isIn msX12_isIn rfl rfl (Nat.le_of_ble_eq_true rfl) ⟨rfl, rfl⟩ (CX12_isIn  e5) ?_
      refine tq_if_ne rX12_race_24 (fun c6 => ?_) (fun c6 => ?_)
      · rw [if_neg c6] at hf
        refine tq_aload_n rX12_race_30 rfl ?_
        obtain ⟨p7, e7, hf⟩ := Option.bind_eq_some_iff.mp hf
        refine ty_callVV ([]) ([]) rX12_race_31 l_X12_289 moX12_begins mvX12_begins h0 rfl rfl (Nat.le_of_ble_eq_true rfl) ⟨rfl, rfl⟩ (CX12_begins h0 e7) ?_
        refine tq_iconst (0 : Int32) rX12_race_34 (by decide) ?_
        refine tq_istore ([.ref a0, .int a1, .int a2, .int a3, .int (0 : Int32), tq_u]) rX12_race_35 (Nat.le_of_ble_eq_true rfl) rfl ?_
        obtain ⟨p18, e18, hf⟩ := Option.bind_eq_some_iff.mp hf
        refine tq_forget _ (tq_le_s (tq_le_u (tq_le_s (tq_le_s (tq_le_s (tq_le_u tq_le_n)))))) ?_
        refine tq_it_elim (P := fun p : Int32 × tq_PI => tq_X S mX12_race (d + 6) tq_k0 37 ([.ref a0, tq_u, .int a2, .int a3, .int p.1, tq_u]) [] (tq_st p.2 L) (tq_Q (tq_one2 (some (.int out.1)) out.2 L))) (R := fun p : tq_PI => tq_X S mX12_race (d + 6) tq_k0 99 ([.ref a0, tq_u, tq_u, .int a3, tq_u, tq_u]) [] (tq_st p L) (tq_Q (tq_one2 (some (.int out.1)) out.2 L))) (fun p o hp hk => FX12_race_s37_x  h0 hp hk) _ (((0 : Int32), p7)) _ e18 ?_
        show tq_X _ _ _ _ _ _ _ _ _
        refine tq_iload_n rX12_race_99 rfl ?_
        refine tq_iconst (2 : Int32) rX12_race_100 (by decide) ?_
        refine tq_icmp_ne rX12_race_101 (fun c19 => ?_) (fun c19 => ?_)
        · rw [if_neg c19] at hf
          refine tq_aload_n rX12_race_112 rfl ?_
          refine ty_getR rX12_race_113 f_X12_32 rfl h0 (hp_12_20 h0).1 ?_
          refine tq_iload_n rX12_race_116 rfl ?_
          obtain ⟨g20, hf⟩ := tq_chk hf
          refine ty_iald (v := 2) rX12_race_117 (hp_12_20 h0).2.1 (hp_12_20 h0).2.2 rfl (by decide) g20 ?_
          refine ty_iret rX12_race_118 rfl rfl ?_
          have hf := Option.some.inj hf
          subst hf
          exact ⟨rfl, rfl, rfl⟩
        · rw [if_pos c19] at hf
          refine tq_aload_n rX12_race_104 rfl ?_
          refine tq_iconst (0 : Int32) rX12_race_105 (by decide) ?_
          obtain ⟨p21, e21, hf⟩ := Option.bind_eq_some_iff.mp hf
          refine ty_callVI p21.1 ([.int (0 : Int32)]) ([]) rX12_race_106 l_X12_256 moX12_thickOf mvX12_thickOf h0 rfl rfl (Nat.le_of_ble_eq_true rfl) ⟨rfl, rfl⟩ (CX12_thickOf h0 e21) ?_
          refine tq_goto rX12_race_109 ?_
          refine ty_iret rX12_race_118 rfl rfl ?_
          have hf := Option.some.inj hf
          subst hf
          exact ⟨rfl, rfl, rfl⟩
      · rw [if_pos c6] at hf
        exact tq_forget _ (tq_le_u (tq_le_u (tq_le_u (tq_le_u (tq_le_u (tq_le_u tq_le_n)))))) (FX12_race_j27_x   hf ⟨rfl, rfl, rfl⟩)

abbrev mX12_isRicher : tq_M := (yX12_isRicher, cX12_isRicher, 5, (Option.none : Option Jvm.ClassFile.FieldType), 0, 0)
theorem f_X12_317 : tq_fok RX12 317 12 29 := ⟨by decide, by decide, Or.inl (tq_sg6 _ (List.mem_of_getElem? (i := 102) rfl))⟩
theorem f_X12_320 : tq_fok RX12 320 12 28 := ⟨by decide, by decide, Or.inl (tq_sg6 _ (List.mem_of_getElem? (i := 101) rfl))⟩
theorem f_X12_41 : tq_fok RX12 41 12 26 := ⟨by decide, by decide, Or.inl (tq_sg6 _ (List.mem_of_getElem? (i := 99) rfl))⟩
theorem f_X12_44 : tq_fok RX12 44 12 27 := ⟨by decide, by decide, Or.inl (tq_sg6 _ (List.mem_of_getElem? (i := 100) rfl))⟩
theorem rX12_isRicher_0 : tq_D cX12_isRicher 0 (.iload_n 2) 1 1 := ⟨by decide +kernel, rfl⟩
theorem rX12_isRicher_1 : tq_D cX12_isRicher 1 (.aload_n 0) 1 2 := ⟨by decide +kernel, rfl⟩
theorem rX12_isRicher_2 : tq_D cX12_isRicher 2 (.getfield 317) 3 5 := ⟨by decide +kernel, rfl⟩
theorem rX12_isRicher_5 : tq_J cX12_isRicher 5 (.if_icmp .le) 12 8 := ⟨7, by decide +kernel, by decide, rfl⟩
theorem rX12_isRicher_8 : tq_D cX12_isRicher 8 (.iconst 1) 1 9 := ⟨by decide +kernel, rfl⟩
theorem rX12_isRicher_9 : tq_J cX12_isRicher 9 .goto 13 12 := ⟨4, by decide +kernel, by decide, rfl⟩
theorem rX12_isRicher_12 : tq_D cX12_isRicher 12 (.iconst 0) 1 13 := ⟨by decide +kernel, rfl⟩
theorem rX12_isRicher_13 : tq_D cX12_isRicher 13 (.istore_n 3) 1 14 := ⟨by decide +kernel, rfl⟩
theorem rX12_isRicher_14 : tq_D cX12_isRicher 14 (.iload_n 3) 1 15 := ⟨by decide +kernel, rfl⟩
theorem rX12_isRicher_15 : tq_J cX12_isRicher 15 (.ifCond .ne) 19 18 := ⟨4, by decide +kernel, by decide, rfl⟩
theorem rX12_isRicher_18 : decode cX12_isRicher 18 = .ok (.return_, 1) := by decide +kernel
theorem rX12_isRicher_19 : tq_D cX12_isRicher 19 (.aload_n 0) 1 20 := ⟨by decide +kernel, rfl⟩
theorem rX12_isRicher_20 : tq_D cX12_isRicher 20 (.iload_n 2) 1 21 := ⟨by decide +kernel, rfl⟩
theorem rX12_isRicher_21 : tq_D cX12_isRicher 21 (.putfield 317) 3 24 := ⟨by decide +kernel, rfl⟩
theorem rX12_isRicher_24 : tq_D cX12_isRicher 24 (.aload_n 0) 1 25 := ⟨by decide +kernel, rfl⟩
theorem rX12_isRicher_25 : tq_D cX12_isRicher 25 (.iload_n 1) 1 26 := ⟨by decide +kernel, rfl⟩
theorem rX12_isRicher_26 : tq_D cX12_isRicher 26 (.putfield 320) 3 29 := ⟨by decide +kernel, rfl⟩
theorem rX12_isRicher_29 : tq_D cX12_isRicher 29 (.iconst 0) 1 30 := ⟨by decide +kernel, rfl⟩
theorem rX12_isRicher_30 : tq_D cX12_isRicher 30 (.istore 4) 2 32 := ⟨by decide +kernel, rfl⟩
theorem rX12_isRicher_32 : tq_D cX12_isRicher 32 (.iload 4) 2 34 := ⟨by decide +kernel, rfl⟩
theorem rX12_isRicher_34 : tq_D cX12_isRicher 34 (.iload_n 1) 1 35 := ⟨by decide +kernel, rfl⟩
theorem rX12_isRicher_35 : tq_J cX12_isRicher 35 (.if_icmp .ge) 58 38 := ⟨23, by decide +kernel, by decide, rfl⟩
theorem rX12_isRicher_38 : tq_D cX12_isRicher 38 (.aload_n 0) 1 39 := ⟨by decide +kernel, rfl⟩
theorem rX12_isRicher_39 : tq_D cX12_isRicher 39 (.getfield 44) 3 42 := ⟨by decide +kernel, rfl⟩
theorem rX12_isRicher_42 : tq_D cX12_isRicher 42 (.iload 4) 2 44 := ⟨by decide +kernel, rfl⟩
theorem rX12_isRicher_44 : tq_D cX12_isRicher 44 (.aload_n 0) 1 45 := ⟨by decide +kernel, rfl⟩
theorem rX12_isRicher_45 : tq_D cX12_isRicher 45 (.getfield 41) 3 48 := ⟨by decide +kernel, rfl⟩
theorem rX12_isRicher_48 : tq_D cX12_isRicher 48 (.iload 4) 2 50 := ⟨by decide +kernel, rfl⟩
theorem rX12_isRicher_50 : tq_D cX12_isRicher 50 (.iaload) 1 51 := ⟨by decide +kernel, rfl⟩
theorem rX12_isRicher_51 : tq_D cX12_isRicher 51 (.iastore) 1 52 := ⟨by decide +kernel, rfl⟩
theorem rX12_isRicher_52 : tq_D cX12_isRicher 52 (.iinc 4 1) 3 55 := ⟨by decide +kernel, rfl⟩
theorem rX12_isRicher_55 : tq_J cX12_isRicher 55 .goto 32 58 := ⟨(-23), by decide +kernel, by decide, rfl⟩
theorem rX12_isRicher_58 : decode cX12_isRicher 58 = .ok (.return_, 1) := by decide +kernel
noncomputable def FX12_isRicher_s32 (I : tq_PI) (L : tq_PL) (a0 : Nat) (a1 : Int32) (a4 : Int32) : Option ((Int32 × tq_PI) ⊕ (tq_PI)) :=
  (if a1 ≤ a4 then some (.inr I) else (if 0 ≤ a4 ∧ a4 < 3 then (if 0 ≤ a4 ∧ a4 < 3 then some (.inl ((a4 + 1), (tq_up2 I (tq_rg a0 27) a4.toNatClampNeg (I (tq_rg a0 26) a4.toNatClampNeg)))) else none) else none))
noncomputable def FX12_isRicher_j13 (I : tq_PI) (L : tq_PL) (a0 : Nat) (a1 : Int32) (a2 : Int32) (b0 : Int32) : Option (tq_PI) :=
  (if b0 = 0 then some I else ((tq_it (fun p : Int32 × tq_PI => FX12_isRicher_s32 p.2 L a0 a1 p.1) tq_N ((0 : Int32), (tq_up2 (tq_up2 I a0 29 a2) a0 28 a1))).bind fun p6 => some p6))
noncomputable def FX12_isRicher (I : tq_PI) (L : tq_PL) (a0 : Nat) (a1 : Int32) (a2 : Int32) : Option (tq_PI) :=
  (if a2 ≤ (I a0 29) then (FX12_isRicher_j13 I L a0 a1 a2 ((0 : Int32))) else (FX12_isRicher_j13 I L a0 a1 a2 ((1 : Int32))))
set_option maxRecDepth 100000 in
set_option maxHeartbeats 4000000 in
theorem FX12_isRicher_s32_x {S : Nat × (Nat → Int32)} {d : Nat} {I : tq_PI} {L : tq_PL} {a0 : Nat} {a1 : Int32} {a4 : Int32} (h0 : tq_sh0 a0 = 12) {q0 : Option Value → tq_PI → tq_PL → Prop} {out : (Int32 × tq_PI) ⊕ (tq_PI)} (hf : FX12_isRicher_s32 I L a0 a1 a4 = some out) (hk : Sum.elim (fun p : Int32 × tq_PI => tq_X S mX12_isRicher d tq_k0 32 ([.ref a0, .int a1, tq_u, tq_u, .int p.1]) [] (tq_st p.2 L) (tq_Q q0)) (fun p : tq_PI => tq_X S mX12_isRicher d tq_k0 58 ([tq_u, tq_u, tq_u, tq_u, tq_u]) [] (tq_st p L) (tq_Q q0)) out) : tq_X S mX12_isRicher d tq_k0 32 ([.ref a0, .int a1, tq_u, tq_u, .int a4]) [] (tq_st I L) (tq_Q q0) := by
  unfold FX12_isRicher_s32 at hf
  refine tq_iload rX12_isRicher_32 rfl ?_
  refine tq_iload_n rX12_isRicher_34 rfl ?_
  refine tq_icmp_ge rX12_isRicher_35 (fun c3 => ?_) (fun c3 => ?_)
  · rw [if_pos c3] at hf
    have hf := Option.some.inj hf
    subst hf
    exact tq_forget _ (tq_le_u (tq_le_u (tq_le_u (tq_le_u (tq_le_u tq_le_n))))) hk
  · rw [if_neg c3] at hf
    refine tq_aload_n rX12_isRicher_38 rfl ?_
    refine ty_getR rX12_isRicher_39 f_X12_44 rfl h0 (hp_12_27 h0).1 ?_
    refine tq_iload rX12_isRicher_42 rfl ?_
    refine tq_aload_n rX12_isRicher_44 rfl ?_
    refine ty_getR rX12_isRicher_45 f_X12_41 rfl h0 (hp_12_26 h0).1 ?_
    refine tq_iload rX12_isRicher_48 rfl ?_
    obtain ⟨g4, hf⟩ := tq_chk hf
    refine ty_iald (v := 3) rX12_isRicher_50 (hp_12_26 h0).2.1 (hp_12_26 h0).2.2 rfl (by decide) g4 ?_
    obtain ⟨g5, hf⟩ := tq_chk hf
    refine ty_iast (v := 3) rX12_isRicher_51 (hp_12_27 h0).2.1 (hp_12_27 h0).2.2 rfl (by decide) g5 ?_
    refine tq_iinc (a4 + 1) ([.ref a0, .int a1, tq_u, tq_u, .int (a4 + 1)]) rX12_isRicher_52 rfl (tq_inc (by decide)) (Nat.le_of_ble_eq_true rfl) rfl ?_
    refine tq_goto rX12_isRicher_55 ?_
    have hf := Option.some.inj hf
    subst hf
    exact tq_forget _ (tq_le_s (tq_le_s (tq_le_u (tq_le_u (tq_le_s tq_le_n))))) hk

set_option maxRecDepth 100000 in
set_option maxHeartbeats 4000000 in
theorem FX12_isRicher_j13_x {S : Nat × (Nat → Int32)} {d : Nat} {I : tq_PI} {L : tq_PL} {a0 : Nat} {a1 : Int32} {a2 : Int32} {b0 : Int32} (h0 : tq_sh0 a0 = 12) {q0 : Option Value → tq_PI → tq_PL → Prop} {out : tq_PI} (hf : FX12_isRicher_j13 I L a0 a1 a2 b0 = some out) (hk : q0 none out L) : tq_X S mX12_isRicher d tq_k0 13 ([.ref a0, .int a1, .int a2, tq_u, tq_u]) ([.int b0]) (tq_st I L) (tq_Q q0) := by
  unfold FX12_isRicher_j13 at hf
  refine tq_istore_n ([.ref a0, .int a1, .int a2, .int b0, tq_u]) rX12_isRicher_13 (Nat.le_of_ble_eq_true rfl) rfl ?_
  refine tq_iload_n rX12_isRicher_14 rfl ?_
  refine tq_if_ne rX12_isRicher_15 (fun c2 => ?_) (fun c2 => ?_)
  · rw [if_neg c2] at hf
    refine tq_aload_n rX12_isRicher_19 rfl ?_
    refine tq_iload_n rX12_isRicher_20 rfl ?_
    refine ty_putI rX12_isRicher_21 f_X12_317 rfl h0 rfl ?_
    refine tq_aload_n rX12_isRicher_24 rfl ?_
    refine tq_iload_n rX12_isRicher_25 rfl ?_
    refine ty_putI rX12_isRicher_26 f_X12_320 rfl h0 rfl ?_
    refine tq_iconst (0 : Int32) rX12_isRicher_29 (by decide) ?_
    refine tq_istore ([.ref a0, .int a1, .int a2, .int b0, .int (0 : Int32)]) rX12_isRicher_30 (Nat.le_of_ble_eq_true rfl) rfl ?_
    obtain ⟨p6, e6, hf⟩ := Option.bind_eq_some_iff.mp hf
    refine tq_forget _ (tq_le_s (tq_le_s (tq_le_u (tq_le_u (tq_le_s tq_le_n))))) ?_
    refine tq_it_elim (P := fun p : Int32 × tq_PI => tq_X S mX12_isRicher d tq_k0 32 ([.ref a0, .int a1, tq_u, tq_u, .int p.1]) [] (tq_st p.2 L) (tq_Q q0)) (R := fun p : tq_PI => tq_X S mX12_isRicher d tq_k0 58 ([tq_u, tq_u, tq_u, tq_u, tq_u]) [] (tq_st p L) (tq_Q q0)) (fun p o hp hk => FX12_isRicher_s32_x  h0 hp hk) _ (((0 : Int32), (tq_up2 (tq_up2 I a0 29 a2) a0 28 a1))) _ e6 ?_
    show tq_X _ _ _ _ _ _ _ _ _
    refine ty_vret rX12_isRicher_58 rfl rfl ?_
    have hf := Option.some.inj hf
    subst hf
    exact hk
  · rw [if_pos c2] at hf
    refine ty_vret rX12_isRicher_18 rfl rfl ?_
    have hf := Option.some.inj hf
    subst hf
    exact hk

set_option maxRecDepth 100000 in
set_option maxHeartbeats 4000000 in
theorem CX12_isRicher {S : Nat × (Nat → Int32)} {d : Nat} {I : tq_PI} {L : tq_PL} {a0 : Nat} {a1 : Int32} {a2 : Int32} (h0 : tq_sh0 a0 = 12) {out : tq_PI} (hf : FX12_isRicher I L a0 a1 a2 = some out) : tq_K S mX12_isRicher d [.ref a0, .int a1, .int a2] I L (tq_one2 (none) out L) := by
  unfold FX12_isRicher at hf
  refine tq_K_of (by decide) (Nat.le_of_ble_eq_true rfl) (ls := [.ref a0, .int a1, .int a2, tq_u, tq_u]) rfl ?_
  refine tq_iload_n rX12_isRicher_0 rfl ?_
  refine tq_aload_n rX12_isRicher_1 rfl ?_
  refine ty_getI rX12_isRicher_2 f_X12_317 rfl h0 ?_
  refine tq_icmp_le rX12_isRicher_5 (fun c1 => ?_) (fun c1 => ?_)
  · rw [if_pos c1] at hf
    refine tq_iconst (0 : Int32) rX12_isRicher_12 (by decide) ?_
    exact tq_forget _ (tq_le_s (tq_le_s (tq_le_s (tq_le_u (tq_le_u tq_le_n))))) (FX12_isRicher_j13_x  h0 hf ⟨rfl, rfl, rfl⟩)
  · rw [if_neg c1] at hf
    refine tq_iconst (1 : Int32) rX12_isRicher_8 (by decide) ?_
    refine tq_goto rX12_isRicher_9 ?_
    exact tq_forget _ (tq_le_s (tq_le_s (tq_le_s (tq_le_u (tq_le_u tq_le_n))))) (FX12_isRicher_j13_x  h0 hf ⟨rfl, rfl, rfl⟩)

abbrev mX12_sees : tq_M := (yX12_sees, cX12_sees, 4, (Option.none : Option Jvm.ClassFile.FieldType), 0, 0)
theorem f_X12_47 : tq_fok RX12 47 12 30 := ⟨by decide, by decide, Or.inl (tq_sg6 _ (List.mem_of_getElem? (i := 103) rfl))⟩
theorem rX12_sees_0 : tq_D cX12_sees 0 (.aload_n 0) 1 1 := ⟨by decide +kernel, rfl⟩
theorem rX12_sees_1 : tq_D cX12_sees 1 (.iload_n 1) 1 2 := ⟨by decide +kernel, rfl⟩
theorem rX12_sees_2 : tq_D cX12_sees 2 (.iload_n 2) 1 3 := ⟨by decide +kernel, rfl⟩
theorem rX12_sees_3 : tq_D cX12_sees 3 (.invokevirtual 274) 3 6 := ⟨by decide +kernel, rfl⟩
theorem rX12_sees_6 : tq_D cX12_sees 6 (.aload_n 0) 1 7 := ⟨by decide +kernel, rfl⟩
theorem rX12_sees_7 : tq_D cX12_sees 7 (.getfield 47) 3 10 := ⟨by decide +kernel, rfl⟩
theorem rX12_sees_10 : tq_D cX12_sees 10 (.iload_n 1) 1 11 := ⟨by decide +kernel, rfl⟩
theorem rX12_sees_11 : tq_D cX12_sees 11 (.lconst 0) 1 12 := ⟨by decide +kernel, rfl⟩
theorem rX12_sees_12 : tq_D cX12_sees 12 (.lastore) 1 13 := ⟨by decide +kernel, rfl⟩
theorem rX12_sees_13 : tq_D cX12_sees 13 (.iconst 0) 1 14 := ⟨by decide +kernel, rfl⟩
theorem rX12_sees_14 : tq_D cX12_sees 14 (.istore_n 3) 1 15 := ⟨by decide +kernel, rfl⟩
theorem rX12_sees_15 : tq_D cX12_sees 15 (.iload_n 3) 1 16 := ⟨by decide +kernel, rfl⟩
theorem rX12_sees_16 : tq_D cX12_sees 16 (.aload_n 0) 1 17 := ⟨by decide +kernel, rfl⟩
theorem rX12_sees_17 : tq_D cX12_sees 17 (.invokevirtual 190) 3 20 := ⟨by decide +kernel, rfl⟩
theorem rX12_sees_20 : tq_J cX12_sees 20 (.if_icmp .ge) 55 23 := ⟨35, by decide +kernel, by decide, rfl⟩
theorem rX12_sees_23 : tq_D cX12_sees 23 (.aload_n 0) 1 24 := ⟨by decide +kernel, rfl⟩
theorem rX12_sees_24 : tq_D cX12_sees 24 (.getfield 47) 3 27 := ⟨by decide +kernel, rfl⟩
theorem rX12_sees_27 : tq_D cX12_sees 27 (.iload_n 1) 1 28 := ⟨by decide +kernel, rfl⟩
theorem rX12_sees_28 : tq_D cX12_sees 28 (.dup2) 1 29 := ⟨by decide +kernel, rfl⟩
theorem rX12_sees_29 : tq_D cX12_sees 29 (.laload) 1 30 := ⟨by decide +kernel, rfl⟩
theorem rX12_sees_30 : tq_D cX12_sees 30 (.aload_n 0) 1 31 := ⟨by decide +kernel, rfl⟩
theorem rX12_sees_31 : tq_D cX12_sees 31 (.iload_n 1) 1 32 := ⟨by decide +kernel, rfl⟩
theorem rX12_sees_32 : tq_D cX12_sees 32 (.iload_n 2) 1 33 := ⟨by decide +kernel, rfl⟩
theorem rX12_sees_33 : tq_D cX12_sees 33 (.iload_n 3) 1 34 := ⟨by decide +kernel, rfl⟩
theorem rX12_sees_34 : tq_D cX12_sees 34 (.invokevirtual 277) 3 37 := ⟨by decide +kernel, rfl⟩
theorem rX12_sees_37 : tq_J cX12_sees 37 (.ifCond .eq) 46 40 := ⟨9, by decide +kernel, by decide, rfl⟩
theorem rX12_sees_40 : tq_D cX12_sees 40 (.lconst 1) 1 41 := ⟨by decide +kernel, rfl⟩
theorem rX12_sees_41 : tq_D cX12_sees 41 (.iload_n 3) 1 42 := ⟨by decide +kernel, rfl⟩
theorem rX12_sees_42 : tq_D cX12_sees 42 (.lshl) 1 43 := ⟨by decide +kernel, rfl⟩
theorem rX12_sees_43 : tq_J cX12_sees 43 .goto 47 46 := ⟨4, by decide +kernel, by decide, rfl⟩
theorem rX12_sees_46 : tq_D cX12_sees 46 (.lconst 0) 1 47 := ⟨by decide +kernel, rfl⟩
theorem rX12_sees_47 : tq_D cX12_sees 47 (.lor) 1 48 := ⟨by decide +kernel, rfl⟩
theorem rX12_sees_48 : tq_D cX12_sees 48 (.lastore) 1 49 := ⟨by decide +kernel, rfl⟩
theorem rX12_sees_49 : tq_D cX12_sees 49 (.iinc 3 1) 3 52 := ⟨by decide +kernel, rfl⟩
theorem rX12_sees_52 : tq_J cX12_sees 52 .goto 15 55 := ⟨(-37), by decide +kernel, by decide, rfl⟩
theorem rX12_sees_55 : decode cX12_sees 55 = .ok (.return_, 1) := by decide +kernel
noncomputable def FX12_sees_j47L15 (I : tq_PI) (L : tq_PL) (a0 : Nat) (a1 : Int32) (a2 : Int32) (a3 : Int32) (b0 : Int64) (b1 : Int64) (b2 : Int32) (b3 : Nat) : Option ((Int32 × tq_PL) ⊕ (tq_PL)) :=
  (if 0 ≤ b2 ∧ b2 < 4 then some (.inl ((a3 + 1), (tq_up2 L b3 b2.toNatClampNeg (b1 ||| b0)))) else none)
noncomputable def FX12_sees_s15 (I : tq_PI) (L : tq_PL) (a0 : Nat) (a1 : Int32) (a2 : Int32) (a3 : Int32) : Option ((Int32 × tq_PL) ⊕ (tq_PL)) :=
  (tq_let (FX12_many I L a0) fun p3 => (if p3 ≤ a3 then some (.inr L) else (if 0 ≤ a1 ∧ a1 < 4 then ((FX12_isCut I L a0 a1 a2 a3).bind fun p6 => (if (tq_b p6) = 0 then (FX12_sees_j47L15 I L a0 a1 a2 a3 ((0 : Int64)) ((L (tq_rg a0 30) a1.toNatClampNeg)) a1 ((tq_rg a0 30))) else (FX12_sees_j47L15 I L a0 a1 a2 a3 (((1 : Int64) <<< (Int32.toInt64 a3 &&& 63))) ((L (tq_rg a0 30) a1.toNatClampNeg)) a1 ((tq_rg a0 30))))) else none)))
noncomputable def FX12_sees (I : tq_PI) (L : tq_PL) (a0 : Nat) (a1 : Int32) (a2 : Int32) : Option (tq_PI × tq_PL) :=
  ((FX12_reaches I L a0 a1 a2).bind fun p1 => (if 0 ≤ a1 ∧ a1 < 4 then ((tq_it (fun p : Int32 × tq_PL => FX12_sees_s15 p1 p.2 a0 a1 a2 p.1) tq_N ((0 : Int32), (tq_up2 L (tq_rg a0 30) a1.toNatClampNeg (0 : Int64)))).bind fun p9 => some (p1, p9)) else none))
set_option maxRecDepth 100000 in
set_option maxHeartbeats 4000000 in
theorem FX12_sees_j47L15_x {S : Nat × (Nat → Int32)} {d : Nat} {I : tq_PI} {L : tq_PL} {a0 : Nat} {a1 : Int32} {a2 : Int32} {a3 : Int32} {b0 : Int64} {b1 : Int64} {b2 : Int32} {b3 : Nat} (h0 : tq_sh0 a0 = 12) (k3 : tq_sh0 b3 = 101) (k3n : tq_ln0 b3 = 4) {q0 : Option Value → tq_PI → tq_PL → Prop} {out : (Int32 × tq_PL) ⊕ (tq_PL)} (hf : FX12_sees_j47L15 I L a0 a1 a2 a3 b0 b1 b2 b3 = some out) (hk : Sum.elim (fun p : Int32 × tq_PL => tq_X S mX12_sees (d + 3) tq_k0 15 ([.ref a0, .int a1, .int a2, .int p.1]) [] (tq_st I p.2) (tq_Q q0)) (fun p : tq_PL => tq_X S mX12_sees (d + 3) tq_k0 55 ([tq_u, tq_u, tq_u, tq_u]) [] (tq_st I p) (tq_Q q0)) out) : tq_X S mX12_sees (d + 3) tq_k0 47 ([.ref a0, .int a1, .int a2, .int a3]) ([.long b0, .long b1, .int b2, .ref b3]) (tq_st I L) (tq_Q q0) := by
  unfold FX12_sees_j47L15 at hf
  refine tq_lor rX12_sees_47 ?_
  obtain ⟨g8, hf⟩ := tq_chk hf
  refine ty_last (v := 4) rX12_sees_48 k3 k3n rfl (by decide) g8 ?_
  refine tq_iinc (a3 + 1) ([.ref a0, .int a1, .int a2, .int (a3 + 1)]) rX12_sees_49 rfl (tq_inc (by decide)) (Nat.le_of_ble_eq_true rfl) rfl ?_
  refine tq_goto rX12_sees_52 ?_
  have hf := Option.some.inj hf
  subst hf
  exact tq_forget _ (tq_le_s (tq_le_s (tq_le_s (tq_le_s tq_le_n)))) hk

set_option maxRecDepth 100000 in
set_option maxHeartbeats 4000000 in
theorem FX12_sees_s15_x {S : Nat × (Nat → Int32)} {d : Nat} {I : tq_PI} {L : tq_PL} {a0 : Nat} {a1 : Int32} {a2 : Int32} {a3 : Int32} (h0 : tq_sh0 a0 = 12) {q0 : Option Value → tq_PI → tq_PL → Prop} {out : (Int32 × tq_PL) ⊕ (tq_PL)} (hf : FX12_sees_s15 I L a0 a1 a2 a3 = some out) (hk : Sum.elim (fun p : Int32 × tq_PL => tq_X S mX12_sees (d + 3) tq_k0 15 ([.ref a0, .int a1, .int a2, .int p.1]) [] (tq_st I p.2) (tq_Q q0)) (fun p : tq_PL => tq_X S mX12_sees (d + 3) tq_k0 55 ([tq_u, tq_u, tq_u, tq_u]) [] (tq_st I p) (tq_Q q0)) out) : tq_X S mX12_sees (d + 3) tq_k0 15 ([.ref a0, .int a1, .int a2, .int a3]) [] (tq_st I L) (tq_Q q0) := by
  unfold FX12_sees_s15 at hf
  refine tq_iload_n rX12_sees_15 rfl ?_
  refine tq_aload_n rX12_sees_16 rfl ?_
  obtain ⟨p3, e3, hf⟩ := tq_let_elim hf
  refine ty_callVI p3 ([]) ([.int a3]) rX12_sees_17 l_X12_190 moX12_many mvX12_many h0 rfl rfl (Nat.le_of_ble_eq_true rfl) ⟨rfl, rfl⟩ (CX12_many h0 e3) ?_
  refine tq_icmp_ge rX12_sees_20 (fun c4 => ?_) (fun c4 => ?_)
  · rw [if_pos c4] at hf
    have hf := Option.some.inj hf
    subst hf
    exact tq_forget _ (tq_le_u (tq_le_u (tq_le_u (tq_le_u tq_le_n)))) hk
  · rw [if_neg c4] at hf
    refine tq_aload_n rX12_sees_23 rfl ?_
    refine ty_getR rX12_sees_24 f_X12_47 rfl h0 (hp_12_30 h0).1 ?_
    refine tq_iload_n rX12_sees_27 rfl ?_
    refine tq_dup2 rX12_sees_28 rfl rfl ?_
    obtain ⟨g5, hf⟩ := tq_chk hf
    refine ty_lald (v := 4) rX12_sees_29 (hp_12_30 h0).2.1 (hp_12_30 h0).2.2 rfl (by decide) g5 ?_
    refine tq_aload_n rX12_sees_30 rfl ?_
    refine tq_iload_n rX12_sees_31 rfl ?_
    refine tq_iload_n rX12_sees_32 rfl ?_
    refine tq_iload_n rX12_sees_33 rfl ?_
    obtain ⟨p6, e6, hf⟩ := Option.bind_eq_some_iff.mp hf
    refine ty_callVI (tq_b p6) ([.int a1, .int a2, .int a3]) ([.long (L (tq_rg a0 30) a1.toNatClampNeg), .int a1, .ref (tq_rg a0 30)]) rX12_sees_34 l_X12_277 moX12_isCut mvX12_isCut h0 rfl rfl (Nat.le_of_ble_eq_true rfl) ⟨rfl, rfl⟩ (CX12_isCut h0 e6) ?_
    refine tq_if_eq rX12_sees_37 (fun c7 => ?_) (fun c7 => ?_)
    · rw [if_pos c7] at hf
      refine tq_lconst (0 : Int64) rX12_sees_46 (by decide) ?_
      exact tq_forget _ (tq_le_s (tq_le_s (tq_le_s (tq_le_s tq_le_n)))) (FX12_sees_j47L15_x  h0 (hp_12_30 h0).2.1 (hp_12_30 h0).2.2 hf hk)
    · rw [if_neg c7] at hf
      refine tq_lconst (1 : Int64) rX12_sees_40 (by decide) ?_
      refine tq_iload_n rX12_sees_41 rfl ?_
      refine tq_lshl rX12_sees_42 ?_
      refine tq_goto rX12_sees_43 ?_
      exact tq_forget _ (tq_le_s (tq_le_s (tq_le_s (tq_le_s tq_le_n)))) (FX12_sees_j47L15_x  h0 (hp_12_30 h0).2.1 (hp_12_30 h0).2.2 hf hk)

set_option maxRecDepth 100000 in
set_option maxHeartbeats 4000000 in
theorem CX12_sees {S : Nat × (Nat → Int32)} {d : Nat} {I : tq_PI} {L : tq_PL} {a0 : Nat} {a1 : Int32} {a2 : Int32} (h0 : tq_sh0 a0 = 12) {out : tq_PI × tq_PL} (hf : FX12_sees I L a0 a1 a2 = some out) : tq_K S mX12_sees (d + 3) [.ref a0, .int a1, .int a2] I L (tq_one2 (none) out.1 out.2) := by
  unfold FX12_sees at hf
  refine tq_K_of (by decide) (Nat.le_of_ble_eq_true rfl) (ls := [.ref a0, .int a1, .int a2, tq_u]) rfl ?_
  refine tq_aload_n rX12_sees_0 rfl ?_
  refine tq_iload_n rX12_sees_1 rfl ?_
  refine tq_iload_n rX12_sees_2 rfl ?_
  obtain ⟨p1, e1, hf⟩ := Option.bind_eq_some_iff.mp hf
  refine ty_callVV ([.int a1, .int a2]) ([]) rX12_sees_3 l_X12_274 moX12_reaches mvX12_reaches h0 rfl rfl (Nat.le_of_ble_eq_true rfl) ⟨rfl, rfl⟩ (CX12_reaches h0 e1) ?_
  refine tq_aload_n rX12_sees_6 rfl ?_
  refine ty_getR rX12_sees_7 f_X12_47 rfl h0 (hp_12_30 h0).1 ?_
  refine tq_iload_n rX12_sees_10 rfl ?_
  refine tq_lconst (0 : Int64) rX12_sees_11 (by decide) ?_
  obtain ⟨g2, hf⟩ := tq_chk hf
  refine ty_last (v := 4) rX12_sees_12 (hp_12_30 h0).2.1 (hp_12_30 h0).2.2 rfl (by decide) g2 ?_
  refine tq_iconst (0 : Int32) rX12_sees_13 (by decide) ?_
  refine tq_istore_n ([.ref a0, .int a1, .int a2, .int (0 : Int32)]) rX12_sees_14 (Nat.le_of_ble_eq_true rfl) rfl ?_
  obtain ⟨p9, e9, hf⟩ := Option.bind_eq_some_iff.mp hf
  refine tq_forget _ (tq_le_s (tq_le_s (tq_le_s (tq_le_s tq_le_n)))) ?_
  refine tq_it_elim (P := fun p : Int32 × tq_PL => tq_X S mX12_sees (d + 3) tq_k0 15 ([.ref a0, .int a1, .int a2, .int p.1]) [] (tq_st p1 p.2) (tq_Q (tq_one2 (none) out.1 out.2))) (R := fun p : tq_PL => tq_X S mX12_sees (d + 3) tq_k0 55 ([tq_u, tq_u, tq_u, tq_u]) [] (tq_st p1 p) (tq_Q (tq_one2 (none) out.1 out.2))) (fun p o hp hk => FX12_sees_s15_x  h0 hp hk) _ (((0 : Int32), (tq_up2 L (tq_rg a0 30) a1.toNatClampNeg (0 : Int64)))) _ e9 ?_
  show tq_X _ _ _ _ _ _ _ _ _
  refine ty_vret rX12_sees_55 rfl rfl ?_
  have hf := Option.some.inj hf
  subst hf
  exact ⟨rfl, rfl, rfl⟩

abbrev mX12_triesCut : tq_M := (yX12_triesCut, cX12_triesCut, 3, (Option.some Jvm.ClassFile.FieldType.boolean), 0, 0)
theorem rX12_triesCut_0 : tq_D cX12_triesCut 0 (.aload_n 0) 1 1 := ⟨by decide +kernel, rfl⟩
theorem rX12_triesCut_1 : tq_D cX12_triesCut 1 (.getfield 47) 3 4 := ⟨by decide +kernel, rfl⟩
theorem rX12_triesCut_4 : tq_D cX12_triesCut 4 (.iload_n 1) 1 5 := ⟨by decide +kernel, rfl⟩
theorem rX12_triesCut_5 : tq_D cX12_triesCut 5 (.laload) 1 6 := ⟨by decide +kernel, rfl⟩
theorem rX12_triesCut_6 : tq_D cX12_triesCut 6 (.iload_n 2) 1 7 := ⟨by decide +kernel, rfl⟩
theorem rX12_triesCut_7 : tq_D cX12_triesCut 7 (.lshr) 1 8 := ⟨by decide +kernel, rfl⟩
theorem rX12_triesCut_8 : tq_D cX12_triesCut 8 (.lconst 1) 1 9 := ⟨by decide +kernel, rfl⟩
theorem rX12_triesCut_9 : tq_D cX12_triesCut 9 (.land) 1 10 := ⟨by decide +kernel, rfl⟩
theorem rX12_triesCut_10 : tq_D cX12_triesCut 10 (.lconst 0) 1 11 := ⟨by decide +kernel, rfl⟩
theorem rX12_triesCut_11 : tq_D cX12_triesCut 11 (.lcmp) 1 12 := ⟨by decide +kernel, rfl⟩
theorem rX12_triesCut_12 : tq_J cX12_triesCut 12 (.ifCond .eq) 24 15 := ⟨12, by decide +kernel, by decide, rfl⟩
theorem rX12_triesCut_15 : tq_D cX12_triesCut 15 (.aload_n 0) 1 16 := ⟨by decide +kernel, rfl⟩
theorem rX12_triesCut_16 : tq_D cX12_triesCut 16 (.iload_n 1) 1 17 := ⟨by decide +kernel, rfl⟩
theorem rX12_triesCut_17 : tq_D cX12_triesCut 17 (.iload_n 2) 1 18 := ⟨by decide +kernel, rfl⟩
theorem rX12_triesCut_18 : tq_D cX12_triesCut 18 (.invokevirtual 301) 3 21 := ⟨by decide +kernel, rfl⟩
theorem rX12_triesCut_21 : tq_J cX12_triesCut 21 (.ifCond .le) 26 24 := ⟨5, by decide +kernel, by decide, rfl⟩
theorem rX12_triesCut_24 : tq_D cX12_triesCut 24 (.iconst 0) 1 25 := ⟨by decide +kernel, rfl⟩
theorem rX12_triesCut_25 : decode cX12_triesCut 25 = .ok (.ireturn, 1) := by decide +kernel
theorem rX12_triesCut_26 : tq_D cX12_triesCut 26 (.aload_n 0) 1 27 := ⟨by decide +kernel, rfl⟩
theorem rX12_triesCut_27 : tq_D cX12_triesCut 27 (.getfield 41) 3 30 := ⟨by decide +kernel, rfl⟩
theorem rX12_triesCut_30 : tq_D cX12_triesCut 30 (.iload_n 1) 1 31 := ⟨by decide +kernel, rfl⟩
theorem rX12_triesCut_31 : tq_D cX12_triesCut 31 (.iload_n 2) 1 32 := ⟨by decide +kernel, rfl⟩
theorem rX12_triesCut_32 : tq_D cX12_triesCut 32 (.iastore) 1 33 := ⟨by decide +kernel, rfl⟩
theorem rX12_triesCut_33 : tq_D cX12_triesCut 33 (.iconst 1) 1 34 := ⟨by decide +kernel, rfl⟩
theorem rX12_triesCut_34 : decode cX12_triesCut 34 = .ok (.ireturn, 1) := by decide +kernel
noncomputable def FX12_triesCut_j24 (I : tq_PI) (L : tq_PL)  : Option (Bool × tq_PI) :=
  some (false, I)
noncomputable def FX12_triesCut (I : tq_PI) (L : tq_PL) (a0 : Nat) (a1 : Int32) (a2 : Int32) : Option (Bool × tq_PI) :=
  (if 0 ≤ a1 ∧ a1 < 4 then (if (lg_cmp (((L (tq_rg a0 30) a1.toNatClampNeg) >>> (Int32.toInt64 a2 &&& 63)) &&& (1 : Int64)) (0 : Int64)) = 0 then (FX12_triesCut_j24 I L ) else ((FX12_taken I L a0 a1 a2).bind fun p3 => (if p3.1 ≤ 0 then (if 0 ≤ a1 ∧ a1 < 3 then some (true, (tq_up2 p3.2 (tq_rg a0 26) a1.toNatClampNeg a2)) else none) else (FX12_triesCut_j24 p3.2 L )))) else none)
set_option maxRecDepth 100000 in
set_option maxHeartbeats 4000000 in
theorem FX12_triesCut_j24_x {S : Nat × (Nat → Int32)} {d : Nat} {I : tq_PI} {L : tq_PL}   {q0 : Option Value → tq_PI → tq_PL → Prop} {out : Bool × tq_PI} (hf : FX12_triesCut_j24 I L = some out) (hk : q0 (some (.int (tq_b out.1))) out.2 L) : tq_X S mX12_triesCut (d + 5) tq_k0 24 ([tq_u, tq_u, tq_u]) ([]) (tq_st I L) (tq_Q q0) := by
  unfold FX12_triesCut_j24 at hf
  refine tq_iconst (0 : Int32) rX12_triesCut_24 (by decide) ?_
  refine ty_zret (ty := .boolean) rX12_triesCut_25 rfl rfl rfl ?_
  have hf := Option.some.inj hf
  subst hf
  exact hk

set_option maxRecDepth 100000 in
set_option maxHeartbeats 4000000 in
theorem CX12_triesCut {S : Nat × (Nat → Int32)} {d : Nat} {I : tq_PI} {L : tq_PL} {a0 : Nat} {a1 : Int32} {a2 : Int32} (h0 : tq_sh0 a0 = 12) {out : Bool × tq_PI} (hf : FX12_triesCut I L a0 a1 a2 = some out) : tq_K S mX12_triesCut (d + 5) [.ref a0, .int a1, .int a2] I L (tq_one2 (some (.int (tq_b out.1))) out.2 L) := by
  unfold FX12_triesCut at hf
  refine tq_K_of (by decide) (Nat.le_of_ble_eq_true rfl) (ls := [.ref a0, .int a1, .int a2]) rfl ?_
  refine tq_aload_n rX12_triesCut_0 rfl ?_
  refine ty_getR rX12_triesCut_1 f_X12_47 rfl h0 (hp_12_30 h0).1 ?_
  refine tq_iload_n rX12_triesCut_4 rfl ?_
  obtain ⟨g1, hf⟩ := tq_chk hf
  refine ty_lald (v := 4) rX12_triesCut_5 (hp_12_30 h0).2.1 (hp_12_30 h0).2.2 rfl (by decide) g1 ?_
  refine tq_iload_n rX12_triesCut_6 rfl ?_
  refine tq_lshr rX12_triesCut_7 ?_
  refine tq_lconst (1 : Int64) rX12_triesCut_8 (by decide) ?_
  refine tq_land rX12_triesCut_9 ?_
  refine tq_lconst (0 : Int64) rX12_triesCut_10 (by decide) ?_
  refine tq_lcmp rX12_triesCut_11 ?_
  refine tq_if_eq rX12_triesCut_12 (fun c2 => ?_) (fun c2 => ?_)
  · rw [if_pos c2] at hf
    exact tq_forget _ (tq_le_u (tq_le_u (tq_le_u tq_le_n))) (FX12_triesCut_j24_x   hf ⟨rfl, rfl, rfl⟩)
  · rw [if_neg c2] at hf
    refine tq_aload_n rX12_triesCut_15 rfl ?_
    refine tq_iload_n rX12_triesCut_16 rfl ?_
    refine tq_iload_n rX12_triesCut_17 rfl ?_
    obtain ⟨p3, e3, hf⟩ := Option.bind_eq_some_iff.mp hf
    refine ty_callVI p3.1 ([.int a1, .int a2]) ([]) rX12_triesCut_18 l_X12_301 moX12_taken mvX12_taken h0 rfl rfl (Nat.le_of_ble_eq_true rfl) ⟨rfl, rfl⟩ (CX12_taken h0 e3) ?_
    refine tq_if_le rX12_triesCut_21 (fun c4 => ?_) (fun c4 => ?_)
    · rw [if_pos c4] at hf
      refine tq_aload_n rX12_triesCut_26 rfl ?_
      refine ty_getR rX12_triesCut_27 f_X12_41 rfl h0 (hp_12_26 h0).1 ?_
      refine tq_iload_n rX12_triesCut_30 rfl ?_
      refine tq_iload_n rX12_triesCut_31 rfl ?_
      obtain ⟨g5, hf⟩ := tq_chk hf
      refine ty_iast (v := 3) rX12_triesCut_32 (hp_12_26 h0).2.1 (hp_12_26 h0).2.2 rfl (by decide) g5 ?_
      refine tq_iconst (1 : Int32) rX12_triesCut_33 (by decide) ?_
      refine ty_zret (ty := .boolean) rX12_triesCut_34 rfl rfl rfl ?_
      have hf := Option.some.inj hf
      subst hf
      exact ⟨rfl, rfl, rfl⟩
    · rw [if_neg c4] at hf
      exact tq_forget _ (tq_le_u (tq_le_u (tq_le_u tq_le_n))) (FX12_triesCut_j24_x   hf ⟨rfl, rfl, rfl⟩)

abbrev mX12_richThird : tq_M := (yX12_richThird, cX12_richThird, 4, (Option.none : Option Jvm.ClassFile.FieldType), 0, 0)
theorem moX12_isRicher : tq_mok mX12_isRicher 2 := ⟨tq_sg1 _ (List.mem_of_getElem? (i := 13) rfl), tq_sg8 _ (List.mem_of_getElem? (i := 54) rfl), ⟨by decide, by decide, by decide +kernel⟩, by decide⟩
theorem mvX12_isRicher : 12 < 13 ∧ (tq_cl 12).1 = mX12_isRicher.1.cls ∧ Cond.instanceMethod mX12_isRicher.1 ∈ lw_tbl ∧ Cond.selects mX12_isRicher.1.cls mX12_isRicher.1 mX12_isRicher.1 ∈ lw_tbl := ⟨by decide, rfl, tq_sg8 _ (List.mem_of_getElem? (i := 53) rfl), List.mem_append_left _ (List.mem_map.mpr ⟨_, List.mem_of_getElem? (i := 93) rfl, rfl⟩)⟩
theorem moX12_sees : tq_mok mX12_sees 2 := ⟨tq_sg1 _ (List.mem_of_getElem? (i := 13) rfl), tq_sg8 _ (List.mem_of_getElem? (i := 46) rfl), ⟨by decide, by decide, by decide +kernel⟩, by decide⟩
theorem mvX12_sees : 12 < 13 ∧ (tq_cl 12).1 = mX12_sees.1.cls ∧ Cond.instanceMethod mX12_sees.1 ∈ lw_tbl ∧ Cond.selects mX12_sees.1.cls mX12_sees.1 mX12_sees.1 ∈ lw_tbl := ⟨by decide, rfl, tq_sg8 _ (List.mem_of_getElem? (i := 45) rfl), List.mem_append_left _ (List.mem_map.mpr ⟨_, List.mem_of_getElem? (i := 91) rfl, rfl⟩)⟩
theorem moX12_triesCut : tq_mok mX12_triesCut 2 := ⟨tq_sg1 _ (List.mem_of_getElem? (i := 13) rfl), tq_sg8 _ (List.mem_of_getElem? (i := 50) rfl), ⟨by decide, by decide, by decide +kernel⟩, by decide⟩
theorem mvX12_triesCut : 12 < 13 ∧ (tq_cl 12).1 = mX12_triesCut.1.cls ∧ Cond.instanceMethod mX12_triesCut.1 ∈ lw_tbl ∧ Cond.selects mX12_triesCut.1.cls mX12_triesCut.1 mX12_triesCut.1 ∈ lw_tbl := ⟨by decide, rfl, tq_sg8 _ (List.mem_of_getElem? (i := 49) rfl), List.mem_append_left _ (List.mem_map.mpr ⟨_, List.mem_of_getElem? (i := 92) rfl, rfl⟩)⟩
theorem l_X12_323 : tq_lok RX12 323 mX12_sees.1 := Or.inl (tq_sg8 _ (List.mem_of_getElem? (i := 43) rfl))
theorem l_X12_326 : tq_lok RX12 326 mX12_triesCut.1 := Or.inl (tq_sg8 _ (List.mem_of_getElem? (i := 47) rfl))
theorem l_X12_329 : tq_lok RX12 329 mX12_isRicher.1 := Or.inl (tq_sg8 _ (List.mem_of_getElem? (i := 51) rfl))
theorem rX12_richThird_0 : tq_D cX12_richThird 0 (.aload_n 0) 1 1 := ⟨by decide +kernel, rfl⟩
theorem rX12_richThird_1 : tq_D cX12_richThird 1 (.iconst 2) 1 2 := ⟨by decide +kernel, rfl⟩
theorem rX12_richThird_2 : tq_D cX12_richThird 2 (.iload_n 1) 1 3 := ⟨by decide +kernel, rfl⟩
theorem rX12_richThird_3 : tq_D cX12_richThird 3 (.invokevirtual 323) 3 6 := ⟨by decide +kernel, rfl⟩
theorem rX12_richThird_6 : tq_D cX12_richThird 6 (.iconst 0) 1 7 := ⟨by decide +kernel, rfl⟩
theorem rX12_richThird_7 : tq_D cX12_richThird 7 (.istore_n 3) 1 8 := ⟨by decide +kernel, rfl⟩
theorem rX12_richThird_8 : tq_D cX12_richThird 8 (.iload_n 3) 1 9 := ⟨by decide +kernel, rfl⟩
theorem rX12_richThird_9 : tq_D cX12_richThird 9 (.aload_n 0) 1 10 := ⟨by decide +kernel, rfl⟩
theorem rX12_richThird_10 : tq_D cX12_richThird 10 (.invokevirtual 190) 3 13 := ⟨by decide +kernel, rfl⟩
theorem rX12_richThird_13 : tq_J cX12_richThird 13 (.if_icmp .ge) 47 16 := ⟨34, by decide +kernel, by decide, rfl⟩
theorem rX12_richThird_16 : tq_D cX12_richThird 16 (.aload_n 0) 1 17 := ⟨by decide +kernel, rfl⟩
theorem rX12_richThird_17 : tq_D cX12_richThird 17 (.iconst 2) 1 18 := ⟨by decide +kernel, rfl⟩
theorem rX12_richThird_18 : tq_D cX12_richThird 18 (.iload_n 3) 1 19 := ⟨by decide +kernel, rfl⟩
theorem rX12_richThird_19 : tq_D cX12_richThird 19 (.invokevirtual 326) 3 22 := ⟨by decide +kernel, rfl⟩
theorem rX12_richThird_22 : tq_J cX12_richThird 22 (.ifCond .eq) 41 25 := ⟨19, by decide +kernel, by decide, rfl⟩
theorem rX12_richThird_25 : tq_D cX12_richThird 25 (.aload_n 0) 1 26 := ⟨by decide +kernel, rfl⟩
theorem rX12_richThird_26 : tq_D cX12_richThird 26 (.iconst 3) 1 27 := ⟨by decide +kernel, rfl⟩
theorem rX12_richThird_27 : tq_D cX12_richThird 27 (.iload_n 2) 1 28 := ⟨by decide +kernel, rfl⟩
theorem rX12_richThird_28 : tq_D cX12_richThird 28 (.aload_n 0) 1 29 := ⟨by decide +kernel, rfl⟩
theorem rX12_richThird_29 : tq_D cX12_richThird 29 (.iconst 2) 1 30 := ⟨by decide +kernel, rfl⟩
theorem rX12_richThird_30 : tq_D cX12_richThird 30 (.iload_n 3) 1 31 := ⟨by decide +kernel, rfl⟩
theorem rX12_richThird_31 : tq_D cX12_richThird 31 (.invokevirtual 193) 3 34 := ⟨by decide +kernel, rfl⟩
theorem rX12_richThird_34 : tq_D cX12_richThird 34 (.invokestatic 230) 3 37 := ⟨by decide +kernel, rfl⟩
theorem rX12_richThird_37 : tq_D cX12_richThird 37 (.iadd) 1 38 := ⟨by decide +kernel, rfl⟩
theorem rX12_richThird_38 : tq_D cX12_richThird 38 (.invokevirtual 329) 3 41 := ⟨by decide +kernel, rfl⟩
theorem rX12_richThird_41 : tq_D cX12_richThird 41 (.iinc 3 1) 3 44 := ⟨by decide +kernel, rfl⟩
theorem rX12_richThird_44 : tq_J cX12_richThird 44 .goto 8 47 := ⟨(-36), by decide +kernel, by decide, rfl⟩
theorem rX12_richThird_47 : decode cX12_richThird 47 = .ok (.return_, 1) := by decide +kernel
noncomputable def FX12_richThird_j41L8 (I : tq_PI) (L : tq_PL) (a0 : Nat) (a2 : Int32) (a3 : Int32) : Option ((Int32 × tq_PI) ⊕ (tq_PI)) :=
  some (.inl ((a3 + 1), I))
noncomputable def FX12_richThird_s8 (I : tq_PI) (L : tq_PL) (a0 : Nat) (a2 : Int32) (a3 : Int32) : Option ((Int32 × tq_PI) ⊕ (tq_PI)) :=
  (tq_let (FX12_many I L a0) fun p2 => (if p2 ≤ a3 then some (.inr I) else ((FX12_triesCut I L a0 ((2 : Int32)) a3).bind fun p4 => (if (tq_b p4.1) = 0 then (FX12_richThird_j41L8 p4.2 L a0 a2 a3) else ((FX12_kindOf p4.2 L a0 ((2 : Int32)) a3).bind fun p6 => (tq_let (FX12_worthOf p4.2 L p6) fun p7 => ((FX12_isRicher p4.2 L a0 ((3 : Int32)) ((a2 + p7))).bind fun p8 => (FX12_richThird_j41L8 p8 L a0 a2 a3))))))))
noncomputable def FX12_richThird (I : tq_PI) (L : tq_PL) (a0 : Nat) (a1 : Int32) (a2 : Int32) : Option (tq_PI × tq_PL) :=
  ((FX12_sees I L a0 ((2 : Int32)) a1).bind fun p1 => ((tq_it (fun p : Int32 × tq_PI => FX12_richThird_s8 p.2 p1.2 a0 a2 p.1) tq_N ((0 : Int32), p1.1)).bind fun p9 => some (p9, p1.2)))
set_option maxRecDepth 100000 in
set_option maxHeartbeats 4000000 in
theorem FX12_richThird_j41L8_x {S : Nat × (Nat → Int32)} {d : Nat} {I : tq_PI} {L : tq_PL} {a0 : Nat} {a2 : Int32} {a3 : Int32} (h0 : tq_sh0 a0 = 12) {q0 : Option Value → tq_PI → tq_PL → Prop} {out : (Int32 × tq_PI) ⊕ (tq_PI)} (hf : FX12_richThird_j41L8 I L a0 a2 a3 = some out) (hk : Sum.elim (fun p : Int32 × tq_PI => tq_X S mX12_richThird (d + 6) tq_k0 8 ([.ref a0, tq_u, .int a2, .int p.1]) [] (tq_st p.2 L) (tq_Q q0)) (fun p : tq_PI => tq_X S mX12_richThird (d + 6) tq_k0 47 ([tq_u, tq_u, tq_u, tq_u]) [] (tq_st p L) (tq_Q q0)) out) : tq_X S mX12_richThird (d + 6) tq_k0 41 ([.ref a0, tq_u, .int a2, .int a3]) ([]) (tq_st I L) (tq_Q q0) := by
  unfold FX12_richThird_j41L8 at hf
  refine tq_iinc (a3 + 1) ([.ref a0, tq_u, .int a2, .int (a3 + 1)]) rX12_richThird_41 rfl (tq_inc (by decide)) (Nat.le_of_ble_eq_true rfl) rfl ?_
  refine tq_goto rX12_richThird_44 ?_
  have hf := Option.some.inj hf
  subst hf
  exact tq_forget _ (tq_le_s (tq_le_u (tq_le_s (tq_le_s tq_le_n)))) hk

set_option maxRecDepth 100000 in
set_option maxHeartbeats 4000000 in
theorem FX12_richThird_s8_x {S : Nat × (Nat → Int32)} {d : Nat} {I : tq_PI} {L : tq_PL} {a0 : Nat} {a2 : Int32} {a3 : Int32} (h0 : tq_sh0 a0 = 12) {q0 : Option Value → tq_PI → tq_PL → Prop} {out : (Int32 × tq_PI) ⊕ (tq_PI)} (hf : FX12_richThird_s8 I L a0 a2 a3 = some out) (hk : Sum.elim (fun p : Int32 × tq_PI => tq_X S mX12_richThird (d + 6) tq_k0 8 ([.ref a0, tq_u, .int a2, .int p.1]) [] (tq_st p.2 L) (tq_Q q0)) (fun p : tq_PI => tq_X S mX12_richThird (d + 6) tq_k0 47 ([tq_u, tq_u, tq_u, tq_u]) [] (tq_st p L) (tq_Q q0)) out) : tq_X S mX12_richThird (d + 6) tq_k0 8 ([.ref a0, tq_u, .int a2, .int a3]) [] (tq_st I L) (tq_Q q0) := by
  unfold FX12_richThird_s8 at hf
  refine tq_iload_n rX12_richThird_8 rfl ?_
  refine tq_aload_n rX12_richThird_9 rfl ?_
  obtain ⟨p2, e2, hf⟩ := tq_let_elim hf
  refine ty_callVI p2 ([]) ([.int a3]) rX12_richThird_10 l_X12_190 moX12_many mvX12_many h0 rfl rfl (Nat.le_of_ble_eq_true rfl) ⟨rfl, rfl⟩ (CX12_many h0 e2) ?_
  refine tq_icmp_ge rX12_richThird_13 (fun c3 => ?_) (fun c3 => ?_)
  · rw [if_pos c3] at hf
    have hf := Option.some.inj hf
    subst hf
    exact tq_forget _ (tq_le_u (tq_le_u (tq_le_u (tq_le_u tq_le_n)))) hk
  · rw [if_neg c3] at hf
    refine tq_aload_n rX12_richThird_16 rfl ?_
    refine tq_iconst (2 : Int32) rX12_richThird_17 (by decide) ?_
    refine tq_iload_n rX12_richThird_18 rfl ?_
    obtain ⟨p4, e4, hf⟩ := Option.bind_eq_some_iff.mp hf
    refine ty_callVI (tq_b p4.1) ([.int (2 : Int32), .int a3]) ([]) rX12_richThird_19 l_X12_326 moX12_triesCut mvX12_triesCut h0 rfl rfl (Nat.le_of_ble_eq_true rfl) ⟨rfl, rfl⟩ (CX12_triesCut h0 e4) ?_
    refine tq_if_eq rX12_richThird_22 (fun c5 => ?_) (fun c5 => ?_)
    · rw [if_pos c5] at hf
      exact tq_forget _ (tq_le_s (tq_le_u (tq_le_s (tq_le_s tq_le_n)))) (FX12_richThird_j41L8_x  h0 hf hk)
    · rw [if_neg c5] at hf
      refine tq_aload_n rX12_richThird_25 rfl ?_
      refine tq_iconst (3 : Int32) rX12_richThird_26 (by decide) ?_
      refine tq_iload_n rX12_richThird_27 rfl ?_
      refine tq_aload_n rX12_richThird_28 rfl ?_
      refine tq_iconst (2 : Int32) rX12_richThird_29 (by decide) ?_
      refine tq_iload_n rX12_richThird_30 rfl ?_
      obtain ⟨p6, e6, hf⟩ := Option.bind_eq_some_iff.mp hf
      refine ty_callVI p6 ([.int (2 : Int32), .int a3]) ([.int a2, .int (3 : Int32), .ref a0]) rX12_richThird_31 l_X12_193 moX12_kindOf mvX12_kindOf h0 rfl rfl (Nat.le_of_ble_eq_true rfl) ⟨rfl, rfl⟩ (CX12_kindOf h0 e6) ?_
      obtain ⟨p7, e7, hf⟩ := tq_let_elim hf
      refine ty_callSI p7 ([.int p6]) ([.int a2, .int (3 : Int32), .ref a0]) rX12_richThird_34 l_X12_230 moX12_worthOf msX12_worthOf rfl rfl (Nat.le_of_ble_eq_true rfl) ⟨rfl, rfl⟩ (CX12_worthOf  e7) ?_
      refine tq_iadd rX12_richThird_37 ?_
      obtain ⟨p8, e8, hf⟩ := Option.bind_eq_some_iff.mp hf
      refine ty_callVV ([.int (3 : Int32), .int (a2 + p7)]) ([]) rX12_richThird_38 l_X12_329 moX12_isRicher mvX12_isRicher h0 rfl rfl (Nat.le_of_ble_eq_true rfl) ⟨rfl, rfl⟩ (CX12_isRicher h0 e8) ?_
      exact tq_forget _ (tq_le_s (tq_le_u (tq_le_s (tq_le_s tq_le_n)))) (FX12_richThird_j41L8_x  h0 hf hk)

set_option maxRecDepth 100000 in
set_option maxHeartbeats 4000000 in
theorem CX12_richThird {S : Nat × (Nat → Int32)} {d : Nat} {I : tq_PI} {L : tq_PL} {a0 : Nat} {a1 : Int32} {a2 : Int32} (h0 : tq_sh0 a0 = 12) {out : tq_PI × tq_PL} (hf : FX12_richThird I L a0 a1 a2 = some out) : tq_K S mX12_richThird (d + 6) [.ref a0, .int a1, .int a2] I L (tq_one2 (none) out.1 out.2) := by
  unfold FX12_richThird at hf
  refine tq_K_of (by decide) (Nat.le_of_ble_eq_true rfl) (ls := [.ref a0, .int a1, .int a2, tq_u]) rfl ?_
  refine tq_aload_n rX12_richThird_0 rfl ?_
  refine tq_iconst (2 : Int32) rX12_richThird_1 (by decide) ?_
  refine tq_iload_n rX12_richThird_2 rfl ?_
  obtain ⟨p1, e1, hf⟩ := Option.bind_eq_some_iff.mp hf
  refine ty_callVV ([.int (2 : Int32), .int a1]) ([]) rX12_richThird_3 l_X12_323 moX12_sees mvX12_sees h0 rfl rfl (Nat.le_of_ble_eq_true rfl) ⟨rfl, rfl⟩ (CX12_sees h0 e1) ?_
  refine tq_iconst (0 : Int32) rX12_richThird_6 (by decide) ?_
  refine tq_istore_n ([.ref a0, .int a1, .int a2, .int (0 : Int32)]) rX12_richThird_7 (Nat.le_of_ble_eq_true rfl) rfl ?_
  obtain ⟨p9, e9, hf⟩ := Option.bind_eq_some_iff.mp hf
  refine tq_forget _ (tq_le_s (tq_le_u (tq_le_s (tq_le_s tq_le_n)))) ?_
  refine tq_it_elim (P := fun p : Int32 × tq_PI => tq_X S mX12_richThird (d + 6) tq_k0 8 ([.ref a0, tq_u, .int a2, .int p.1]) [] (tq_st p.2 p1.2) (tq_Q (tq_one2 (none) out.1 out.2))) (R := fun p : tq_PI => tq_X S mX12_richThird (d + 6) tq_k0 47 ([tq_u, tq_u, tq_u, tq_u]) [] (tq_st p p1.2) (tq_Q (tq_one2 (none) out.1 out.2))) (fun p o hp hk => FX12_richThird_s8_x  h0 hp hk) _ (((0 : Int32), p1.1)) _ e9 ?_
  show tq_X _ _ _ _ _ _ _ _ _
  refine ty_vret rX12_richThird_47 rfl rfl ?_
  have hf := Option.some.inj hf
  subst hf
  exact ⟨rfl, rfl, rfl⟩

abbrev mX12_richSecond : tq_M := (yX12_richSecond, cX12_richSecond, 6, (Option.none : Option Jvm.ClassFile.FieldType), 0, 0)
theorem moX12_richThird : tq_mok mX12_richThird 2 := ⟨tq_sg1 _ (List.mem_of_getElem? (i := 13) rfl), tq_sg8 _ (List.mem_of_getElem? (i := 62) rfl), ⟨by decide, by decide, by decide +kernel⟩, by decide⟩
theorem mvX12_richThird : 12 < 13 ∧ (tq_cl 12).1 = mX12_richThird.1.cls ∧ Cond.instanceMethod mX12_richThird.1 ∈ lw_tbl ∧ Cond.selects mX12_richThird.1.cls mX12_richThird.1 mX12_richThird.1 ∈ lw_tbl := ⟨by decide, rfl, tq_sg8 _ (List.mem_of_getElem? (i := 61) rfl), List.mem_append_left _ (List.mem_map.mpr ⟨_, List.mem_of_getElem? (i := 95) rfl, rfl⟩)⟩
theorem l_X12_332 : tq_lok RX12 332 mX12_richThird.1 := Or.inl (tq_sg8 _ (List.mem_of_getElem? (i := 59) rfl))
theorem rX12_richSecond_0 : tq_D cX12_richSecond 0 (.aload_n 0) 1 1 := ⟨by decide +kernel, rfl⟩
theorem rX12_richSecond_1 : tq_D cX12_richSecond 1 (.iconst 1) 1 2 := ⟨by decide +kernel, rfl⟩
theorem rX12_richSecond_2 : tq_D cX12_richSecond 2 (.iload_n 1) 1 3 := ⟨by decide +kernel, rfl⟩
theorem rX12_richSecond_3 : tq_D cX12_richSecond 3 (.invokevirtual 323) 3 6 := ⟨by decide +kernel, rfl⟩
theorem rX12_richSecond_6 : tq_D cX12_richSecond 6 (.iconst 0) 1 7 := ⟨by decide +kernel, rfl⟩
theorem rX12_richSecond_7 : tq_D cX12_richSecond 7 (.istore 4) 2 9 := ⟨by decide +kernel, rfl⟩
theorem rX12_richSecond_9 : tq_D cX12_richSecond 9 (.iload 4) 2 11 := ⟨by decide +kernel, rfl⟩
theorem rX12_richSecond_11 : tq_D cX12_richSecond 11 (.aload_n 0) 1 12 := ⟨by decide +kernel, rfl⟩
theorem rX12_richSecond_12 : tq_D cX12_richSecond 12 (.invokevirtual 190) 3 15 := ⟨by decide +kernel, rfl⟩
theorem rX12_richSecond_15 : tq_J cX12_richSecond 15 (.if_icmp .ge) 70 18 := ⟨55, by decide +kernel, by decide, rfl⟩
theorem rX12_richSecond_18 : tq_D cX12_richSecond 18 (.aload_n 0) 1 19 := ⟨by decide +kernel, rfl⟩
theorem rX12_richSecond_19 : tq_D cX12_richSecond 19 (.iconst 1) 1 20 := ⟨by decide +kernel, rfl⟩
theorem rX12_richSecond_20 : tq_D cX12_richSecond 20 (.iload 4) 2 22 := ⟨by decide +kernel, rfl⟩
theorem rX12_richSecond_22 : tq_D cX12_richSecond 22 (.invokevirtual 326) 3 25 := ⟨by decide +kernel, rfl⟩
theorem rX12_richSecond_25 : tq_J cX12_richSecond 25 (.ifCond .ne) 31 28 := ⟨6, by decide +kernel, by decide, rfl⟩
theorem rX12_richSecond_28 : tq_J cX12_richSecond 28 .goto 64 31 := ⟨36, by decide +kernel, by decide, rfl⟩
theorem rX12_richSecond_31 : tq_D cX12_richSecond 31 (.iload_n 3) 1 32 := ⟨by decide +kernel, rfl⟩
theorem rX12_richSecond_32 : tq_D cX12_richSecond 32 (.aload_n 0) 1 33 := ⟨by decide +kernel, rfl⟩
theorem rX12_richSecond_33 : tq_D cX12_richSecond 33 (.iconst 1) 1 34 := ⟨by decide +kernel, rfl⟩
theorem rX12_richSecond_34 : tq_D cX12_richSecond 34 (.iload 4) 2 36 := ⟨by decide +kernel, rfl⟩
theorem rX12_richSecond_36 : tq_D cX12_richSecond 36 (.invokevirtual 193) 3 39 := ⟨by decide +kernel, rfl⟩
theorem rX12_richSecond_39 : tq_D cX12_richSecond 39 (.invokestatic 230) 3 42 := ⟨by decide +kernel, rfl⟩
theorem rX12_richSecond_42 : tq_D cX12_richSecond 42 (.iadd) 1 43 := ⟨by decide +kernel, rfl⟩
theorem rX12_richSecond_43 : tq_D cX12_richSecond 43 (.istore 5) 2 45 := ⟨by decide +kernel, rfl⟩
theorem rX12_richSecond_45 : tq_D cX12_richSecond 45 (.aload_n 0) 1 46 := ⟨by decide +kernel, rfl⟩
theorem rX12_richSecond_46 : tq_D cX12_richSecond 46 (.iconst 2) 1 47 := ⟨by decide +kernel, rfl⟩
theorem rX12_richSecond_47 : tq_D cX12_richSecond 47 (.iload 5) 2 49 := ⟨by decide +kernel, rfl⟩
theorem rX12_richSecond_49 : tq_D cX12_richSecond 49 (.invokevirtual 329) 3 52 := ⟨by decide +kernel, rfl⟩
theorem rX12_richSecond_52 : tq_D cX12_richSecond 52 (.iload_n 2) 1 53 := ⟨by decide +kernel, rfl⟩
theorem rX12_richSecond_53 : tq_D cX12_richSecond 53 (.iconst 2) 1 54 := ⟨by decide +kernel, rfl⟩
theorem rX12_richSecond_54 : tq_J cX12_richSecond 54 (.if_icmp .le) 64 57 := ⟨10, by decide +kernel, by decide, rfl⟩
theorem rX12_richSecond_57 : tq_D cX12_richSecond 57 (.aload_n 0) 1 58 := ⟨by decide +kernel, rfl⟩
theorem rX12_richSecond_58 : tq_D cX12_richSecond 58 (.iload_n 1) 1 59 := ⟨by decide +kernel, rfl⟩
theorem rX12_richSecond_59 : tq_D cX12_richSecond 59 (.iload 5) 2 61 := ⟨by decide +kernel, rfl⟩
theorem rX12_richSecond_61 : tq_D cX12_richSecond 61 (.invokevirtual 332) 3 64 := ⟨by decide +kernel, rfl⟩
theorem rX12_richSecond_64 : tq_D cX12_richSecond 64 (.iinc 4 1) 3 67 := ⟨by decide +kernel, rfl⟩
theorem rX12_richSecond_67 : tq_J cX12_richSecond 67 .goto 9 70 := ⟨(-58), by decide +kernel, by decide, rfl⟩
theorem rX12_richSecond_70 : decode cX12_richSecond 70 = .ok (.return_, 1) := by decide +kernel
noncomputable def FX12_richSecond_j64L9 (I : tq_PI) (L : tq_PL) (a0 : Nat) (a1 : Int32) (a2 : Int32) (a3 : Int32) (a4 : Int32) : Option ((Int32 × tq_PI × tq_PL) ⊕ (tq_PI × tq_PL)) :=
  some (.inl ((a4 + 1), I, L))
noncomputable def FX12_richSecond_s9 (I : tq_PI) (L : tq_PL) (a0 : Nat) (a1 : Int32) (a2 : Int32) (a3 : Int32) (a4 : Int32) : Option ((Int32 × tq_PI × tq_PL) ⊕ (tq_PI × tq_PL)) :=
  (tq_let (FX12_many I L a0) fun p2 => (if p2 ≤ a4 then some (.inr (I, L)) else ((FX12_triesCut I L a0 ((1 : Int32)) a4).bind fun p4 => (if (tq_b p4.1) = 0 then (FX12_richSecond_j64L9 p4.2 L a0 a1 a2 a3 a4) else ((FX12_kindOf p4.2 L a0 ((1 : Int32)) a4).bind fun p6 => (tq_let (FX12_worthOf p4.2 L p6) fun p7 => ((FX12_isRicher p4.2 L a0 ((2 : Int32)) ((a3 + p7))).bind fun p8 => (if a2 ≤ (2 : Int32) then (FX12_richSecond_j64L9 p8 L a0 a1 a2 a3 a4) else ((FX12_richThird p8 L a0 a1 ((a3 + p7))).bind fun p10 => (FX12_richSecond_j64L9 p10.1 p10.2 a0 a1 a2 a3 a4))))))))))
noncomputable def FX12_richSecond (I : tq_PI) (L : tq_PL) (a0 : Nat) (a1 : Int32) (a2 : Int32) (a3 : Int32) : Option (tq_PI × tq_PL) :=
  ((FX12_sees I L a0 ((1 : Int32)) a1).bind fun p1 => ((tq_it (fun p : Int32 × tq_PI × tq_PL => FX12_richSecond_s9 p.2.1 p.2.2 a0 a1 a2 a3 p.1) tq_N ((0 : Int32), p1.1, p1.2)).bind fun p11 => some (p11.1, p11.2)))
set_option maxRecDepth 100000 in
set_option maxHeartbeats 4000000 in
theorem FX12_richSecond_j64L9_x {S : Nat × (Nat → Int32)} {d : Nat} {I : tq_PI} {L : tq_PL} {a0 : Nat} {a1 : Int32} {a2 : Int32} {a3 : Int32} {a4 : Int32} (h0 : tq_sh0 a0 = 12) {q0 : Option Value → tq_PI → tq_PL → Prop} {out : (Int32 × tq_PI × tq_PL) ⊕ (tq_PI × tq_PL)} (hf : FX12_richSecond_j64L9 I L a0 a1 a2 a3 a4 = some out) (hk : Sum.elim (fun p : Int32 × tq_PI × tq_PL => tq_X S mX12_richSecond (d + 7) tq_k0 9 ([.ref a0, .int a1, .int a2, .int a3, .int p.1, tq_u]) [] (tq_st p.2.1 p.2.2) (tq_Q q0)) (fun p : tq_PI × tq_PL => tq_X S mX12_richSecond (d + 7) tq_k0 70 ([tq_u, tq_u, tq_u, tq_u, tq_u, tq_u]) [] (tq_st p.1 p.2) (tq_Q q0)) out) : tq_X S mX12_richSecond (d + 7) tq_k0 64 ([.ref a0, .int a1, .int a2, .int a3, .int a4, tq_u]) ([]) (tq_st I L) (tq_Q q0) := by
  unfold FX12_richSecond_j64L9 at hf
  refine tq_iinc (a4 + 1) ([.ref a0, .int a1, .int a2, .int a3, .int (a4 + 1), tq_u]) rX12_richSecond_64 rfl (tq_inc (by decide)) (Nat.le_of_ble_eq_true rfl) rfl ?_
  refine tq_goto rX12_richSecond_67 ?_
  have hf := Option.some.inj hf
  subst hf
  exact tq_forget _ (tq_le_s (tq_le_s (tq_le_s (tq_le_s (tq_le_s (tq_le_u tq_le_n)))))) hk

set_option maxRecDepth 100000 in
set_option maxHeartbeats 4000000 in
theorem FX12_richSecond_s9_x {S : Nat × (Nat → Int32)} {d : Nat} {I : tq_PI} {L : tq_PL} {a0 : Nat} {a1 : Int32} {a2 : Int32} {a3 : Int32} {a4 : Int32} (h0 : tq_sh0 a0 = 12) {q0 : Option Value → tq_PI → tq_PL → Prop} {out : (Int32 × tq_PI × tq_PL) ⊕ (tq_PI × tq_PL)} (hf : FX12_richSecond_s9 I L a0 a1 a2 a3 a4 = some out) (hk : Sum.elim (fun p : Int32 × tq_PI × tq_PL => tq_X S mX12_richSecond (d + 7) tq_k0 9 ([.ref a0, .int a1, .int a2, .int a3, .int p.1, tq_u]) [] (tq_st p.2.1 p.2.2) (tq_Q q0)) (fun p : tq_PI × tq_PL => tq_X S mX12_richSecond (d + 7) tq_k0 70 ([tq_u, tq_u, tq_u, tq_u, tq_u, tq_u]) [] (tq_st p.1 p.2) (tq_Q q0)) out) : tq_X S mX12_richSecond (d + 7) tq_k0 9 ([.ref a0, .int a1, .int a2, .int a3, .int a4, tq_u]) [] (tq_st I L) (tq_Q q0) := by
  unfold FX12_richSecond_s9 at hf
  refine tq_iload rX12_richSecond_9 rfl ?_
  refine tq_aload_n rX12_richSecond_11 rfl ?_
  obtain ⟨p2, e2, hf⟩ := tq_let_elim hf
  refine ty_callVI p2 ([]) ([.int a4]) rX12_richSecond_12 l_X12_190 moX12_many mvX12_many h0 rfl rfl (Nat.le_of_ble_eq_true rfl) ⟨rfl, rfl⟩ (CX12_many h0 e2) ?_
  refine tq_icmp_ge rX12_richSecond_15 (fun c3 => ?_) (fun c3 => ?_)
  · rw [if_pos c3] at hf
    have hf := Option.some.inj hf
    subst hf
    exact tq_forget _ (tq_le_u (tq_le_u (tq_le_u (tq_le_u (tq_le_u (tq_le_u tq_le_n)))))) hk
  · rw [if_neg c3] at hf
    refine tq_aload_n rX12_richSecond_18 rfl ?_
    refine tq_iconst (1 : Int32) rX12_richSecond_19 (by decide) ?_
    refine tq_iload rX12_richSecond_20 rfl ?_
    obtain ⟨p4, e4, hf⟩ := Option.bind_eq_some_iff.mp hf
    refine ty_callVI (tq_b p4.1) ([.int (1 : Int32), .int a4]) ([]) rX12_richSecond_22 l_X12_326 moX12_triesCut mvX12_triesCut h0 rfl rfl (Nat.le_of_ble_eq_true rfl) ⟨rfl, rfl⟩ (CX12_triesCut h0 e4) ?_
    refine tq_if_ne rX12_richSecond_25 (fun c5 => ?_) (fun c5 => ?_)
    · rw [if_neg c5] at hf
      refine tq_iload_n rX12_richSecond_31 rfl ?_
      refine tq_aload_n rX12_richSecond_32 rfl ?_
      refine tq_iconst (1 : Int32) rX12_richSecond_33 (by decide) ?_
      refine tq_iload rX12_richSecond_34 rfl ?_
      obtain ⟨p6, e6, hf⟩ := Option.bind_eq_some_iff.mp hf
      refine ty_callVI p6 ([.int (1 : Int32), .int a4]) ([.int a3]) rX12_richSecond_36 l_X12_193 moX12_kindOf mvX12_kindOf h0 rfl rfl (Nat.le_of_ble_eq_true rfl) ⟨rfl, rfl⟩ (CX12_kindOf h0 e6) ?_
      obtain ⟨p7, e7, hf⟩ := tq_let_elim hf
      refine ty_callSI p7 ([.int p6]) ([.int a3]) rX12_richSecond_39 l_X12_230 moX12_worthOf msX12_worthOf rfl rfl (Nat.le_of_ble_eq_true rfl) ⟨rfl, rfl⟩ (CX12_worthOf  e7) ?_
      refine tq_iadd rX12_richSecond_42 ?_
      refine tq_istore ([.ref a0, .int a1, .int a2, .int a3, .int a4, .int (a3 + p7)]) rX12_richSecond_43 (Nat.le_of_ble_eq_true rfl) rfl ?_
      refine tq_aload_n rX12_richSecond_45 rfl ?_
      refine tq_iconst (2 : Int32) rX12_richSecond_46 (by decide) ?_
      refine tq_iload rX12_richSecond_47 rfl ?_
      obtain ⟨p8, e8, hf⟩ := Option.bind_eq_some_iff.mp hf
      refine ty_callVV ([.int (2 : Int32), .int (a3 + p7)]) ([]) rX12_richSecond_49 l_X12_329 moX12_isRicher mvX12_isRicher h0 rfl rfl (Nat.le_of_ble_eq_true rfl) ⟨rfl, rfl⟩ (CX12_isRicher h0 e8) ?_
      refine tq_iload_n rX12_richSecond_52 rfl ?_
      refine tq_iconst (2 : Int32) rX12_richSecond_53 (by decide) ?_
      refine tq_icmp_le rX12_richSecond_54 (fun c9 => ?_) (fun c9 => ?_)
      · rw [if_pos c9] at hf
        exact tq_forget _ (tq_le_s (tq_le_s (tq_le_s (tq_le_s (tq_le_s (tq_le_u tq_le_n)))))) (FX12_richSecond_j64L9_x  h0 hf hk)
      · rw [if_neg c9] at hf
        refine tq_aload_n rX12_richSecond_57 rfl ?_
        refine tq_iload_n rX12_richSecond_58 rfl ?_
        refine tq_iload rX12_richSecond_59 rfl ?_
        obtain ⟨p10, e10, hf⟩ := Option.bind_eq_some_iff.mp hf
        refine ty_callVV ([.int a1, .int (a3 + p7)]) ([]) rX12_richSecond_61 l_X12_332 moX12_richThird mvX12_richThird h0 rfl rfl (Nat.le_of_ble_eq_true rfl) ⟨rfl, rfl⟩ (CX12_richThird h0 e10) ?_
        exact tq_forget _ (tq_le_s (tq_le_s (tq_le_s (tq_le_s (tq_le_s (tq_le_u tq_le_n)))))) (FX12_richSecond_j64L9_x  h0 hf hk)
    · rw [if_pos c5] at hf
      refine tq_goto rX12_richSecond_28 ?_
      exact tq_forget _ (tq_le_s (tq_le_s (tq_le_s (tq_le_s (tq_le_s (tq_le_u tq_le_n)))))) (FX12_richSecond_j64L9_x  h0 hf hk)

set_option maxRecDepth 100000 in
set_option maxHeartbeats 4000000 in
theorem CX12_richSecond {S : Nat × (Nat → Int32)} {d : Nat} {I : tq_PI} {L : tq_PL} {a0 : Nat} {a1 : Int32} {a2 : Int32} {a3 : Int32} (h0 : tq_sh0 a0 = 12) {out : tq_PI × tq_PL} (hf : FX12_richSecond I L a0 a1 a2 a3 = some out) : tq_K S mX12_richSecond (d + 7) [.ref a0, .int a1, .int a2, .int a3] I L (tq_one2 (none) out.1 out.2) := by
  unfold FX12_richSecond at hf
  refine tq_K_of (by decide) (Nat.le_of_ble_eq_true rfl) (ls := [.ref a0, .int a1, .int a2, .int a3, tq_u, tq_u]) rfl ?_
  refine tq_aload_n rX12_richSecond_0 rfl ?_
  refine tq_iconst (1 : Int32) rX12_richSecond_1 (by decide) ?_
  refine tq_iload_n rX12_richSecond_2 rfl ?_
  obtain ⟨p1, e1, hf⟩ := Option.bind_eq_some_iff.mp hf
  refine ty_callVV ([.int (1 : Int32), .int a1]) ([]) rX12_richSecond_3 l_X12_323 moX12_sees mvX12_sees h0 rfl rfl (Nat.le_of_ble_eq_true rfl) ⟨rfl, rfl⟩ (CX12_sees h0 e1) ?_
  refine tq_iconst (0 : Int32) rX12_richSecond_6 (by decide) ?_
  refine tq_istore ([.ref a0, .int a1, .int a2, .int a3, .int (0 : Int32), tq_u]) rX12_richSecond_7 (Nat.le_of_ble_eq_true rfl) rfl ?_
  obtain ⟨p11, e11, hf⟩ := Option.bind_eq_some_iff.mp hf
  refine tq_forget _ (tq_le_s (tq_le_s (tq_le_s (tq_le_s (tq_le_s (tq_le_u tq_le_n)))))) ?_
  refine tq_it_elim (P := fun p : Int32 × tq_PI × tq_PL => tq_X S mX12_richSecond (d + 7) tq_k0 9 ([.ref a0, .int a1, .int a2, .int a3, .int p.1, tq_u]) [] (tq_st p.2.1 p.2.2) (tq_Q (tq_one2 (none) out.1 out.2))) (R := fun p : tq_PI × tq_PL => tq_X S mX12_richSecond (d + 7) tq_k0 70 ([tq_u, tq_u, tq_u, tq_u, tq_u, tq_u]) [] (tq_st p.1 p.2) (tq_Q (tq_one2 (none) out.1 out.2))) (fun p o hp hk => FX12_richSecond_s9_x  h0 hp hk) _ (((0 : Int32), p1.1, p1.2)) _ e11 ?_
  show tq_X _ _ _ _ _ _ _ _ _
  refine ty_vret rX12_richSecond_70 rfl rfl ?_
  have hf := Option.some.inj hf
  subst hf
  exact ⟨rfl, rfl, rfl⟩

abbrev mX12_riches : tq_M := (yX12_riches, cX12_riches, 5, (Option.none : Option Jvm.ClassFile.FieldType), 0, 0)
theorem moX12_richSecond : tq_mok mX12_richSecond 3 := ⟨tq_sg1 _ (List.mem_of_getElem? (i := 13) rfl), tq_sg8 _ (List.mem_of_getElem? (i := 58) rfl), ⟨by decide, by decide, by decide +kernel⟩, by decide⟩
theorem mvX12_richSecond : 12 < 13 ∧ (tq_cl 12).1 = mX12_richSecond.1.cls ∧ Cond.instanceMethod mX12_richSecond.1 ∈ lw_tbl ∧ Cond.selects mX12_richSecond.1.cls mX12_richSecond.1 mX12_richSecond.1 ∈ lw_tbl := ⟨by decide, rfl, tq_sg8 _ (List.mem_of_getElem? (i := 57) rfl), List.mem_append_left _ (List.mem_map.mpr ⟨_, List.mem_of_getElem? (i := 94) rfl, rfl⟩)⟩
theorem l_X12_335 : tq_lok RX12 335 mX12_richSecond.1 := Or.inl (tq_sg8 _ (List.mem_of_getElem? (i := 55) rfl))
theorem rX12_riches_0 : tq_D cX12_riches 0 (.aload_n 0) 1 1 := ⟨by decide +kernel, rfl⟩
theorem rX12_riches_1 : tq_D cX12_riches 1 (.invokevirtual 224) 3 4 := ⟨by decide +kernel, rfl⟩
theorem rX12_riches_4 : tq_D cX12_riches 4 (.aload_n 0) 1 5 := ⟨by decide +kernel, rfl⟩
theorem rX12_riches_5 : tq_D cX12_riches 5 (.iconst 0) 1 6 := ⟨by decide +kernel, rfl⟩
theorem rX12_riches_6 : tq_D cX12_riches 6 (.putfield 317) 3 9 := ⟨by decide +kernel, rfl⟩
theorem rX12_riches_9 : tq_D cX12_riches 9 (.aload_n 0) 1 10 := ⟨by decide +kernel, rfl⟩
theorem rX12_riches_10 : tq_D cX12_riches 10 (.iconst 0) 1 11 := ⟨by decide +kernel, rfl⟩
theorem rX12_riches_11 : tq_D cX12_riches 11 (.putfield 320) 3 14 := ⟨by decide +kernel, rfl⟩
theorem rX12_riches_14 : tq_D cX12_riches 14 (.iload_n 2) 1 15 := ⟨by decide +kernel, rfl⟩
theorem rX12_riches_15 : tq_J cX12_riches 15 (.ifCond .ne) 19 18 := ⟨4, by decide +kernel, by decide, rfl⟩
theorem rX12_riches_18 : decode cX12_riches 18 = .ok (.return_, 1) := by decide +kernel
theorem rX12_riches_19 : tq_D cX12_riches 19 (.aload_n 0) 1 20 := ⟨by decide +kernel, rfl⟩
theorem rX12_riches_20 : tq_D cX12_riches 20 (.iconst 0) 1 21 := ⟨by decide +kernel, rfl⟩
theorem rX12_riches_21 : tq_D cX12_riches 21 (.iload_n 1) 1 22 := ⟨by decide +kernel, rfl⟩
theorem rX12_riches_22 : tq_D cX12_riches 22 (.invokevirtual 323) 3 25 := ⟨by decide +kernel, rfl⟩
theorem rX12_riches_25 : tq_D cX12_riches 25 (.iconst 0) 1 26 := ⟨by decide +kernel, rfl⟩
theorem rX12_riches_26 : tq_D cX12_riches 26 (.istore_n 3) 1 27 := ⟨by decide +kernel, rfl⟩
theorem rX12_riches_27 : tq_D cX12_riches 27 (.iload_n 3) 1 28 := ⟨by decide +kernel, rfl⟩
theorem rX12_riches_28 : tq_D cX12_riches 28 (.aload_n 0) 1 29 := ⟨by decide +kernel, rfl⟩
theorem rX12_riches_29 : tq_D cX12_riches 29 (.invokevirtual 190) 3 32 := ⟨by decide +kernel, rfl⟩
theorem rX12_riches_32 : tq_J cX12_riches 32 (.if_icmp .ge) 84 35 := ⟨52, by decide +kernel, by decide, rfl⟩
theorem rX12_riches_35 : tq_D cX12_riches 35 (.aload_n 0) 1 36 := ⟨by decide +kernel, rfl⟩
theorem rX12_riches_36 : tq_D cX12_riches 36 (.iconst 0) 1 37 := ⟨by decide +kernel, rfl⟩
theorem rX12_riches_37 : tq_D cX12_riches 37 (.iload_n 3) 1 38 := ⟨by decide +kernel, rfl⟩
theorem rX12_riches_38 : tq_D cX12_riches 38 (.invokevirtual 326) 3 41 := ⟨by decide +kernel, rfl⟩
theorem rX12_riches_41 : tq_J cX12_riches 41 (.ifCond .ne) 47 44 := ⟨6, by decide +kernel, by decide, rfl⟩
theorem rX12_riches_44 : tq_J cX12_riches 44 .goto 78 47 := ⟨34, by decide +kernel, by decide, rfl⟩
theorem rX12_riches_47 : tq_D cX12_riches 47 (.aload_n 0) 1 48 := ⟨by decide +kernel, rfl⟩
theorem rX12_riches_48 : tq_D cX12_riches 48 (.iconst 0) 1 49 := ⟨by decide +kernel, rfl⟩
theorem rX12_riches_49 : tq_D cX12_riches 49 (.iload_n 3) 1 50 := ⟨by decide +kernel, rfl⟩
theorem rX12_riches_50 : tq_D cX12_riches 50 (.invokevirtual 193) 3 53 := ⟨by decide +kernel, rfl⟩
theorem rX12_riches_53 : tq_D cX12_riches 53 (.invokestatic 230) 3 56 := ⟨by decide +kernel, rfl⟩
theorem rX12_riches_56 : tq_D cX12_riches 56 (.istore 4) 2 58 := ⟨by decide +kernel, rfl⟩
theorem rX12_riches_58 : tq_D cX12_riches 58 (.aload_n 0) 1 59 := ⟨by decide +kernel, rfl⟩
theorem rX12_riches_59 : tq_D cX12_riches 59 (.iconst 1) 1 60 := ⟨by decide +kernel, rfl⟩
theorem rX12_riches_60 : tq_D cX12_riches 60 (.iload 4) 2 62 := ⟨by decide +kernel, rfl⟩
theorem rX12_riches_62 : tq_D cX12_riches 62 (.invokevirtual 329) 3 65 := ⟨by decide +kernel, rfl⟩
theorem rX12_riches_65 : tq_D cX12_riches 65 (.iload_n 2) 1 66 := ⟨by decide +kernel, rfl⟩
theorem rX12_riches_66 : tq_D cX12_riches 66 (.iconst 1) 1 67 := ⟨by decide +kernel, rfl⟩
theorem rX12_riches_67 : tq_J cX12_riches 67 (.if_icmp .le) 78 70 := ⟨11, by decide +kernel, by decide, rfl⟩
theorem rX12_riches_70 : tq_D cX12_riches 70 (.aload_n 0) 1 71 := ⟨by decide +kernel, rfl⟩
theorem rX12_riches_71 : tq_D cX12_riches 71 (.iload_n 1) 1 72 := ⟨by decide +kernel, rfl⟩
theorem rX12_riches_72 : tq_D cX12_riches 72 (.iload_n 2) 1 73 := ⟨by decide +kernel, rfl⟩
theorem rX12_riches_73 : tq_D cX12_riches 73 (.iload 4) 2 75 := ⟨by decide +kernel, rfl⟩
theorem rX12_riches_75 : tq_D cX12_riches 75 (.invokevirtual 335) 3 78 := ⟨by decide +kernel, rfl⟩
theorem rX12_riches_78 : tq_D cX12_riches 78 (.iinc 3 1) 3 81 := ⟨by decide +kernel, rfl⟩
theorem rX12_riches_81 : tq_J cX12_riches 81 .goto 27 84 := ⟨(-54), by decide +kernel, by decide, rfl⟩
theorem rX12_riches_84 : decode cX12_riches 84 = .ok (.return_, 1) := by decide +kernel
noncomputable def FX12_riches_j78L27 (I : tq_PI) (L : tq_PL) (a0 : Nat) (a1 : Int32) (a2 : Int32) (a3 : Int32) : Option ((Int32 × tq_PI × tq_PL) ⊕ (tq_PI × tq_PL)) :=
  some (.inl ((a3 + 1), I, L))
noncomputable def FX12_riches_s27 (I : tq_PI) (L : tq_PL) (a0 : Nat) (a1 : Int32) (a2 : Int32) (a3 : Int32) : Option ((Int32 × tq_PI × tq_PL) ⊕ (tq_PI × tq_PL)) :=
  (tq_let (FX12_many I L a0) fun p4 => (if p4 ≤ a3 then some (.inr (I, L)) else ((FX12_triesCut I L a0 ((0 : Int32)) a3).bind fun p6 => (if (tq_b p6.1) = 0 then (FX12_riches_j78L27 p6.2 L a0 a1 a2 a3) else ((FX12_kindOf p6.2 L a0 ((0 : Int32)) a3).bind fun p8 => (tq_let (FX12_worthOf p6.2 L p8) fun p9 => ((FX12_isRicher p6.2 L a0 ((1 : Int32)) p9).bind fun p10 => (if a2 ≤ (1 : Int32) then (FX12_riches_j78L27 p10 L a0 a1 a2 a3) else ((FX12_richSecond p10 L a0 a1 a2 p9).bind fun p12 => (FX12_riches_j78L27 p12.1 p12.2 a0 a1 a2 a3))))))))))
noncomputable def FX12_riches (I : tq_PI) (L : tq_PL) (a0 : Nat) (a1 : Int32) (a2 : Int32) : Option (tq_PI × tq_PL) :=
  ((FX12_asTold I L a0).bind fun p1 => (if a2 = 0 then some ((tq_up2 (tq_up2 p1 a0 29 (0 : Int32)) a0 28 (0 : Int32)), L) else ((FX12_sees ((tq_up2 (tq_up2 p1 a0 29 (0 : Int32)) a0 28 (0 : Int32))) L a0 ((0 : Int32)) a1).bind fun p3 => ((tq_it (fun p : Int32 × tq_PI × tq_PL => FX12_riches_s27 p.2.1 p.2.2 a0 a1 a2 p.1) tq_N ((0 : Int32), p3.1, p3.2)).bind fun p13 => some (p13.1, p13.2)))))
set_option maxRecDepth 100000 in
set_option maxHeartbeats 4000000 in
theorem FX12_riches_j78L27_x {S : Nat × (Nat → Int32)} {d : Nat} {I : tq_PI} {L : tq_PL} {a0 : Nat} {a1 : Int32} {a2 : Int32} {a3 : Int32} (h0 : tq_sh0 a0 = 12) {q0 : Option Value → tq_PI → tq_PL → Prop} {out : (Int32 × tq_PI × tq_PL) ⊕ (tq_PI × tq_PL)} (hf : FX12_riches_j78L27 I L a0 a1 a2 a3 = some out) (hk : Sum.elim (fun p : Int32 × tq_PI × tq_PL => tq_X S mX12_riches (d + 8) tq_k0 27 ([.ref a0, .int a1, .int a2, .int p.1, tq_u]) [] (tq_st p.2.1 p.2.2) (tq_Q q0)) (fun p : tq_PI × tq_PL => tq_X S mX12_riches (d + 8) tq_k0 84 ([tq_u, tq_u, tq_u, tq_u, tq_u]) [] (tq_st p.1 p.2) (tq_Q q0)) out) : tq_X S mX12_riches (d + 8) tq_k0 78 ([.ref a0, .int a1, .int a2, .int a3, tq_u]) ([]) (tq_st I L) (tq_Q q0) := by
  unfold FX12_riches_j78L27 at hf
  refine tq_iinc (a3 + 1) ([.ref a0, .int a1, .int a2, .int (a3 + 1), tq_u]) rX12_riches_78 rfl (tq_inc (by decide)) (Nat.le_of_ble_eq_true rfl) rfl ?_
  refine tq_goto rX12_riches_81 ?_
  have hf := Option.some.inj hf
  subst hf
  exact tq_forget _ (tq_le_s (tq_le_s (tq_le_s (tq_le_s (tq_le_u tq_le_n))))) hk

set_option maxRecDepth 100000 in
set_option maxHeartbeats 4000000 in
theorem FX12_riches_s27_x {S : Nat × (Nat → Int32)} {d : Nat} {I : tq_PI} {L : tq_PL} {a0 : Nat} {a1 : Int32} {a2 : Int32} {a3 : Int32} (h0 : tq_sh0 a0 = 12) {q0 : Option Value → tq_PI → tq_PL → Prop} {out : (Int32 × tq_PI × tq_PL) ⊕ (tq_PI × tq_PL)} (hf : FX12_riches_s27 I L a0 a1 a2 a3 = some out) (hk : Sum.elim (fun p : Int32 × tq_PI × tq_PL => tq_X S mX12_riches (d + 8) tq_k0 27 ([.ref a0, .int a1, .int a2, .int p.1, tq_u]) [] (tq_st p.2.1 p.2.2) (tq_Q q0)) (fun p : tq_PI × tq_PL => tq_X S mX12_riches (d + 8) tq_k0 84 ([tq_u, tq_u, tq_u, tq_u, tq_u]) [] (tq_st p.1 p.2) (tq_Q q0)) out) : tq_X S mX12_riches (d + 8) tq_k0 27 ([.ref a0, .int a1, .int a2, .int a3, tq_u]) [] (tq_st I L) (tq_Q q0) := by
  unfold FX12_riches_s27 at hf
  refine tq_iload_n rX12_riches_27 rfl ?_
  refine tq_aload_n rX12_riches_28 rfl ?_
  obtain ⟨p4, e4, hf⟩ := tq_let_elim hf
  refine ty_callVI p4 ([]) ([.int a3]) rX12_riches_29 l_X12_190 moX12_many mvX12_many h0 rfl rfl (Nat.le_of_ble_eq_true rfl) ⟨rfl, rfl⟩ (CX12_many h0 e4) ?_
  refine tq_icmp_ge rX12_riches_32 (fun c5 => ?_) (fun c5 => ?_)
  · rw [if_pos c5] at hf
    have hf := Option.some.inj hf
    subst hf
    exact tq_forget _ (tq_le_u (tq_le_u (tq_le_u (tq_le_u (tq_le_u tq_le_n))))) hk
  · rw [if_neg c5] at hf
    refine tq_aload_n rX12_riches_35 rfl ?_
    refine tq_iconst (0 : Int32) rX12_riches_36 (by decide) ?_
    refine tq_iload_n rX12_riches_37 rfl ?_
    obtain ⟨p6, e6, hf⟩ := Option.bind_eq_some_iff.mp hf
    refine ty_callVI (tq_b p6.1) ([.int (0 : Int32), .int a3]) ([]) rX12_riches_38 l_X12_326 moX12_triesCut mvX12_triesCut h0 rfl rfl (Nat.le_of_ble_eq_true rfl) ⟨rfl, rfl⟩ (CX12_triesCut h0 e6) ?_
    refine tq_if_ne rX12_riches_41 (fun c7 => ?_) (fun c7 => ?_)
    · rw [if_neg c7] at hf
      refine tq_aload_n rX12_riches_47 rfl ?_
      refine tq_iconst (0 : Int32) rX12_riches_48 (by decide) ?_
      refine tq_iload_n rX12_riches_49 rfl ?_
      obtain ⟨p8, e8, hf⟩ := Option.bind_eq_some_iff.mp hf
      refine ty_callVI p8 ([.int (0 : Int32), .int a3]) ([]) rX12_riches_50 l_X12_193 moX12_kindOf mvX12_kindOf h0 rfl rfl (Nat.le_of_ble_eq_true rfl) ⟨rfl, rfl⟩ (CX12_kindOf h0 e8) ?_
      obtain ⟨p9, e9, hf⟩ := tq_let_elim hf
      refine ty_callSI p9 ([.int p8]) ([]) rX12_riches_53 l_X12_230 moX12_worthOf msX12_worthOf rfl rfl (Nat.le_of_ble_eq_true rfl) ⟨rfl, rfl⟩ (CX12_worthOf  e9) ?_
      refine tq_istore ([.ref a0, .int a1, .int a2, .int a3, .int p9]) rX12_riches_56 (Nat.le_of_ble_eq_true rfl) rfl ?_
      refine tq_aload_n rX12_riches_58 rfl ?_
      refine tq_iconst (1 : Int32) rX12_riches_59 (by decide) ?_
      refine tq_iload rX12_riches_60 rfl ?_
      obtain ⟨p10, e10, hf⟩ := Option.bind_eq_some_iff.mp hf
      refine ty_callVV ([.int (1 : Int32), .int p9]) ([]) rX12_riches_62 l_X12_329 moX12_isRicher mvX12_isRicher h0 rfl rfl (Nat.le_of_ble_eq_true rfl) ⟨rfl, rfl⟩ (CX12_isRicher h0 e10) ?_
      refine tq_iload_n rX12_riches_65 rfl ?_
      refine tq_iconst (1 : Int32) rX12_riches_66 (by decide) ?_
      refine tq_icmp_le rX12_riches_67 (fun c11 => ?_) (fun c11 => ?_)
      · rw [if_pos c11] at hf
        exact tq_forget _ (tq_le_s (tq_le_s (tq_le_s (tq_le_s (tq_le_u tq_le_n))))) (FX12_riches_j78L27_x  h0 hf hk)
      · rw [if_neg c11] at hf
        refine tq_aload_n rX12_riches_70 rfl ?_
        refine tq_iload_n rX12_riches_71 rfl ?_
        refine tq_iload_n rX12_riches_72 rfl ?_
        refine tq_iload rX12_riches_73 rfl ?_
        obtain ⟨p12, e12, hf⟩ := Option.bind_eq_some_iff.mp hf
        refine ty_callVV ([.int a1, .int a2, .int p9]) ([]) rX12_riches_75 l_X12_335 moX12_richSecond mvX12_richSecond h0 rfl rfl (Nat.le_of_ble_eq_true rfl) ⟨rfl, rfl⟩ (CX12_richSecond h0 e12) ?_
        exact tq_forget _ (tq_le_s (tq_le_s (tq_le_s (tq_le_s (tq_le_u tq_le_n))))) (FX12_riches_j78L27_x  h0 hf hk)
    · rw [if_pos c7] at hf
      refine tq_goto rX12_riches_44 ?_
      exact tq_forget _ (tq_le_s (tq_le_s (tq_le_s (tq_le_s (tq_le_u tq_le_n))))) (FX12_riches_j78L27_x  h0 hf hk)

set_option maxRecDepth 100000 in
set_option maxHeartbeats 4000000 in
theorem CX12_riches {S : Nat × (Nat → Int32)} {d : Nat} {I : tq_PI} {L : tq_PL} {a0 : Nat} {a1 : Int32} {a2 : Int32} (h0 : tq_sh0 a0 = 12) {out : tq_PI × tq_PL} (hf : FX12_riches I L a0 a1 a2 = some out) : tq_K S mX12_riches (d + 8) [.ref a0, .int a1, .int a2] I L (tq_one2 (none) out.1 out.2) := by
  unfold FX12_riches at hf
  refine tq_K_of (by decide) (Nat.le_of_ble_eq_true rfl) (ls := [.ref a0, .int a1, .int a2, tq_u, tq_u]) rfl ?_
  refine tq_aload_n rX12_riches_0 rfl ?_
  obtain ⟨p1, e1, hf⟩ := Option.bind_eq_some_iff.mp hf
  refine ty_callVV ([]) ([]) rX12_riches_1 l_X12_224 moX12_asTold mvX12_asTold h0 rfl rfl (Nat.le_of_ble_eq_true rfl) ⟨rfl, rfl⟩ (CX12_asTold h0 e1) ?_
  refine tq_aload_n rX12_riches_4 rfl ?_
  refine tq_iconst (0 : Int32) rX12_riches_5 (by decide) ?_
  refine ty_putI rX12_riches_6 f_X12_317 rfl h0 rfl ?_
  refine tq_aload_n rX12_riches_9 rfl ?_
  refine tq_iconst (0 : Int32) rX12_riches_10 (by decide) ?_
  refine ty_putI rX12_riches_11 f_X12_320 rfl h0 rfl ?_
  refine tq_iload_n rX12_riches_14 rfl ?_
  refine tq_if_ne rX12_riches_15 (fun c2 => ?_) (fun c2 => ?_)
  · rw [if_neg c2] at hf
    refine tq_aload_n rX12_riches_19 rfl ?_
    refine tq_iconst (0 : Int32) rX12_riches_20 (by decide) ?_
    refine tq_iload_n rX12_riches_21 rfl ?_
    obtain ⟨p3, e3, hf⟩ := Option.bind_eq_some_iff.mp hf
    refine ty_callVV ([.int (0 : Int32), .int a1]) ([]) rX12_riches_22 l_X12_323 moX12_sees mvX12_sees h0 rfl rfl (Nat.le_of_ble_eq_true rfl) ⟨rfl, rfl⟩ (CX12_sees h0 e3) ?_
    refine tq_iconst (0 : Int32) rX12_riches_25 (by decide) ?_
    refine tq_istore_n ([.ref a0, .int a1, .int a2, .int (0 : Int32), tq_u]) rX12_riches_26 (Nat.le_of_ble_eq_true rfl) rfl ?_
    obtain ⟨p13, e13, hf⟩ := Option.bind_eq_some_iff.mp hf
    refine tq_forget _ (tq_le_s (tq_le_s (tq_le_s (tq_le_s (tq_le_u tq_le_n))))) ?_
    refine tq_it_elim (P := fun p : Int32 × tq_PI × tq_PL => tq_X S mX12_riches (d + 8) tq_k0 27 ([.ref a0, .int a1, .int a2, .int p.1, tq_u]) [] (tq_st p.2.1 p.2.2) (tq_Q (tq_one2 (none) out.1 out.2))) (R := fun p : tq_PI × tq_PL => tq_X S mX12_riches (d + 8) tq_k0 84 ([tq_u, tq_u, tq_u, tq_u, tq_u]) [] (tq_st p.1 p.2) (tq_Q (tq_one2 (none) out.1 out.2))) (fun p o hp hk => FX12_riches_s27_x  h0 hp hk) _ (((0 : Int32), p3.1, p3.2)) _ e13 ?_
    show tq_X _ _ _ _ _ _ _ _ _
    refine ty_vret rX12_riches_84 rfl rfl ?_
    have hf := Option.some.inj hf
    subst hf
    exact ⟨rfl, rfl, rfl⟩
  · rw [if_pos c2] at hf
    refine ty_vret rX12_riches_18 rfl rfl ?_
    have hf := Option.some.inj hf
    subst hf
    exact ⟨rfl, rfl, rfl⟩

abbrev mX12_rich : tq_M := (yX12_rich, cX12_rich, 5, (Option.some Jvm.ClassFile.FieldType.int), 0, 0)
theorem moX12_riches : tq_mok mX12_riches 2 := ⟨tq_sg1 _ (List.mem_of_getElem? (i := 13) rfl), tq_sg8 _ (List.mem_of_getElem? (i := 42) rfl), ⟨by decide, by decide, by decide +kernel⟩, by decide⟩
theorem mvX12_riches : 12 < 13 ∧ (tq_cl 12).1 = mX12_riches.1.cls ∧ Cond.instanceMethod mX12_riches.1 ∈ lw_tbl ∧ Cond.selects mX12_riches.1.cls mX12_riches.1 mX12_riches.1 ∈ lw_tbl := ⟨by decide, rfl, tq_sg8 _ (List.mem_of_getElem? (i := 41) rfl), List.mem_append_left _ (List.mem_map.mpr ⟨_, List.mem_of_getElem? (i := 90) rfl, rfl⟩)⟩
theorem l_X12_339 : tq_lok RX12 339 mX12_riches.1 := Or.inl (tq_sg8 _ (List.mem_of_getElem? (i := 39) rfl))
theorem rX12_rich_0 : tq_D cX12_rich 0 (.aload_n 0) 1 1 := ⟨by decide +kernel, rfl⟩
theorem rX12_rich_1 : tq_D cX12_rich 1 (.iload_n 1) 1 2 := ⟨by decide +kernel, rfl⟩
theorem rX12_rich_2 : tq_D cX12_rich 2 (.invokevirtual 221) 3 5 := ⟨by decide +kernel, rfl⟩
theorem rX12_rich_5 : tq_J cX12_rich 5 (.ifCond .eq) 31 8 := ⟨26, by decide +kernel, by decide, rfl⟩
theorem rX12_rich_8 : tq_D cX12_rich 8 (.iload_n 2) 1 9 := ⟨by decide +kernel, rfl⟩
theorem rX12_rich_9 : tq_D cX12_rich 9 (.invokestatic 227) 3 12 := ⟨by decide +kernel, rfl⟩
theorem rX12_rich_12 : tq_J cX12_rich 12 (.ifCond .eq) 31 15 := ⟨19, by decide +kernel, by decide, rfl⟩
theorem rX12_rich_15 : tq_D cX12_rich 15 (.iload_n 3) 1 16 := ⟨by decide +kernel, rfl⟩
theorem rX12_rich_16 : tq_D cX12_rich 16 (.iconst 0) 1 17 := ⟨by decide +kernel, rfl⟩
theorem rX12_rich_17 : tq_D cX12_rich 17 (.iconst 3) 1 18 := ⟨by decide +kernel, rfl⟩
theorem rX12_rich_18 : tq_D cX12_rich 18 (.invokestatic 118) 3 21 := ⟨by decide +kernel, rfl⟩
theorem rX12_rich_21 : tq_J cX12_rich 21 (.ifCond .eq) 31 24 := ⟨10, by decide +kernel, by decide, rfl⟩
theorem rX12_rich_24 : tq_D cX12_rich 24 (.iload 4) 2 26 := ⟨by decide +kernel, rfl⟩
theorem rX12_rich_26 : tq_D cX12_rich 26 (.bipush (-2)) 2 28 := ⟨by decide +kernel, rfl⟩
theorem rX12_rich_28 : tq_J cX12_rich 28 (.if_icmp .ge) 33 31 := ⟨5, by decide +kernel, by decide, rfl⟩
theorem rX12_rich_31 : tq_D cX12_rich 31 (.iconst (-1)) 1 32 := ⟨by decide +kernel, rfl⟩
theorem rX12_rich_32 : decode cX12_rich 32 = .ok (.ireturn, 1) := by decide +kernel
theorem rX12_rich_33 : tq_D cX12_rich 33 (.aload_n 0) 1 34 := ⟨by decide +kernel, rfl⟩
theorem rX12_rich_34 : tq_D cX12_rich 34 (.iload_n 2) 1 35 := ⟨by decide +kernel, rfl⟩
theorem rX12_rich_35 : tq_D cX12_rich 35 (.iload_n 3) 1 36 := ⟨by decide +kernel, rfl⟩
theorem rX12_rich_36 : tq_D cX12_rich 36 (.invokevirtual 339) 3 39 := ⟨by decide +kernel, rfl⟩
theorem rX12_rich_39 : tq_D cX12_rich 39 (.iload 4) 2 41 := ⟨by decide +kernel, rfl⟩
theorem rX12_rich_41 : tq_D cX12_rich 41 (.iconst (-1)) 1 42 := ⟨by decide +kernel, rfl⟩
theorem rX12_rich_42 : tq_J cX12_rich 42 (.if_icmp .ne) 52 45 := ⟨10, by decide +kernel, by decide, rfl⟩
theorem rX12_rich_45 : tq_D cX12_rich 45 (.aload_n 0) 1 46 := ⟨by decide +kernel, rfl⟩
theorem rX12_rich_46 : tq_D cX12_rich 46 (.getfield 317) 3 49 := ⟨by decide +kernel, rfl⟩
theorem rX12_rich_49 : tq_J cX12_rich 49 .goto 86 52 := ⟨37, by decide +kernel, by decide, rfl⟩
theorem rX12_rich_52 : tq_D cX12_rich 52 (.iload 4) 2 54 := ⟨by decide +kernel, rfl⟩
theorem rX12_rich_54 : tq_D cX12_rich 54 (.bipush (-2)) 2 56 := ⟨by decide +kernel, rfl⟩
theorem rX12_rich_56 : tq_J cX12_rich 56 (.if_icmp .ne) 66 59 := ⟨10, by decide +kernel, by decide, rfl⟩
theorem rX12_rich_59 : tq_D cX12_rich 59 (.aload_n 0) 1 60 := ⟨by decide +kernel, rfl⟩
theorem rX12_rich_60 : tq_D cX12_rich 60 (.getfield 320) 3 63 := ⟨by decide +kernel, rfl⟩
theorem rX12_rich_63 : tq_J cX12_rich 63 .goto 86 66 := ⟨23, by decide +kernel, by decide, rfl⟩
theorem rX12_rich_66 : tq_D cX12_rich 66 (.iload 4) 2 68 := ⟨by decide +kernel, rfl⟩
theorem rX12_rich_68 : tq_D cX12_rich 68 (.aload_n 0) 1 69 := ⟨by decide +kernel, rfl⟩
theorem rX12_rich_69 : tq_D cX12_rich 69 (.getfield 320) 3 72 := ⟨by decide +kernel, rfl⟩
theorem rX12_rich_72 : tq_J cX12_rich 72 (.if_icmp .ge) 85 75 := ⟨13, by decide +kernel, by decide, rfl⟩
theorem rX12_rich_75 : tq_D cX12_rich 75 (.aload_n 0) 1 76 := ⟨by decide +kernel, rfl⟩
theorem rX12_rich_76 : tq_D cX12_rich 76 (.getfield 44) 3 79 := ⟨by decide +kernel, rfl⟩
theorem rX12_rich_79 : tq_D cX12_rich 79 (.iload 4) 2 81 := ⟨by decide +kernel, rfl⟩
theorem rX12_rich_81 : tq_D cX12_rich 81 (.iaload) 1 82 := ⟨by decide +kernel, rfl⟩
theorem rX12_rich_82 : tq_J cX12_rich 82 .goto 86 85 := ⟨4, by decide +kernel, by decide, rfl⟩
theorem rX12_rich_85 : tq_D cX12_rich 85 (.iconst (-1)) 1 86 := ⟨by decide +kernel, rfl⟩
theorem rX12_rich_86 : decode cX12_rich 86 = .ok (.ireturn, 1) := by decide +kernel
noncomputable def FX12_rich_j31 (I : tq_PI) (L : tq_PL)  : Option (Int32 × tq_PI × tq_PL) :=
  some ((-1 : Int32), I, L)
noncomputable def FX12_rich (I : tq_PI) (L : tq_PL) (a0 : Nat) (a1 : Int32) (a2 : Int32) (a3 : Int32) (a4 : Int32) : Option (Int32 × tq_PI × tq_PL) :=
  ((FX12_isHill I L a0 a1).bind fun p1 => (if (tq_b p1.1) = 0 then (FX12_rich_j31 p1.2 L ) else (tq_let (FX12_isSide p1.2 L a2) fun p3 => (if (tq_b p3) = 0 then (FX12_rich_j31 p1.2 L ) else (tq_let (FX12_isIn p1.2 L a3 ((0 : Int32)) ((3 : Int32))) fun p5 => (if (tq_b p5) = 0 then (FX12_rich_j31 p1.2 L ) else (if (-2 : Int32) ≤ a4 then ((FX12_riches p1.2 L a0 a2 a3).bind fun p8 => (if a4 = (-1 : Int32) then some ((p8.1 a0 29), p8.1, p8.2) else (if a4 = (-2 : Int32) then some ((p8.1 a0 28), p8.1, p8.2) else (if (p8.1 a0 28) ≤ a4 then some ((-1 : Int32), p8.1, p8.2) else (if 0 ≤ a4 ∧ a4 < 3 then some ((p8.1 (tq_rg a0 27) a4.toNatClampNeg), p8.1, p8.2) else none))))) else (FX12_rich_j31 p1.2 L ))))))))
set_option maxRecDepth 100000 in
set_option maxHeartbeats 4000000 in
theorem FX12_rich_j31_x {S : Nat × (Nat → Int32)} {d : Nat} {I : tq_PI} {L : tq_PL}   {q0 : Option Value → tq_PI → tq_PL → Prop} {out : Int32 × tq_PI × tq_PL} (hf : FX12_rich_j31 I L = some out) (hk : q0 (some (.int out.1)) out.2.1 out.2.2) : tq_X S mX12_rich (d + 9) tq_k0 31 ([tq_u, tq_u, tq_u, tq_u, tq_u]) ([]) (tq_st I L) (tq_Q q0) := by
  unfold FX12_rich_j31 at hf
  refine tq_iconst (-1 : Int32) rX12_rich_31 (by decide) ?_
  refine ty_iret rX12_rich_32 rfl rfl ?_
  have hf := Option.some.inj hf
  subst hf
  exact hk

set_option maxRecDepth 100000 in
set_option maxHeartbeats 4000000 in
theorem CX12_rich {S : Nat × (Nat → Int32)} {d : Nat} {I : tq_PI} {L : tq_PL} {a0 : Nat} {a1 : Int32} {a2 : Int32} {a3 : Int32} {a4 : Int32} (h0 : tq_sh0 a0 = 12) {out : Int32 × tq_PI × tq_PL} (hf : FX12_rich I L a0 a1 a2 a3 a4 = some out) : tq_K S mX12_rich (d + 9) [.ref a0, .int a1, .int a2, .int a3, .int a4] I L (tq_one2 (some (.int out.1)) out.2.1 out.2.2) := by
  unfold FX12_rich at hf
  refine tq_K_of (by decide) (Nat.le_of_ble_eq_true rfl) (ls := [.ref a0, .int a1, .int a2, .int a3, .int a4]) rfl ?_
  refine tq_aload_n rX12_rich_0 rfl ?_
  refine tq_iload_n rX12_rich_1 rfl ?_
  obtain ⟨p1, e1, hf⟩ := Option.bind_eq_some_iff.mp hf
  refine ty_callVI (tq_b p1.1) ([.int a1]) ([]) rX12_rich_2 l_X12_221 moX12_isHill mvX12_isHill h0 rfl rfl (Nat.le_of_ble_eq_true rfl) ⟨rfl, rfl⟩ (CX12_isHill h0 e1) ?_
  refine tq_if_eq rX12_rich_5 (fun c2 => ?_) (fun c2 => ?_)
  · rw [if_pos c2] at hf
    exact tq_forget _ (tq_le_u (tq_le_u (tq_le_u (tq_le_u (tq_le_u tq_le_n))))) (FX12_rich_j31_x   hf ⟨rfl, rfl, rfl⟩)
  · rw [if_neg c2] at hf
    refine tq_iload_n rX12_rich_8 rfl ?_
    obtain ⟨p3, e3, hf⟩ := tq_let_elim hf
    refine ty_callSI (tq_b p3) ([.int a2]) ([]) rX12_rich_9 l_X12_227 moX12_isSide msX12_isSide rfl rfl (Nat.le_of_ble_eq_true rfl) ⟨rfl, rfl⟩ (CX12_isSide  e3) ?_
    refine tq_if_eq rX12_rich_12 (fun c4 => ?_) (fun c4 => ?_)
    · rw [if_pos c4] at hf
      exact tq_forget _ (tq_le_u (tq_le_u (tq_le_u (tq_le_u (tq_le_u tq_le_n))))) (FX12_rich_j31_x   hf ⟨rfl, rfl, rfl⟩)
    · rw [if_neg c4] at hf
      refine tq_iload_n rX12_rich_15 rfl ?_
      refine tq_iconst (0 : Int32) rX12_rich_16 (by decide) ?_
      refine tq_iconst (3 : Int32) rX12_rich_17 (by decide) ?_
      obtain ⟨p5, e5, hf⟩ := tq_let_elim hf
      refine ty_callSI (tq_b p5) ([.int a3, .int (0 : Int32), .int (3 : Int32)]) ([]) rX12_rich_18 l_X12_118 moX12_isIn msX12_isIn rfl rfl (Nat.le_of_ble_eq_true rfl) ⟨rfl, rfl⟩ (CX12_isIn  e5) ?_
      refine tq_if_eq rX12_rich_21 (fun c6 => ?_) (fun c6 => ?_)
      · rw [if_pos c6] at hf
        exact tq_forget _ (tq_le_u (tq_le_u (tq_le_u (tq_le_u (tq_le_u tq_le_n))))) (FX12_rich_j31_x   hf ⟨rfl, rfl, rfl⟩)
      · rw [if_neg c6] at hf
        refine tq_iload rX12_rich_24 rfl ?_
        refine tq_bipush (-2 : Int32) rX12_rich_26 (by decide) ?_
        refine tq_icmp_ge rX12_rich_28 (fun c7 => ?_) (fun c7 => ?_)
        · rw [if_pos c7] at hf
          refine tq_aload_n rX12_rich_33 rfl ?_
          refine tq_iload_n rX12_rich_34 rfl ?_
          refine tq_iload_n rX12_rich_35 rfl ?_
          obtain ⟨p8, e8, hf⟩ := Option.bind_eq_some_iff.mp hf
          refine ty_callVV ([.int a2, .int a3]) ([]) rX12_rich_36 l_X12_339 moX12_riches mvX12_riches h0 rfl rfl (Nat.le_of_ble_eq_true rfl) ⟨rfl, rfl⟩ (CX12_riches h0 e8) ?_
          refine tq_iload rX12_rich_39 rfl ?_
          refine tq_iconst (-1 : Int32) rX12_rich_41 (by decide) ?_
          refine tq_icmp_ne rX12_rich_42 (fun c9 => ?_) (fun c9 => ?_)
          · rw [if_neg c9] at hf
            refine tq_iload rX12_rich_52 rfl ?_
            refine tq_bipush (-2 : Int32) rX12_rich_54 (by decide) ?_
            refine tq_icmp_ne rX12_rich_56 (fun c10 => ?_) (fun c10 => ?_)
            · rw [if_neg c10] at hf
              refine tq_iload rX12_rich_66 rfl ?_
              refine tq_aload_n rX12_rich_68 rfl ?_
              refine ty_getI rX12_rich_69 f_X12_320 rfl h0 ?_
              refine tq_icmp_ge rX12_rich_72 (fun c11 => ?_) (fun c11 => ?_)
              · rw [if_pos c11] at hf
                refine tq_iconst (-1 : Int32) rX12_rich_85 (by decide) ?_
                refine ty_iret rX12_rich_86 rfl rfl ?_
                have hf := Option.some.inj hf
                subst hf
                exact ⟨rfl, rfl, rfl⟩
              · rw [if_neg c11] at hf
                refine tq_aload_n rX12_rich_75 rfl ?_
                refine ty_getR rX12_rich_76 f_X12_44 rfl h0 (hp_12_27 h0).1 ?_
                refine tq_iload rX12_rich_79 rfl ?_
                obtain ⟨g12, hf⟩ := tq_chk hf
                refine ty_iald (v := 3) rX12_rich_81 (hp_12_27 h0).2.1 (hp_12_27 h0).2.2 rfl (by decide) g12 ?_
                refine tq_goto rX12_rich_82 ?_
                refine ty_iret rX12_rich_86 rfl rfl ?_
                have hf := Option.some.inj hf
                subst hf
                exact ⟨rfl, rfl, rfl⟩
            · rw [if_pos c10] at hf
              refine tq_aload_n rX12_rich_59 rfl ?_
              refine ty_getI rX12_rich_60 f_X12_320 rfl h0 ?_
              refine tq_goto rX12_rich_63 ?_
              refine ty_iret rX12_rich_86 rfl rfl ?_
              have hf := Option.some.inj hf
              subst hf
              exact ⟨rfl, rfl, rfl⟩
          · rw [if_pos c9] at hf
            refine tq_aload_n rX12_rich_45 rfl ?_
            refine ty_getI rX12_rich_46 f_X12_317 rfl h0 ?_
            refine tq_goto rX12_rich_49 ?_
            refine ty_iret rX12_rich_86 rfl rfl ?_
            have hf := Option.some.inj hf
            subst hf
            exact ⟨rfl, rfl, rfl⟩
        · rw [if_neg c7] at hf
          exact tq_forget _ (tq_le_u (tq_le_u (tq_le_u (tq_le_u (tq_le_u tq_le_n))))) (FX12_rich_j31_x   hf ⟨rfl, rfl, rfl⟩)

abbrev mX12_lastTurn : tq_M := (yX12_lastTurn, cX12_lastTurn, 6, (Option.some Jvm.ClassFile.FieldType.int), 0, 0)
theorem rX12_lastTurn_0 : tq_D cX12_lastTurn 0 (.aload_n 0) 1 1 := ⟨by decide +kernel, rfl⟩
theorem rX12_lastTurn_1 : tq_D cX12_lastTurn 1 (.iload_n 1) 1 2 := ⟨by decide +kernel, rfl⟩
theorem rX12_lastTurn_2 : tq_D cX12_lastTurn 2 (.iload_n 2) 1 3 := ⟨by decide +kernel, rfl⟩
theorem rX12_lastTurn_3 : tq_D cX12_lastTurn 3 (.invokevirtual 323) 3 6 := ⟨by decide +kernel, rfl⟩
theorem rX12_lastTurn_6 : tq_D cX12_lastTurn 6 (.iconst 0) 1 7 := ⟨by decide +kernel, rfl⟩
theorem rX12_lastTurn_7 : tq_D cX12_lastTurn 7 (.istore_n 3) 1 8 := ⟨by decide +kernel, rfl⟩
theorem rX12_lastTurn_8 : tq_D cX12_lastTurn 8 (.iconst 0) 1 9 := ⟨by decide +kernel, rfl⟩
theorem rX12_lastTurn_9 : tq_D cX12_lastTurn 9 (.istore 4) 2 11 := ⟨by decide +kernel, rfl⟩
theorem rX12_lastTurn_11 : tq_D cX12_lastTurn 11 (.iload 4) 2 13 := ⟨by decide +kernel, rfl⟩
theorem rX12_lastTurn_13 : tq_D cX12_lastTurn 13 (.aload_n 0) 1 14 := ⟨by decide +kernel, rfl⟩
theorem rX12_lastTurn_14 : tq_D cX12_lastTurn 14 (.invokevirtual 190) 3 17 := ⟨by decide +kernel, rfl⟩
theorem rX12_lastTurn_17 : tq_J cX12_lastTurn 17 (.if_icmp .ge) 71 20 := ⟨54, by decide +kernel, by decide, rfl⟩
theorem rX12_lastTurn_20 : tq_D cX12_lastTurn 20 (.aload_n 0) 1 21 := ⟨by decide +kernel, rfl⟩
theorem rX12_lastTurn_21 : tq_D cX12_lastTurn 21 (.getfield 47) 3 24 := ⟨by decide +kernel, rfl⟩
theorem rX12_lastTurn_24 : tq_D cX12_lastTurn 24 (.iload_n 1) 1 25 := ⟨by decide +kernel, rfl⟩
theorem rX12_lastTurn_25 : tq_D cX12_lastTurn 25 (.laload) 1 26 := ⟨by decide +kernel, rfl⟩
theorem rX12_lastTurn_26 : tq_D cX12_lastTurn 26 (.iload 4) 2 28 := ⟨by decide +kernel, rfl⟩
theorem rX12_lastTurn_28 : tq_D cX12_lastTurn 28 (.lshr) 1 29 := ⟨by decide +kernel, rfl⟩
theorem rX12_lastTurn_29 : tq_D cX12_lastTurn 29 (.lconst 1) 1 30 := ⟨by decide +kernel, rfl⟩
theorem rX12_lastTurn_30 : tq_D cX12_lastTurn 30 (.land) 1 31 := ⟨by decide +kernel, rfl⟩
theorem rX12_lastTurn_31 : tq_D cX12_lastTurn 31 (.lconst 1) 1 32 := ⟨by decide +kernel, rfl⟩
theorem rX12_lastTurn_32 : tq_D cX12_lastTurn 32 (.lcmp) 1 33 := ⟨by decide +kernel, rfl⟩
theorem rX12_lastTurn_33 : tq_J cX12_lastTurn 33 (.ifCond .ne) 49 36 := ⟨16, by decide +kernel, by decide, rfl⟩
theorem rX12_lastTurn_36 : tq_D cX12_lastTurn 36 (.aload_n 0) 1 37 := ⟨by decide +kernel, rfl⟩
theorem rX12_lastTurn_37 : tq_D cX12_lastTurn 37 (.iload_n 1) 1 38 := ⟨by decide +kernel, rfl⟩
theorem rX12_lastTurn_38 : tq_D cX12_lastTurn 38 (.iload 4) 2 40 := ⟨by decide +kernel, rfl⟩
theorem rX12_lastTurn_40 : tq_D cX12_lastTurn 40 (.invokevirtual 193) 3 43 := ⟨by decide +kernel, rfl⟩
theorem rX12_lastTurn_43 : tq_D cX12_lastTurn 43 (.invokestatic 230) 3 46 := ⟨by decide +kernel, rfl⟩
theorem rX12_lastTurn_46 : tq_J cX12_lastTurn 46 .goto 50 49 := ⟨4, by decide +kernel, by decide, rfl⟩
theorem rX12_lastTurn_49 : tq_D cX12_lastTurn 49 (.iconst 0) 1 50 := ⟨by decide +kernel, rfl⟩
theorem rX12_lastTurn_50 : tq_D cX12_lastTurn 50 (.istore 5) 2 52 := ⟨by decide +kernel, rfl⟩
theorem rX12_lastTurn_52 : tq_D cX12_lastTurn 52 (.iload 5) 2 54 := ⟨by decide +kernel, rfl⟩
theorem rX12_lastTurn_54 : tq_D cX12_lastTurn 54 (.iload_n 3) 1 55 := ⟨by decide +kernel, rfl⟩
theorem rX12_lastTurn_55 : tq_J cX12_lastTurn 55 (.if_icmp .le) 63 58 := ⟨8, by decide +kernel, by decide, rfl⟩
theorem rX12_lastTurn_58 : tq_D cX12_lastTurn 58 (.iload 5) 2 60 := ⟨by decide +kernel, rfl⟩
theorem rX12_lastTurn_60 : tq_J cX12_lastTurn 60 .goto 64 63 := ⟨4, by decide +kernel, by decide, rfl⟩
theorem rX12_lastTurn_63 : tq_D cX12_lastTurn 63 (.iload_n 3) 1 64 := ⟨by decide +kernel, rfl⟩
theorem rX12_lastTurn_64 : tq_D cX12_lastTurn 64 (.istore_n 3) 1 65 := ⟨by decide +kernel, rfl⟩
theorem rX12_lastTurn_65 : tq_D cX12_lastTurn 65 (.iinc 4 1) 3 68 := ⟨by decide +kernel, rfl⟩
theorem rX12_lastTurn_68 : tq_J cX12_lastTurn 68 .goto 11 71 := ⟨(-57), by decide +kernel, by decide, rfl⟩
theorem rX12_lastTurn_71 : tq_D cX12_lastTurn 71 (.iload_n 2) 1 72 := ⟨by decide +kernel, rfl⟩
theorem rX12_lastTurn_72 : tq_J cX12_lastTurn 72 (.ifCond .ne) 79 75 := ⟨7, by decide +kernel, by decide, rfl⟩
theorem rX12_lastTurn_75 : tq_D cX12_lastTurn 75 (.iload_n 3) 1 76 := ⟨by decide +kernel, rfl⟩
theorem rX12_lastTurn_76 : tq_J cX12_lastTurn 76 .goto 81 79 := ⟨5, by decide +kernel, by decide, rfl⟩
theorem rX12_lastTurn_79 : tq_D cX12_lastTurn 79 (.iload_n 3) 1 80 := ⟨by decide +kernel, rfl⟩
theorem rX12_lastTurn_80 : tq_D cX12_lastTurn 80 (.ineg) 1 81 := ⟨by decide +kernel, rfl⟩
theorem rX12_lastTurn_81 : decode cX12_lastTurn 81 = .ok (.ireturn, 1) := by decide +kernel
noncomputable def FX12_lastTurn_j64L11 (I : tq_PI) (L : tq_PL) (a0 : Nat) (a1 : Int32) (a2 : Int32) (a4 : Int32) (b0 : Int32) : Option ((Int32 × Int32) ⊕ (Int32)) :=
  some (.inl (b0, (a4 + 1)))
noncomputable def FX12_lastTurn_j50L11 (I : tq_PI) (L : tq_PL) (a0 : Nat) (a1 : Int32) (a2 : Int32) (a3 : Int32) (a4 : Int32) (b0 : Int32) : Option ((Int32 × Int32) ⊕ (Int32)) :=
  (if b0 ≤ a3 then (FX12_lastTurn_j64L11 I L a0 a1 a2 a4 a3) else (FX12_lastTurn_j64L11 I L a0 a1 a2 a4 b0))
noncomputable def FX12_lastTurn_s11 (I : tq_PI) (L : tq_PL) (a0 : Nat) (a1 : Int32) (a2 : Int32) (a3 : Int32) (a4 : Int32) : Option ((Int32 × Int32) ⊕ (Int32)) :=
  (tq_let (FX12_many I L a0) fun p2 => (if p2 ≤ a4 then some (.inr a3) else (if 0 ≤ a1 ∧ a1 < 4 then (if (lg_cmp (((L (tq_rg a0 30) a1.toNatClampNeg) >>> (Int32.toInt64 a4 &&& 63)) &&& (1 : Int64)) (1 : Int64)) = 0 then ((FX12_kindOf I L a0 a1 a4).bind fun p7 => (tq_let (FX12_worthOf I L p7) fun p8 => (FX12_lastTurn_j50L11 I L a0 a1 a2 a3 a4 p8))) else (FX12_lastTurn_j50L11 I L a0 a1 a2 a3 a4 ((0 : Int32)))) else none)))
noncomputable def FX12_lastTurn (I : tq_PI) (L : tq_PL) (a0 : Nat) (a1 : Int32) (a2 : Int32) : Option (Int32 × tq_PI × tq_PL) :=
  ((FX12_sees I L a0 a1 a2).bind fun p1 => ((tq_it (fun p : Int32 × Int32 => FX12_lastTurn_s11 p1.1 p1.2 a0 a1 a2 p.1 p.2) tq_N ((0 : Int32), (0 : Int32))).bind fun p9 => (if a2 = 0 then some (p9, p1.1, p1.2) else some ((-p9), p1.1, p1.2))))
set_option maxRecDepth 100000 in
set_option maxHeartbeats 4000000 in
theorem FX12_lastTurn_j64L11_x {S : Nat × (Nat → Int32)} {d : Nat} {I : tq_PI} {L : tq_PL} {a0 : Nat} {a1 : Int32} {a2 : Int32} {a4 : Int32} {b0 : Int32} (h0 : tq_sh0 a0 = 12) {q0 : Option Value → tq_PI → tq_PL → Prop} {out : (Int32 × Int32) ⊕ (Int32)} (hf : FX12_lastTurn_j64L11 I L a0 a1 a2 a4 b0 = some out) (hk : Sum.elim (fun p : Int32 × Int32 => tq_X S mX12_lastTurn (d + 4) tq_k0 11 ([.ref a0, .int a1, .int a2, .int p.1, .int p.2, tq_u]) [] (tq_st I L) (tq_Q q0)) (fun p : Int32 => tq_X S mX12_lastTurn (d + 4) tq_k0 71 ([tq_u, tq_u, .int a2, .int p, tq_u, tq_u]) [] (tq_st I L) (tq_Q q0)) out) : tq_X S mX12_lastTurn (d + 4) tq_k0 64 ([.ref a0, .int a1, .int a2, tq_u, .int a4, tq_u]) ([.int b0]) (tq_st I L) (tq_Q q0) := by
  unfold FX12_lastTurn_j64L11 at hf
  refine tq_istore_n ([.ref a0, .int a1, .int a2, .int b0, .int a4, tq_u]) rX12_lastTurn_64 (Nat.le_of_ble_eq_true rfl) rfl ?_
  refine tq_iinc (a4 + 1) ([.ref a0, .int a1, .int a2, .int b0, .int (a4 + 1), tq_u]) rX12_lastTurn_65 rfl (tq_inc (by decide)) (Nat.le_of_ble_eq_true rfl) rfl ?_
  refine tq_goto rX12_lastTurn_68 ?_
  have hf := Option.some.inj hf
  subst hf
  exact tq_forget _ (tq_le_s (tq_le_s (tq_le_s (tq_le_s (tq_le_s (tq_le_u tq_le_n)))))) hk

set_option maxRecDepth 100000 in
set_option maxHeartbeats 4000000 in
theorem FX12_lastTurn_j50L11_x {S : Nat × (Nat → Int32)} {d : Nat} {I : tq_PI} {L : tq_PL} {a0 : Nat} {a1 : Int32} {a2 : Int32} {a3 : Int32} {a4 : Int32} {b0 : Int32} (h0 : tq_sh0 a0 = 12) {q0 : Option Value → tq_PI → tq_PL → Prop} {out : (Int32 × Int32) ⊕ (Int32)} (hf : FX12_lastTurn_j50L11 I L a0 a1 a2 a3 a4 b0 = some out) (hk : Sum.elim (fun p : Int32 × Int32 => tq_X S mX12_lastTurn (d + 4) tq_k0 11 ([.ref a0, .int a1, .int a2, .int p.1, .int p.2, tq_u]) [] (tq_st I L) (tq_Q q0)) (fun p : Int32 => tq_X S mX12_lastTurn (d + 4) tq_k0 71 ([tq_u, tq_u, .int a2, .int p, tq_u, tq_u]) [] (tq_st I L) (tq_Q q0)) out) : tq_X S mX12_lastTurn (d + 4) tq_k0 50 ([.ref a0, .int a1, .int a2, .int a3, .int a4, tq_u]) ([.int b0]) (tq_st I L) (tq_Q q0) := by
  unfold FX12_lastTurn_j50L11 at hf
  refine tq_istore ([.ref a0, .int a1, .int a2, .int a3, .int a4, .int b0]) rX12_lastTurn_50 (Nat.le_of_ble_eq_true rfl) rfl ?_
  refine tq_iload rX12_lastTurn_52 rfl ?_
  refine tq_iload_n rX12_lastTurn_54 rfl ?_
  refine tq_icmp_le rX12_lastTurn_55 (fun c6 => ?_) (fun c6 => ?_)
  · rw [if_pos c6] at hf
    refine tq_iload_n rX12_lastTurn_63 rfl ?_
    exact tq_forget _ (tq_le_s (tq_le_s (tq_le_s (tq_le_u (tq_le_s (tq_le_u tq_le_n)))))) (FX12_lastTurn_j64L11_x  h0 hf hk)
  · rw [if_neg c6] at hf
    refine tq_iload rX12_lastTurn_58 rfl ?_
    refine tq_goto rX12_lastTurn_60 ?_
    exact tq_forget _ (tq_le_s (tq_le_s (tq_le_s (tq_le_u (tq_le_s (tq_le_u tq_le_n)))))) (FX12_lastTurn_j64L11_x  h0 hf hk)

set_option maxRecDepth 100000 in
set_option maxHeartbeats 4000000 in
theorem FX12_lastTurn_s11_x {S : Nat × (Nat → Int32)} {d : Nat} {I : tq_PI} {L : tq_PL} {a0 : Nat} {a1 : Int32} {a2 : Int32} {a3 : Int32} {a4 : Int32} (h0 : tq_sh0 a0 = 12) {q0 : Option Value → tq_PI → tq_PL → Prop} {out : (Int32 × Int32) ⊕ (Int32)} (hf : FX12_lastTurn_s11 I L a0 a1 a2 a3 a4 = some out) (hk : Sum.elim (fun p : Int32 × Int32 => tq_X S mX12_lastTurn (d + 4) tq_k0 11 ([.ref a0, .int a1, .int a2, .int p.1, .int p.2, tq_u]) [] (tq_st I L) (tq_Q q0)) (fun p : Int32 => tq_X S mX12_lastTurn (d + 4) tq_k0 71 ([tq_u, tq_u, .int a2, .int p, tq_u, tq_u]) [] (tq_st I L) (tq_Q q0)) out) : tq_X S mX12_lastTurn (d + 4) tq_k0 11 ([.ref a0, .int a1, .int a2, .int a3, .int a4, tq_u]) [] (tq_st I L) (tq_Q q0) := by
  unfold FX12_lastTurn_s11 at hf
  refine tq_iload rX12_lastTurn_11 rfl ?_
  refine tq_aload_n rX12_lastTurn_13 rfl ?_
  obtain ⟨p2, e2, hf⟩ := tq_let_elim hf
  refine ty_callVI p2 ([]) ([.int a4]) rX12_lastTurn_14 l_X12_190 moX12_many mvX12_many h0 rfl rfl (Nat.le_of_ble_eq_true rfl) ⟨rfl, rfl⟩ (CX12_many h0 e2) ?_
  refine tq_icmp_ge rX12_lastTurn_17 (fun c3 => ?_) (fun c3 => ?_)
  · rw [if_pos c3] at hf
    have hf := Option.some.inj hf
    subst hf
    exact tq_forget _ (tq_le_u (tq_le_u (tq_le_s (tq_le_s (tq_le_u (tq_le_u tq_le_n)))))) hk
  · rw [if_neg c3] at hf
    refine tq_aload_n rX12_lastTurn_20 rfl ?_
    refine ty_getR rX12_lastTurn_21 f_X12_47 rfl h0 (hp_12_30 h0).1 ?_
    refine tq_iload_n rX12_lastTurn_24 rfl ?_
    obtain ⟨g4, hf⟩ := tq_chk hf
    refine ty_lald (v := 4) rX12_lastTurn_25 (hp_12_30 h0).2.1 (hp_12_30 h0).2.2 rfl (by decide) g4 ?_
    refine tq_iload rX12_lastTurn_26 rfl ?_
    refine tq_lshr rX12_lastTurn_28 ?_
    refine tq_lconst (1 : Int64) rX12_lastTurn_29 (by decide) ?_
    refine tq_land rX12_lastTurn_30 ?_
    refine tq_lconst (1 : Int64) rX12_lastTurn_31 (by decide) ?_
    refine tq_lcmp rX12_lastTurn_32 ?_
    refine tq_if_ne rX12_lastTurn_33 (fun c5 => ?_) (fun c5 => ?_)
    · rw [if_neg c5] at hf
      refine tq_iconst (0 : Int32) rX12_lastTurn_49 (by decide) ?_
      exact tq_forget _ (tq_le_s (tq_le_s (tq_le_s (tq_le_s (tq_le_s (tq_le_u tq_le_n)))))) (FX12_lastTurn_j50L11_x  h0 hf hk)
    · rw [if_pos c5] at hf
      refine tq_aload_n rX12_lastTurn_36 rfl ?_
      refine tq_iload_n rX12_lastTurn_37 rfl ?_
      refine tq_iload rX12_lastTurn_38 rfl ?_
      obtain ⟨p7, e7, hf⟩ := Option.bind_eq_some_iff.mp hf
      refine ty_callVI p7 ([.int a1, .int a4]) ([]) rX12_lastTurn_40 l_X12_193 moX12_kindOf mvX12_kindOf h0 rfl rfl (Nat.le_of_ble_eq_true rfl) ⟨rfl, rfl⟩ (CX12_kindOf h0 e7) ?_
      obtain ⟨p8, e8, hf⟩ := tq_let_elim hf
      refine ty_callSI p8 ([.int p7]) ([]) rX12_lastTurn_43 l_X12_230 moX12_worthOf msX12_worthOf rfl rfl (Nat.le_of_ble_eq_true rfl) ⟨rfl, rfl⟩ (CX12_worthOf  e8) ?_
      refine tq_goto rX12_lastTurn_46 ?_
      exact tq_forget _ (tq_le_s (tq_le_s (tq_le_s (tq_le_s (tq_le_s (tq_le_u tq_le_n)))))) (FX12_lastTurn_j50L11_x  h0 hf hk)

set_option maxRecDepth 100000 in
set_option maxHeartbeats 4000000 in
theorem CX12_lastTurn {S : Nat × (Nat → Int32)} {d : Nat} {I : tq_PI} {L : tq_PL} {a0 : Nat} {a1 : Int32} {a2 : Int32} (h0 : tq_sh0 a0 = 12) {out : Int32 × tq_PI × tq_PL} (hf : FX12_lastTurn I L a0 a1 a2 = some out) : tq_K S mX12_lastTurn (d + 4) [.ref a0, .int a1, .int a2] I L (tq_one2 (some (.int out.1)) out.2.1 out.2.2) := by
  unfold FX12_lastTurn at hf
  refine tq_K_of (by decide) (Nat.le_of_ble_eq_true rfl) (ls := [.ref a0, .int a1, .int a2, tq_u, tq_u, tq_u]) rfl ?_
  refine tq_aload_n rX12_lastTurn_0 rfl ?_
  refine tq_iload_n rX12_lastTurn_1 rfl ?_
  refine tq_iload_n rX12_lastTurn_2 rfl ?_
  obtain ⟨p1, e1, hf⟩ := Option.bind_eq_some_iff.mp hf
  refine ty_callVV ([.int a1, .int a2]) ([]) rX12_lastTurn_3 l_X12_323 moX12_sees mvX12_sees h0 rfl rfl (Nat.le_of_ble_eq_true rfl) ⟨rfl, rfl⟩ (CX12_sees h0 e1) ?_
  refine tq_iconst (0 : Int32) rX12_lastTurn_6 (by decide) ?_
  refine tq_istore_n ([.ref a0, .int a1, .int a2, .int (0 : Int32), tq_u, tq_u]) rX12_lastTurn_7 (Nat.le_of_ble_eq_true rfl) rfl ?_
  refine tq_iconst (0 : Int32) rX12_lastTurn_8 (by decide) ?_
  refine tq_istore ([.ref a0, .int a1, .int a2, .int (0 : Int32), .int (0 : Int32), tq_u]) rX12_lastTurn_9 (Nat.le_of_ble_eq_true rfl) rfl ?_
  obtain ⟨p9, e9, hf⟩ := Option.bind_eq_some_iff.mp hf
  refine tq_forget _ (tq_le_s (tq_le_s (tq_le_s (tq_le_s (tq_le_s (tq_le_u tq_le_n)))))) ?_
  refine tq_it_elim (P := fun p : Int32 × Int32 => tq_X S mX12_lastTurn (d + 4) tq_k0 11 ([.ref a0, .int a1, .int a2, .int p.1, .int p.2, tq_u]) [] (tq_st p1.1 p1.2) (tq_Q (tq_one2 (some (.int out.1)) out.2.1 out.2.2))) (R := fun p : Int32 => tq_X S mX12_lastTurn (d + 4) tq_k0 71 ([tq_u, tq_u, .int a2, .int p, tq_u, tq_u]) [] (tq_st p1.1 p1.2) (tq_Q (tq_one2 (some (.int out.1)) out.2.1 out.2.2))) (fun p o hp hk => FX12_lastTurn_s11_x  h0 hp hk) _ (((0 : Int32), (0 : Int32))) _ e9 ?_
  show tq_X _ _ _ _ _ _ _ _ _
  refine tq_iload_n rX12_lastTurn_71 rfl ?_
  refine tq_if_ne rX12_lastTurn_72 (fun c10 => ?_) (fun c10 => ?_)
  · rw [if_neg c10] at hf
    refine tq_iload_n rX12_lastTurn_79 rfl ?_
    refine tq_ineg rX12_lastTurn_80 ?_
    refine ty_iret rX12_lastTurn_81 rfl rfl ?_
    have hf := Option.some.inj hf
    subst hf
    exact ⟨rfl, rfl, rfl⟩
  · rw [if_pos c10] at hf
    refine tq_iload_n rX12_lastTurn_75 rfl ?_
    refine tq_goto rX12_lastTurn_76 ?_
    refine ty_iret rX12_lastTurn_81 rfl rfl ?_
    have hf := Option.some.inj hf
    subst hf
    exact ⟨rfl, rfl, rfl⟩

abbrev mX12_brings : tq_M := (yX12_brings, cX12_brings, 5, (Option.some Jvm.ClassFile.FieldType.int), 0, 0)
theorem rX12_brings_0 : tq_D cX12_brings 0 (.iload_n 3) 1 1 := ⟨by decide +kernel, rfl⟩
theorem rX12_brings_1 : tq_D cX12_brings 1 (.aload_n 0) 1 2 := ⟨by decide +kernel, rfl⟩
theorem rX12_brings_2 : tq_D cX12_brings 2 (.invokevirtual 190) 3 5 := ⟨by decide +kernel, rfl⟩
theorem rX12_brings_5 : tq_J cX12_brings 5 (.if_icmp .ne) 53 8 := ⟨48, by decide +kernel, by decide, rfl⟩
theorem rX12_brings_8 : tq_D cX12_brings 8 (.iconst 0) 1 9 := ⟨by decide +kernel, rfl⟩
theorem rX12_brings_9 : tq_D cX12_brings 9 (.istore 4) 2 11 := ⟨by decide +kernel, rfl⟩
theorem rX12_brings_11 : tq_D cX12_brings 11 (.iload 4) 2 13 := ⟨by decide +kernel, rfl⟩
theorem rX12_brings_13 : tq_D cX12_brings 13 (.bipush 48) 2 15 := ⟨by decide +kernel, rfl⟩
theorem rX12_brings_15 : tq_J cX12_brings 15 (.if_icmp .ge) 51 18 := ⟨36, by decide +kernel, by decide, rfl⟩
theorem rX12_brings_18 : tq_D cX12_brings 18 (.aload_n 0) 1 19 := ⟨by decide +kernel, rfl⟩
theorem rX12_brings_19 : tq_D cX12_brings 19 (.getfield 20) 3 22 := ⟨by decide +kernel, rfl⟩
theorem rX12_brings_22 : tq_D cX12_brings 22 (.bipush 48) 2 24 := ⟨by decide +kernel, rfl⟩
theorem rX12_brings_24 : tq_D cX12_brings 24 (.iload_n 1) 1 25 := ⟨by decide +kernel, rfl⟩
theorem rX12_brings_25 : tq_D cX12_brings 25 (.imul) 1 26 := ⟨by decide +kernel, rfl⟩
theorem rX12_brings_26 : tq_D cX12_brings 26 (.bipush 48) 2 28 := ⟨by decide +kernel, rfl⟩
theorem rX12_brings_28 : tq_D cX12_brings 28 (.iadd) 1 29 := ⟨by decide +kernel, rfl⟩
theorem rX12_brings_29 : tq_D cX12_brings 29 (.iload 4) 2 31 := ⟨by decide +kernel, rfl⟩
theorem rX12_brings_31 : tq_D cX12_brings 31 (.iadd) 1 32 := ⟨by decide +kernel, rfl⟩
theorem rX12_brings_32 : tq_D cX12_brings 32 (.aload_n 0) 1 33 := ⟨by decide +kernel, rfl⟩
theorem rX12_brings_33 : tq_D cX12_brings 33 (.getfield 20) 3 36 := ⟨by decide +kernel, rfl⟩
theorem rX12_brings_36 : tq_D cX12_brings 36 (.bipush 48) 2 38 := ⟨by decide +kernel, rfl⟩
theorem rX12_brings_38 : tq_D cX12_brings 38 (.iload_n 1) 1 39 := ⟨by decide +kernel, rfl⟩
theorem rX12_brings_39 : tq_D cX12_brings 39 (.imul) 1 40 := ⟨by decide +kernel, rfl⟩
theorem rX12_brings_40 : tq_D cX12_brings 40 (.iload 4) 2 42 := ⟨by decide +kernel, rfl⟩
theorem rX12_brings_42 : tq_D cX12_brings 42 (.iadd) 1 43 := ⟨by decide +kernel, rfl⟩
theorem rX12_brings_43 : tq_D cX12_brings 43 (.iaload) 1 44 := ⟨by decide +kernel, rfl⟩
theorem rX12_brings_44 : tq_D cX12_brings 44 (.iastore) 1 45 := ⟨by decide +kernel, rfl⟩
theorem rX12_brings_45 : tq_D cX12_brings 45 (.iinc 4 1) 3 48 := ⟨by decide +kernel, rfl⟩
theorem rX12_brings_48 : tq_J cX12_brings 48 .goto 11 51 := ⟨(-37), by decide +kernel, by decide, rfl⟩
theorem rX12_brings_51 : tq_D cX12_brings 51 (.iconst 0) 1 52 := ⟨by decide +kernel, rfl⟩
theorem rX12_brings_52 : decode cX12_brings 52 = .ok (.ireturn, 1) := by decide +kernel
theorem rX12_brings_53 : tq_D cX12_brings 53 (.aload_n 0) 1 54 := ⟨by decide +kernel, rfl⟩
theorem rX12_brings_54 : tq_D cX12_brings 54 (.iload_n 1) 1 55 := ⟨by decide +kernel, rfl⟩
theorem rX12_brings_55 : tq_D cX12_brings 55 (.iload_n 3) 1 56 := ⟨by decide +kernel, rfl⟩
theorem rX12_brings_56 : tq_D cX12_brings 56 (.invokevirtual 193) 3 59 := ⟨by decide +kernel, rfl⟩
theorem rX12_brings_59 : tq_D cX12_brings 59 (.invokestatic 230) 3 62 := ⟨by decide +kernel, rfl⟩
theorem rX12_brings_62 : tq_D cX12_brings 62 (.istore 4) 2 64 := ⟨by decide +kernel, rfl⟩
theorem rX12_brings_64 : tq_D cX12_brings 64 (.aload_n 0) 1 65 := ⟨by decide +kernel, rfl⟩
theorem rX12_brings_65 : tq_D cX12_brings 65 (.iload_n 1) 1 66 := ⟨by decide +kernel, rfl⟩
theorem rX12_brings_66 : tq_D cX12_brings 66 (.iload_n 3) 1 67 := ⟨by decide +kernel, rfl⟩
theorem rX12_brings_67 : tq_D cX12_brings 67 (.invokevirtual 301) 3 70 := ⟨by decide +kernel, rfl⟩
theorem rX12_brings_70 : tq_D cX12_brings 70 (.pop) 1 71 := ⟨by decide +kernel, rfl⟩
theorem rX12_brings_71 : tq_D cX12_brings 71 (.iload_n 2) 1 72 := ⟨by decide +kernel, rfl⟩
theorem rX12_brings_72 : tq_J cX12_brings 72 (.ifCond .ne) 80 75 := ⟨8, by decide +kernel, by decide, rfl⟩
theorem rX12_brings_75 : tq_D cX12_brings 75 (.iload 4) 2 77 := ⟨by decide +kernel, rfl⟩
theorem rX12_brings_77 : tq_J cX12_brings 77 .goto 83 80 := ⟨6, by decide +kernel, by decide, rfl⟩
theorem rX12_brings_80 : tq_D cX12_brings 80 (.iload 4) 2 82 := ⟨by decide +kernel, rfl⟩
theorem rX12_brings_82 : tq_D cX12_brings 82 (.ineg) 1 83 := ⟨by decide +kernel, rfl⟩
theorem rX12_brings_83 : decode cX12_brings 83 = .ok (.ireturn, 1) := by decide +kernel
noncomputable def FX12_brings_s11 (I : tq_PI) (L : tq_PL) (a0 : Nat) (a1 : Int32) (a4 : Int32) : Option ((Int32 × tq_PI) ⊕ (tq_PI)) :=
  (if (48 : Int32) ≤ a4 then some (.inr I) else (if 0 ≤ (((48 : Int32) * a1) + a4) ∧ (((48 : Int32) * a1) + a4) < 192 then (if 0 ≤ ((((48 : Int32) * a1) + (48 : Int32)) + a4) ∧ ((((48 : Int32) * a1) + (48 : Int32)) + a4) < 192 then some (.inl ((a4 + 1), (tq_up2 I (tq_rg a0 15) (((((48 : Int32) * a1) + (48 : Int32)) + a4)).toNatClampNeg (I (tq_rg a0 15) ((((48 : Int32) * a1) + a4)).toNatClampNeg)))) else none) else none))
noncomputable def FX12_brings (I : tq_PI) (L : tq_PL) (a0 : Nat) (a1 : Int32) (a2 : Int32) (a3 : Int32) : Option (Int32 × tq_PI) :=
  (tq_let (FX12_many I L a0) fun p1 => (if a3 = p1 then ((tq_it (fun p : Int32 × tq_PI => FX12_brings_s11 p.2 L a0 a1 p.1) tq_N ((0 : Int32), I)).bind fun p10 => some ((0 : Int32), p10)) else ((FX12_kindOf I L a0 a1 a3).bind fun p3 => (tq_let (FX12_worthOf I L p3) fun p4 => ((FX12_taken I L a0 a1 a3).bind fun p5 => (if a2 = 0 then some (p4, p5.2) else some ((-p4), p5.2)))))))
set_option maxRecDepth 100000 in
set_option maxHeartbeats 4000000 in
theorem FX12_brings_s11_x {S : Nat × (Nat → Int32)} {d : Nat} {I : tq_PI} {L : tq_PL} {a0 : Nat} {a1 : Int32} {a4 : Int32} (h0 : tq_sh0 a0 = 12) {q0 : Option Value → tq_PI → tq_PL → Prop} {out : (Int32 × tq_PI) ⊕ (tq_PI)} (hf : FX12_brings_s11 I L a0 a1 a4 = some out) (hk : Sum.elim (fun p : Int32 × tq_PI => tq_X S mX12_brings (d + 5) tq_k0 11 ([.ref a0, .int a1, tq_u, tq_u, .int p.1]) [] (tq_st p.2 L) (tq_Q q0)) (fun p : tq_PI => tq_X S mX12_brings (d + 5) tq_k0 51 ([tq_u, tq_u, tq_u, tq_u, tq_u]) [] (tq_st p L) (tq_Q q0)) out) : tq_X S mX12_brings (d + 5) tq_k0 11 ([.ref a0, .int a1, tq_u, tq_u, .int a4]) [] (tq_st I L) (tq_Q q0) := by
  unfold FX12_brings_s11 at hf
  refine tq_iload rX12_brings_11 rfl ?_
  refine tq_bipush (48 : Int32) rX12_brings_13 (by decide) ?_
  refine tq_icmp_ge rX12_brings_15 (fun c7 => ?_) (fun c7 => ?_)
  · rw [if_pos c7] at hf
    have hf := Option.some.inj hf
    subst hf
    exact tq_forget _ (tq_le_u (tq_le_u (tq_le_u (tq_le_u (tq_le_u tq_le_n))))) hk
  · rw [if_neg c7] at hf
    refine tq_aload_n rX12_brings_18 rfl ?_
    refine ty_getR rX12_brings_19 f_X12_20 rfl h0 (hp_12_15 h0).1 ?_
    refine tq_bipush (48 : Int32) rX12_brings_22 (by decide) ?_
    refine tq_iload_n rX12_brings_24 rfl ?_
    refine tq_imul rX12_brings_25 ?_
    refine tq_bipush (48 : Int32) rX12_brings_26 (by decide) ?_
    refine tq_iadd rX12_brings_28 ?_
    refine tq_iload rX12_brings_29 rfl ?_
    refine tq_iadd rX12_brings_31 ?_
    refine tq_aload_n rX12_brings_32 rfl ?_
    refine ty_getR rX12_brings_33 f_X12_20 rfl h0 (hp_12_15 h0).1 ?_
    refine tq_bipush (48 : Int32) rX12_brings_36 (by decide) ?_
    refine tq_iload_n rX12_brings_38 rfl ?_
    refine tq_imul rX12_brings_39 ?_
    refine tq_iload rX12_brings_40 rfl ?_
    refine tq_iadd rX12_brings_42 ?_
    obtain ⟨g8, hf⟩ := tq_chk hf
    refine ty_iald (v := 192) rX12_brings_43 (hp_12_15 h0).2.1 (hp_12_15 h0).2.2 rfl (by decide) g8 ?_
    obtain ⟨g9, hf⟩ := tq_chk hf
    refine ty_iast (v := 192) rX12_brings_44 (hp_12_15 h0).2.1 (hp_12_15 h0).2.2 rfl (by decide) g9 ?_
    refine tq_iinc (a4 + 1) ([.ref a0, .int a1, tq_u, tq_u, .int (a4 + 1)]) rX12_brings_45 rfl (tq_inc (by decide)) (Nat.le_of_ble_eq_true rfl) rfl ?_
    refine tq_goto rX12_brings_48 ?_
    have hf := Option.some.inj hf
    subst hf
    exact tq_forget _ (tq_le_s (tq_le_s (tq_le_u (tq_le_u (tq_le_s tq_le_n))))) hk

set_option maxRecDepth 100000 in
set_option maxHeartbeats 4000000 in
theorem CX12_brings {S : Nat × (Nat → Int32)} {d : Nat} {I : tq_PI} {L : tq_PL} {a0 : Nat} {a1 : Int32} {a2 : Int32} {a3 : Int32} (h0 : tq_sh0 a0 = 12) {out : Int32 × tq_PI} (hf : FX12_brings I L a0 a1 a2 a3 = some out) : tq_K S mX12_brings (d + 5) [.ref a0, .int a1, .int a2, .int a3] I L (tq_one2 (some (.int out.1)) out.2 L) := by
  unfold FX12_brings at hf
  refine tq_K_of (by decide) (Nat.le_of_ble_eq_true rfl) (ls := [.ref a0, .int a1, .int a2, .int a3, tq_u]) rfl ?_
  refine tq_iload_n rX12_brings_0 rfl ?_
  refine tq_aload_n rX12_brings_1 rfl ?_
  obtain ⟨p1, e1, hf⟩ := tq_let_elim hf
  refine ty_callVI p1 ([]) ([.int a3]) rX12_brings_2 l_X12_190 moX12_many mvX12_many h0 rfl rfl (Nat.le_of_ble_eq_true rfl) ⟨rfl, rfl⟩ (CX12_many h0 e1) ?_
  refine tq_icmp_ne rX12_brings_5 (fun c2 => ?_) (fun c2 => ?_)
  · rw [if_neg c2] at hf
    refine tq_aload_n rX12_brings_53 rfl ?_
    refine tq_iload_n rX12_brings_54 rfl ?_
    refine tq_iload_n rX12_brings_55 rfl ?_
    obtain ⟨p3, e3, hf⟩ := Option.bind_eq_some_iff.mp hf
    refine ty_callVI p3 ([.int a1, .int a3]) ([]) rX12_brings_56 l_X12_193 moX12_kindOf mvX12_kindOf h0 rfl rfl (Nat.le_of_ble_eq_true rfl) ⟨rfl, rfl⟩ (CX12_kindOf h0 e3) ?_
    obtain ⟨p4, e4, hf⟩ := tq_let_elim hf
    refine ty_callSI p4 ([.int p3]) ([]) rX12_brings_59 l_X12_230 moX12_worthOf msX12_worthOf rfl rfl (Nat.le_of_ble_eq_true rfl) ⟨rfl, rfl⟩ (CX12_worthOf  e4) ?_
    refine tq_istore ([.ref a0, .int a1, .int a2, .int a3, .int p4]) rX12_brings_62 (Nat.le_of_ble_eq_true rfl) rfl ?_
    refine tq_aload_n rX12_brings_64 rfl ?_
    refine tq_iload_n rX12_brings_65 rfl ?_
    refine tq_iload_n rX12_brings_66 rfl ?_
    obtain ⟨p5, e5, hf⟩ := Option.bind_eq_some_iff.mp hf
    refine ty_callVI p5.1 ([.int a1, .int a3]) ([]) rX12_brings_67 l_X12_301 moX12_taken mvX12_taken h0 rfl rfl (Nat.le_of_ble_eq_true rfl) ⟨rfl, rfl⟩ (CX12_taken h0 e5) ?_
    refine tq_pop rX12_brings_70 rfl ?_
    refine tq_iload_n rX12_brings_71 rfl ?_
    refine tq_if_ne rX12_brings_72 (fun c6 => ?_) (fun c6 => ?_)
    · rw [if_neg c6] at hf
      refine tq_iload rX12_brings_80 rfl ?_
      refine tq_ineg rX12_brings_82 ?_
      refine ty_iret rX12_brings_83 rfl rfl ?_
      have hf := Option.some.inj hf
      subst hf
      exact ⟨rfl, rfl, rfl⟩
    · rw [if_pos c6] at hf
      refine tq_iload rX12_brings_75 rfl ?_
      refine tq_goto rX12_brings_77 ?_
      refine ty_iret rX12_brings_83 rfl rfl ?_
      have hf := Option.some.inj hf
      subst hf
      exact ⟨rfl, rfl, rfl⟩
  · rw [if_pos c2] at hf
    refine tq_iconst (0 : Int32) rX12_brings_8 (by decide) ?_
    refine tq_istore ([.ref a0, .int a1, .int a2, .int a3, .int (0 : Int32)]) rX12_brings_9 (Nat.le_of_ble_eq_true rfl) rfl ?_
    obtain ⟨p10, e10, hf⟩ := Option.bind_eq_some_iff.mp hf
    refine tq_forget _ (tq_le_s (tq_le_s (tq_le_u (tq_le_u (tq_le_s tq_le_n))))) ?_
    refine tq_it_elim (P := fun p : Int32 × tq_PI => tq_X S mX12_brings (d + 5) tq_k0 11 ([.ref a0, .int a1, tq_u, tq_u, .int p.1]) [] (tq_st p.2 L) (tq_Q (tq_one2 (some (.int out.1)) out.2 L))) (R := fun p : tq_PI => tq_X S mX12_brings (d + 5) tq_k0 51 ([tq_u, tq_u, tq_u, tq_u, tq_u]) [] (tq_st p L) (tq_Q (tq_one2 (some (.int out.1)) out.2 L))) (fun p o hp hk => FX12_brings_s11_x  h0 hp hk) _ (((0 : Int32), I)) _ e10 ?_
    show tq_X _ _ _ _ _ _ _ _ _
    refine tq_iconst (0 : Int32) rX12_brings_51 (by decide) ?_
    refine ty_iret rX12_brings_52 rfl rfl ?_
    have hf := Option.some.inj hf
    subst hf
    exact ⟨rfl, rfl, rfl⟩

abbrev mX12_turnBefore : tq_M := (yX12_turnBefore, cX12_turnBefore, 9, (Option.some Jvm.ClassFile.FieldType.int), 0, 0)
theorem moX12_brings : tq_mok mX12_brings 3 := ⟨tq_sg1 _ (List.mem_of_getElem? (i := 13) rfl), tq_sg8 _ (List.mem_of_getElem? (i := 74) rfl), ⟨by decide, by decide, by decide +kernel⟩, by decide⟩
theorem mvX12_brings : 12 < 13 ∧ (tq_cl 12).1 = mX12_brings.1.cls ∧ Cond.instanceMethod mX12_brings.1 ∈ lw_tbl ∧ Cond.selects mX12_brings.1.cls mX12_brings.1 mX12_brings.1 ∈ lw_tbl := ⟨by decide, rfl, tq_sg8 _ (List.mem_of_getElem? (i := 73) rfl), List.mem_append_left _ (List.mem_map.mpr ⟨_, List.mem_of_getElem? (i := 97) rfl, rfl⟩)⟩
theorem moX12_lastTurn : tq_mok mX12_lastTurn 2 := ⟨tq_sg1 _ (List.mem_of_getElem? (i := 13) rfl), tq_sg8 _ (List.mem_of_getElem? (i := 78) rfl), ⟨by decide, by decide, by decide +kernel⟩, by decide⟩
theorem mvX12_lastTurn : 12 < 13 ∧ (tq_cl 12).1 = mX12_lastTurn.1.cls ∧ Cond.instanceMethod mX12_lastTurn.1 ∈ lw_tbl ∧ Cond.selects mX12_lastTurn.1.cls mX12_lastTurn.1 mX12_lastTurn.1 ∈ lw_tbl := ⟨by decide, rfl, tq_sg8 _ (List.mem_of_getElem? (i := 77) rfl), List.mem_append_left _ (List.mem_map.mpr ⟨_, List.mem_of_getElem? (i := 98) rfl, rfl⟩)⟩
theorem l_X12_342 : tq_lok RX12 342 mX12_brings.1 := Or.inl (tq_sg8 _ (List.mem_of_getElem? (i := 71) rfl))
theorem l_X12_345 : tq_lok RX12 345 mX12_lastTurn.1 := Or.inl (tq_sg8 _ (List.mem_of_getElem? (i := 75) rfl))
theorem rX12_turnBefore_0 : tq_D cX12_turnBefore 0 (.aload_n 0) 1 1 := ⟨by decide +kernel, rfl⟩
theorem rX12_turnBefore_1 : tq_D cX12_turnBefore 1 (.iload_n 1) 1 2 := ⟨by decide +kernel, rfl⟩
theorem rX12_turnBefore_2 : tq_D cX12_turnBefore 2 (.iload_n 2) 1 3 := ⟨by decide +kernel, rfl⟩
theorem rX12_turnBefore_3 : tq_D cX12_turnBefore 3 (.invokevirtual 323) 3 6 := ⟨by decide +kernel, rfl⟩
theorem rX12_turnBefore_6 : tq_D cX12_turnBefore 6 (.aload_n 0) 1 7 := ⟨by decide +kernel, rfl⟩
theorem rX12_turnBefore_7 : tq_D cX12_turnBefore 7 (.getfield 47) 3 10 := ⟨by decide +kernel, rfl⟩
theorem rX12_turnBefore_10 : tq_D cX12_turnBefore 10 (.iload_n 1) 1 11 := ⟨by decide +kernel, rfl⟩
theorem rX12_turnBefore_11 : tq_D cX12_turnBefore 11 (.laload) 1 12 := ⟨by decide +kernel, rfl⟩
theorem rX12_turnBefore_12 : tq_D cX12_turnBefore 12 (.lstore_n 3) 1 13 := ⟨by decide +kernel, rfl⟩
theorem rX12_turnBefore_13 : tq_D cX12_turnBefore 13 (.iconst 0) 1 14 := ⟨by decide +kernel, rfl⟩
theorem rX12_turnBefore_14 : tq_D cX12_turnBefore 14 (.istore 5) 2 16 := ⟨by decide +kernel, rfl⟩
theorem rX12_turnBefore_16 : tq_D cX12_turnBefore 16 (.iconst 0) 1 17 := ⟨by decide +kernel, rfl⟩
theorem rX12_turnBefore_17 : tq_D cX12_turnBefore 17 (.istore 6) 2 19 := ⟨by decide +kernel, rfl⟩
theorem rX12_turnBefore_19 : tq_D cX12_turnBefore 19 (.iconst 0) 1 20 := ⟨by decide +kernel, rfl⟩
theorem rX12_turnBefore_20 : tq_D cX12_turnBefore 20 (.istore 7) 2 22 := ⟨by decide +kernel, rfl⟩
theorem rX12_turnBefore_22 : tq_D cX12_turnBefore 22 (.iload 7) 2 24 := ⟨by decide +kernel, rfl⟩
theorem rX12_turnBefore_24 : tq_D cX12_turnBefore 24 (.aload_n 0) 1 25 := ⟨by decide +kernel, rfl⟩
theorem rX12_turnBefore_25 : tq_D cX12_turnBefore 25 (.invokevirtual 190) 3 28 := ⟨by decide +kernel, rfl⟩
theorem rX12_turnBefore_28 : tq_J cX12_turnBefore 28 (.if_icmp .gt) 119 31 := ⟨91, by decide +kernel, by decide, rfl⟩
theorem rX12_turnBefore_31 : tq_D cX12_turnBefore 31 (.iload 7) 2 33 := ⟨by decide +kernel, rfl⟩
theorem rX12_turnBefore_33 : tq_D cX12_turnBefore 33 (.aload_n 0) 1 34 := ⟨by decide +kernel, rfl⟩
theorem rX12_turnBefore_34 : tq_D cX12_turnBefore 34 (.invokevirtual 190) 3 37 := ⟨by decide +kernel, rfl⟩
theorem rX12_turnBefore_37 : tq_J cX12_turnBefore 37 (.if_icmp .ge) 54 40 := ⟨17, by decide +kernel, by decide, rfl⟩
theorem rX12_turnBefore_40 : tq_D cX12_turnBefore 40 (.lload_n 3) 1 41 := ⟨by decide +kernel, rfl⟩
theorem rX12_turnBefore_41 : tq_D cX12_turnBefore 41 (.iload 7) 2 43 := ⟨by decide +kernel, rfl⟩
theorem rX12_turnBefore_43 : tq_D cX12_turnBefore 43 (.lshr) 1 44 := ⟨by decide +kernel, rfl⟩
theorem rX12_turnBefore_44 : tq_D cX12_turnBefore 44 (.lconst 1) 1 45 := ⟨by decide +kernel, rfl⟩
theorem rX12_turnBefore_45 : tq_D cX12_turnBefore 45 (.land) 1 46 := ⟨by decide +kernel, rfl⟩
theorem rX12_turnBefore_46 : tq_D cX12_turnBefore 46 (.lconst 0) 1 47 := ⟨by decide +kernel, rfl⟩
theorem rX12_turnBefore_47 : tq_D cX12_turnBefore 47 (.lcmp) 1 48 := ⟨by decide +kernel, rfl⟩
theorem rX12_turnBefore_48 : tq_J cX12_turnBefore 48 (.ifCond .ne) 54 51 := ⟨6, by decide +kernel, by decide, rfl⟩
theorem rX12_turnBefore_51 : tq_J cX12_turnBefore 51 .goto 113 54 := ⟨62, by decide +kernel, by decide, rfl⟩
theorem rX12_turnBefore_54 : tq_D cX12_turnBefore 54 (.aload_n 0) 1 55 := ⟨by decide +kernel, rfl⟩
theorem rX12_turnBefore_55 : tq_D cX12_turnBefore 55 (.iload_n 1) 1 56 := ⟨by decide +kernel, rfl⟩
theorem rX12_turnBefore_56 : tq_D cX12_turnBefore 56 (.iload_n 2) 1 57 := ⟨by decide +kernel, rfl⟩
theorem rX12_turnBefore_57 : tq_D cX12_turnBefore 57 (.iload 7) 2 59 := ⟨by decide +kernel, rfl⟩
theorem rX12_turnBefore_59 : tq_D cX12_turnBefore 59 (.invokevirtual 342) 3 62 := ⟨by decide +kernel, rfl⟩
theorem rX12_turnBefore_62 : tq_D cX12_turnBefore 62 (.aload_n 0) 1 63 := ⟨by decide +kernel, rfl⟩
theorem rX12_turnBefore_63 : tq_D cX12_turnBefore 63 (.iload_n 1) 1 64 := ⟨by decide +kernel, rfl⟩
theorem rX12_turnBefore_64 : tq_D cX12_turnBefore 64 (.iconst 1) 1 65 := ⟨by decide +kernel, rfl⟩
theorem rX12_turnBefore_65 : tq_D cX12_turnBefore 65 (.iadd) 1 66 := ⟨by decide +kernel, rfl⟩
theorem rX12_turnBefore_66 : tq_D cX12_turnBefore 66 (.iconst 1) 1 67 := ⟨by decide +kernel, rfl⟩
theorem rX12_turnBefore_67 : tq_D cX12_turnBefore 67 (.iload_n 2) 1 68 := ⟨by decide +kernel, rfl⟩
theorem rX12_turnBefore_68 : tq_D cX12_turnBefore 68 (.isub) 1 69 := ⟨by decide +kernel, rfl⟩
theorem rX12_turnBefore_69 : tq_D cX12_turnBefore 69 (.invokevirtual 345) 3 72 := ⟨by decide +kernel, rfl⟩
theorem rX12_turnBefore_72 : tq_D cX12_turnBefore 72 (.iadd) 1 73 := ⟨by decide +kernel, rfl⟩
theorem rX12_turnBefore_73 : tq_D cX12_turnBefore 73 (.istore 8) 2 75 := ⟨by decide +kernel, rfl⟩
theorem rX12_turnBefore_75 : tq_D cX12_turnBefore 75 (.iload 6) 2 77 := ⟨by decide +kernel, rfl⟩
theorem rX12_turnBefore_77 : tq_J cX12_turnBefore 77 (.ifCond .eq) 101 80 := ⟨24, by decide +kernel, by decide, rfl⟩
theorem rX12_turnBefore_80 : tq_D cX12_turnBefore 80 (.iload_n 2) 1 81 := ⟨by decide +kernel, rfl⟩
theorem rX12_turnBefore_81 : tq_J cX12_turnBefore 81 (.ifCond .ne) 94 84 := ⟨13, by decide +kernel, by decide, rfl⟩
theorem rX12_turnBefore_84 : tq_D cX12_turnBefore 84 (.iload 8) 2 86 := ⟨by decide +kernel, rfl⟩
theorem rX12_turnBefore_86 : tq_D cX12_turnBefore 86 (.iload 5) 2 88 := ⟨by decide +kernel, rfl⟩
theorem rX12_turnBefore_88 : tq_J cX12_turnBefore 88 (.if_icmp .le) 106 91 := ⟨18, by decide +kernel, by decide, rfl⟩
theorem rX12_turnBefore_91 : tq_J cX12_turnBefore 91 .goto 101 94 := ⟨10, by decide +kernel, by decide, rfl⟩
theorem rX12_turnBefore_94 : tq_D cX12_turnBefore 94 (.iload 8) 2 96 := ⟨by decide +kernel, rfl⟩
theorem rX12_turnBefore_96 : tq_D cX12_turnBefore 96 (.iload 5) 2 98 := ⟨by decide +kernel, rfl⟩
theorem rX12_turnBefore_98 : tq_J cX12_turnBefore 98 (.if_icmp .ge) 106 101 := ⟨8, by decide +kernel, by decide, rfl⟩
theorem rX12_turnBefore_101 : tq_D cX12_turnBefore 101 (.iload 8) 2 103 := ⟨by decide +kernel, rfl⟩
theorem rX12_turnBefore_103 : tq_J cX12_turnBefore 103 .goto 108 106 := ⟨5, by decide +kernel, by decide, rfl⟩
theorem rX12_turnBefore_106 : tq_D cX12_turnBefore 106 (.iload 5) 2 108 := ⟨by decide +kernel, rfl⟩
theorem rX12_turnBefore_108 : tq_D cX12_turnBefore 108 (.istore 5) 2 110 := ⟨by decide +kernel, rfl⟩
theorem rX12_turnBefore_110 : tq_D cX12_turnBefore 110 (.iconst 1) 1 111 := ⟨by decide +kernel, rfl⟩
theorem rX12_turnBefore_111 : tq_D cX12_turnBefore 111 (.istore 6) 2 113 := ⟨by decide +kernel, rfl⟩
theorem rX12_turnBefore_113 : tq_D cX12_turnBefore 113 (.iinc 7 1) 3 116 := ⟨by decide +kernel, rfl⟩
theorem rX12_turnBefore_116 : tq_J cX12_turnBefore 116 .goto 22 119 := ⟨(-94), by decide +kernel, by decide, rfl⟩
theorem rX12_turnBefore_119 : tq_D cX12_turnBefore 119 (.iload 5) 2 121 := ⟨by decide +kernel, rfl⟩
theorem rX12_turnBefore_121 : decode cX12_turnBefore 121 = .ok (.ireturn, 1) := by decide +kernel
noncomputable def FX12_turnBefore_j113L22 (I : tq_PI) (L : tq_PL) (a0 : Nat) (a1 : Int32) (a2 : Int32) (a3 : Int64) (a5 : Int32) (a6 : Int32) (a7 : Int32) : Option ((Int32 × Int32 × Int32 × tq_PI × tq_PL) ⊕ (Int32 × tq_PI × tq_PL)) :=
  some (.inl (a5, a6, (a7 + 1), I, L))
noncomputable def FX12_turnBefore_j108L22 (I : tq_PI) (L : tq_PL) (a0 : Nat) (a1 : Int32) (a2 : Int32) (a3 : Int64) (a7 : Int32) (b0 : Int32) : Option ((Int32 × Int32 × Int32 × tq_PI × tq_PL) ⊕ (Int32 × tq_PI × tq_PL)) :=
  (FX12_turnBefore_j113L22 I L a0 a1 a2 a3 b0 ((1 : Int32)) a7)
noncomputable def FX12_turnBefore_j101L22 (I : tq_PI) (L : tq_PL) (a0 : Nat) (a1 : Int32) (a2 : Int32) (a3 : Int64) (a7 : Int32) (a8 : Int32) : Option ((Int32 × Int32 × Int32 × tq_PI × tq_PL) ⊕ (Int32 × tq_PI × tq_PL)) :=
  (FX12_turnBefore_j108L22 I L a0 a1 a2 a3 a7 a8)
noncomputable def FX12_turnBefore_j106L22 (I : tq_PI) (L : tq_PL) (a0 : Nat) (a1 : Int32) (a2 : Int32) (a3 : Int64) (a5 : Int32) (a7 : Int32) : Option ((Int32 × Int32 × Int32 × tq_PI × tq_PL) ⊕ (Int32 × tq_PI × tq_PL)) :=
  (FX12_turnBefore_j108L22 I L a0 a1 a2 a3 a7 a5)
noncomputable def FX12_turnBefore_j54L22 (I : tq_PI) (L : tq_PL) (a0 : Nat) (a1 : Int32) (a2 : Int32) (a3 : Int64) (a5 : Int32) (a6 : Int32) (a7 : Int32) : Option ((Int32 × Int32 × Int32 × tq_PI × tq_PL) ⊕ (Int32 × tq_PI × tq_PL)) :=
  ((FX12_brings I L a0 a1 a2 a7).bind fun p7 => ((FX12_lastTurn p7.2 L a0 ((a1 + (1 : Int32))) (((1 : Int32) - a2))).bind fun p8 => (if a6 = 0 then (FX12_turnBefore_j101L22 p8.2.1 p8.2.2 a0 a1 a2 a3 a7 ((p7.1 + p8.1))) else (if a2 = 0 then (if (p7.1 + p8.1) ≤ a5 then (FX12_turnBefore_j106L22 p8.2.1 p8.2.2 a0 a1 a2 a3 a5 a7) else (FX12_turnBefore_j101L22 p8.2.1 p8.2.2 a0 a1 a2 a3 a7 ((p7.1 + p8.1)))) else (if a5 ≤ (p7.1 + p8.1) then (FX12_turnBefore_j106L22 p8.2.1 p8.2.2 a0 a1 a2 a3 a5 a7) else (FX12_turnBefore_j101L22 p8.2.1 p8.2.2 a0 a1 a2 a3 a7 ((p7.1 + p8.1))))))))
noncomputable def FX12_turnBefore_s22 (I : tq_PI) (L : tq_PL) (a0 : Nat) (a1 : Int32) (a2 : Int32) (a3 : Int64) (a5 : Int32) (a6 : Int32) (a7 : Int32) : Option ((Int32 × Int32 × Int32 × tq_PI × tq_PL) ⊕ (Int32 × tq_PI × tq_PL)) :=
  (tq_let (FX12_many I L a0) fun p3 => (if p3 < a7 then some (.inr (a5, I, L)) else (tq_let (FX12_many I L a0) fun p5 => (if p5 ≤ a7 then (FX12_turnBefore_j54L22 I L a0 a1 a2 a3 a5 a6 a7) else (if (lg_cmp ((a3 >>> (Int32.toInt64 a7 &&& 63)) &&& (1 : Int64)) (0 : Int64)) = 0 then (FX12_turnBefore_j113L22 I L a0 a1 a2 a3 a5 a6 a7) else (FX12_turnBefore_j54L22 I L a0 a1 a2 a3 a5 a6 a7))))))
noncomputable def FX12_turnBefore (I : tq_PI) (L : tq_PL) (a0 : Nat) (a1 : Int32) (a2 : Int32) : Option (Int32 × tq_PI × tq_PL) :=
  ((FX12_sees I L a0 a1 a2).bind fun p1 => (if 0 ≤ a1 ∧ a1 < 4 then ((tq_it (fun p : Int32 × Int32 × Int32 × tq_PI × tq_PL => FX12_turnBefore_s22 p.2.2.2.1 p.2.2.2.2 a0 a1 a2 ((p1.2 (tq_rg a0 30) a1.toNatClampNeg)) p.1 p.2.1 p.2.2.1) tq_N ((0 : Int32), (0 : Int32), (0 : Int32), p1.1, p1.2)).bind fun p14 => some (p14.1, p14.2.1, p14.2.2)) else none))
set_option maxRecDepth 100000 in
set_option maxHeartbeats 4000000 in
theorem FX12_turnBefore_j113L22_x {S : Nat × (Nat → Int32)} {d : Nat} {I : tq_PI} {L : tq_PL} {a0 : Nat} {a1 : Int32} {a2 : Int32} {a3 : Int64} {a5 : Int32} {a6 : Int32} {a7 : Int32} (h0 : tq_sh0 a0 = 12) {q0 : Option Value → tq_PI → tq_PL → Prop} {out : (Int32 × Int32 × Int32 × tq_PI × tq_PL) ⊕ (Int32 × tq_PI × tq_PL)} (hf : FX12_turnBefore_j113L22 I L a0 a1 a2 a3 a5 a6 a7 = some out) (hk : Sum.elim (fun p : Int32 × Int32 × Int32 × tq_PI × tq_PL => tq_X S mX12_turnBefore (d + 6) tq_k0 22 ([.ref a0, .int a1, .int a2, .long a3, tq_u, .int p.1, .int p.2.1, .int p.2.2.1, tq_u]) [] (tq_st p.2.2.2.1 p.2.2.2.2) (tq_Q q0)) (fun p : Int32 × tq_PI × tq_PL => tq_X S mX12_turnBefore (d + 6) tq_k0 119 ([tq_u, tq_u, tq_u, tq_u, tq_u, .int p.1, tq_u, tq_u, tq_u]) [] (tq_st p.2.1 p.2.2) (tq_Q q0)) out) : tq_X S mX12_turnBefore (d + 6) tq_k0 113 ([.ref a0, .int a1, .int a2, .long a3, tq_u, .int a5, .int a6, .int a7, tq_u]) ([]) (tq_st I L) (tq_Q q0) := by
  unfold FX12_turnBefore_j113L22 at hf
  refine tq_iinc (a7 + 1) ([.ref a0, .int a1, .int a2, .long a3, tq_u, .int a5, .int a6, .int (a7 + 1), tq_u]) rX12_turnBefore_113 rfl (tq_inc (by decide)) (Nat.le_of_ble_eq_true rfl) rfl ?_
  refine tq_goto rX12_turnBefore_116 ?_
  have hf := Option.some.inj hf
  subst hf
  exact tq_forget _ (tq_le_s (tq_le_s (tq_le_s (tq_le_s (tq_le_u (tq_le_s (tq_le_s (tq_le_s (tq_le_u tq_le_n))))))))) hk

set_option maxRecDepth 100000 in
set_option maxHeartbeats 4000000 in
theorem FX12_turnBefore_j108L22_x {S : Nat × (Nat → Int32)} {d : Nat} {I : tq_PI} {L : tq_PL} {a0 : Nat} {a1 : Int32} {a2 : Int32} {a3 : Int64} {a7 : Int32} {b0 : Int32} (h0 : tq_sh0 a0 = 12) {q0 : Option Value → tq_PI → tq_PL → Prop} {out : (Int32 × Int32 × Int32 × tq_PI × tq_PL) ⊕ (Int32 × tq_PI × tq_PL)} (hf : FX12_turnBefore_j108L22 I L a0 a1 a2 a3 a7 b0 = some out) (hk : Sum.elim (fun p : Int32 × Int32 × Int32 × tq_PI × tq_PL => tq_X S mX12_turnBefore (d + 6) tq_k0 22 ([.ref a0, .int a1, .int a2, .long a3, tq_u, .int p.1, .int p.2.1, .int p.2.2.1, tq_u]) [] (tq_st p.2.2.2.1 p.2.2.2.2) (tq_Q q0)) (fun p : Int32 × tq_PI × tq_PL => tq_X S mX12_turnBefore (d + 6) tq_k0 119 ([tq_u, tq_u, tq_u, tq_u, tq_u, .int p.1, tq_u, tq_u, tq_u]) [] (tq_st p.2.1 p.2.2) (tq_Q q0)) out) : tq_X S mX12_turnBefore (d + 6) tq_k0 108 ([.ref a0, .int a1, .int a2, .long a3, tq_u, tq_u, tq_u, .int a7, tq_u]) ([.int b0]) (tq_st I L) (tq_Q q0) := by
  unfold FX12_turnBefore_j108L22 at hf
  refine tq_istore ([.ref a0, .int a1, .int a2, .long a3, tq_u, .int b0, tq_u, .int a7, tq_u]) rX12_turnBefore_108 (Nat.le_of_ble_eq_true rfl) rfl ?_
  refine tq_iconst (1 : Int32) rX12_turnBefore_110 (by decide) ?_
  refine tq_istore ([.ref a0, .int a1, .int a2, .long a3, tq_u, .int b0, .int (1 : Int32), .int a7, tq_u]) rX12_turnBefore_111 (Nat.le_of_ble_eq_true rfl) rfl ?_
  exact tq_forget _ (tq_le_s (tq_le_s (tq_le_s (tq_le_s (tq_le_u (tq_le_s (tq_le_s (tq_le_s (tq_le_u tq_le_n))))))))) (FX12_turnBefore_j113L22_x  h0 hf hk)

set_option maxRecDepth 100000 in
set_option maxHeartbeats 4000000 in
theorem FX12_turnBefore_j101L22_x {S : Nat × (Nat → Int32)} {d : Nat} {I : tq_PI} {L : tq_PL} {a0 : Nat} {a1 : Int32} {a2 : Int32} {a3 : Int64} {a7 : Int32} {a8 : Int32} (h0 : tq_sh0 a0 = 12) {q0 : Option Value → tq_PI → tq_PL → Prop} {out : (Int32 × Int32 × Int32 × tq_PI × tq_PL) ⊕ (Int32 × tq_PI × tq_PL)} (hf : FX12_turnBefore_j101L22 I L a0 a1 a2 a3 a7 a8 = some out) (hk : Sum.elim (fun p : Int32 × Int32 × Int32 × tq_PI × tq_PL => tq_X S mX12_turnBefore (d + 6) tq_k0 22 ([.ref a0, .int a1, .int a2, .long a3, tq_u, .int p.1, .int p.2.1, .int p.2.2.1, tq_u]) [] (tq_st p.2.2.2.1 p.2.2.2.2) (tq_Q q0)) (fun p : Int32 × tq_PI × tq_PL => tq_X S mX12_turnBefore (d + 6) tq_k0 119 ([tq_u, tq_u, tq_u, tq_u, tq_u, .int p.1, tq_u, tq_u, tq_u]) [] (tq_st p.2.1 p.2.2) (tq_Q q0)) out) : tq_X S mX12_turnBefore (d + 6) tq_k0 101 ([.ref a0, .int a1, .int a2, .long a3, tq_u, tq_u, tq_u, .int a7, .int a8]) ([]) (tq_st I L) (tq_Q q0) := by
  unfold FX12_turnBefore_j101L22 at hf
  refine tq_iload rX12_turnBefore_101 rfl ?_
  refine tq_goto rX12_turnBefore_103 ?_
  exact tq_forget _ (tq_le_s (tq_le_s (tq_le_s (tq_le_s (tq_le_u (tq_le_u (tq_le_u (tq_le_s (tq_le_u tq_le_n))))))))) (FX12_turnBefore_j108L22_x  h0 hf hk)

set_option maxRecDepth 100000 in
set_option maxHeartbeats 4000000 in
theorem FX12_turnBefore_j106L22_x {S : Nat × (Nat → Int32)} {d : Nat} {I : tq_PI} {L : tq_PL} {a0 : Nat} {a1 : Int32} {a2 : Int32} {a3 : Int64} {a5 : Int32} {a7 : Int32} (h0 : tq_sh0 a0 = 12) {q0 : Option Value → tq_PI → tq_PL → Prop} {out : (Int32 × Int32 × Int32 × tq_PI × tq_PL) ⊕ (Int32 × tq_PI × tq_PL)} (hf : FX12_turnBefore_j106L22 I L a0 a1 a2 a3 a5 a7 = some out) (hk : Sum.elim (fun p : Int32 × Int32 × Int32 × tq_PI × tq_PL => tq_X S mX12_turnBefore (d + 6) tq_k0 22 ([.ref a0, .int a1, .int a2, .long a3, tq_u, .int p.1, .int p.2.1, .int p.2.2.1, tq_u]) [] (tq_st p.2.2.2.1 p.2.2.2.2) (tq_Q q0)) (fun p : Int32 × tq_PI × tq_PL => tq_X S mX12_turnBefore (d + 6) tq_k0 119 ([tq_u, tq_u, tq_u, tq_u, tq_u, .int p.1, tq_u, tq_u, tq_u]) [] (tq_st p.2.1 p.2.2) (tq_Q q0)) out) : tq_X S mX12_turnBefore (d + 6) tq_k0 106 ([.ref a0, .int a1, .int a2, .long a3, tq_u, .int a5, tq_u, .int a7, tq_u]) ([]) (tq_st I L) (tq_Q q0) := by
  unfold FX12_turnBefore_j106L22 at hf
  refine tq_iload rX12_turnBefore_106 rfl ?_
  exact tq_forget _ (tq_le_s (tq_le_s (tq_le_s (tq_le_s (tq_le_u (tq_le_u (tq_le_u (tq_le_s (tq_le_u tq_le_n))))))))) (FX12_turnBefore_j108L22_x  h0 hf hk)

set_option maxRecDepth 100000 in
set_option maxHeartbeats 4000000 in
theorem FX12_turnBefore_j54L22_x {S : Nat × (Nat → Int32)} {d : Nat} {I : tq_PI} {L : tq_PL} {a0 : Nat} {a1 : Int32} {a2 : Int32} {a3 : Int64} {a5 : Int32} {a6 : Int32} {a7 : Int32} (h0 : tq_sh0 a0 = 12) {q0 : Option Value → tq_PI → tq_PL → Prop} {out : (Int32 × Int32 × Int32 × tq_PI × tq_PL) ⊕ (Int32 × tq_PI × tq_PL)} (hf : FX12_turnBefore_j54L22 I L a0 a1 a2 a3 a5 a6 a7 = some out) (hk : Sum.elim (fun p : Int32 × Int32 × Int32 × tq_PI × tq_PL => tq_X S mX12_turnBefore (d + 6) tq_k0 22 ([.ref a0, .int a1, .int a2, .long a3, tq_u, .int p.1, .int p.2.1, .int p.2.2.1, tq_u]) [] (tq_st p.2.2.2.1 p.2.2.2.2) (tq_Q q0)) (fun p : Int32 × tq_PI × tq_PL => tq_X S mX12_turnBefore (d + 6) tq_k0 119 ([tq_u, tq_u, tq_u, tq_u, tq_u, .int p.1, tq_u, tq_u, tq_u]) [] (tq_st p.2.1 p.2.2) (tq_Q q0)) out) : tq_X S mX12_turnBefore (d + 6) tq_k0 54 ([.ref a0, .int a1, .int a2, .long a3, tq_u, .int a5, .int a6, .int a7, tq_u]) ([]) (tq_st I L) (tq_Q q0) := by
  unfold FX12_turnBefore_j54L22 at hf
  refine tq_aload_n rX12_turnBefore_54 rfl ?_
  refine tq_iload_n rX12_turnBefore_55 rfl ?_
  refine tq_iload_n rX12_turnBefore_56 rfl ?_
  refine tq_iload rX12_turnBefore_57 rfl ?_
  obtain ⟨p7, e7, hf⟩ := Option.bind_eq_some_iff.mp hf
  refine ty_callVI p7.1 ([.int a1, .int a2, .int a7]) ([]) rX12_turnBefore_59 l_X12_342 moX12_brings mvX12_brings h0 rfl rfl (Nat.le_of_ble_eq_true rfl) ⟨rfl, rfl⟩ (CX12_brings h0 e7) ?_
  refine tq_aload_n rX12_turnBefore_62 rfl ?_
  refine tq_iload_n rX12_turnBefore_63 rfl ?_
  refine tq_iconst (1 : Int32) rX12_turnBefore_64 (by decide) ?_
  refine tq_iadd rX12_turnBefore_65 ?_
  refine tq_iconst (1 : Int32) rX12_turnBefore_66 (by decide) ?_
  refine tq_iload_n rX12_turnBefore_67 rfl ?_
  refine tq_isub rX12_turnBefore_68 ?_
  obtain ⟨p8, e8, hf⟩ := Option.bind_eq_some_iff.mp hf
  refine ty_callVI p8.1 ([.int (a1 + (1 : Int32)), .int ((1 : Int32) - a2)]) ([.int p7.1]) rX12_turnBefore_69 l_X12_345 moX12_lastTurn mvX12_lastTurn h0 rfl rfl (Nat.le_of_ble_eq_true rfl) ⟨rfl, rfl⟩ (CX12_lastTurn h0 e8) ?_
  refine tq_iadd rX12_turnBefore_72 ?_
  refine tq_istore ([.ref a0, .int a1, .int a2, .long a3, tq_u, .int a5, .int a6, .int a7, .int (p7.1 + p8.1)]) rX12_turnBefore_73 (Nat.le_of_ble_eq_true rfl) rfl ?_
  refine tq_iload rX12_turnBefore_75 rfl ?_
  refine tq_if_eq rX12_turnBefore_77 (fun c9 => ?_) (fun c9 => ?_)
  · rw [if_pos c9] at hf
    exact tq_forget _ (tq_le_s (tq_le_s (tq_le_s (tq_le_s (tq_le_u (tq_le_u (tq_le_u (tq_le_s (tq_le_s tq_le_n))))))))) (FX12_turnBefore_j101L22_x  h0 hf hk)
  · rw [if_neg c9] at hf
    refine tq_iload_n rX12_turnBefore_80 rfl ?_
    refine tq_if_ne rX12_turnBefore_81 (fun c10 => ?_) (fun c10 => ?_)
    · rw [if_neg c10] at hf
      refine tq_iload rX12_turnBefore_94 rfl ?_
      refine tq_iload rX12_turnBefore_96 rfl ?_
      refine tq_icmp_ge rX12_turnBefore_98 (fun c11 => ?_) (fun c11 => ?_)
      · rw [if_pos c11] at hf
        exact tq_forget _ (tq_le_s (tq_le_s (tq_le_s (tq_le_s (tq_le_u (tq_le_s (tq_le_u (tq_le_s (tq_le_u tq_le_n))))))))) (FX12_turnBefore_j106L22_x  h0 hf hk)
      · rw [if_neg c11] at hf
        exact tq_forget _ (tq_le_s (tq_le_s (tq_le_s (tq_le_s (tq_le_u (tq_le_u (tq_le_u (tq_le_s (tq_le_s tq_le_n))))))))) (FX12_turnBefore_j101L22_x  h0 hf hk)
    · rw [if_pos c10] at hf
      refine tq_iload rX12_turnBefore_84 rfl ?_
      refine tq_iload rX12_turnBefore_86 rfl ?_
      refine tq_icmp_le rX12_turnBefore_88 (fun c12 => ?_) (fun c12 => ?_)
      · rw [if_pos c12] at hf
        exact tq_forget _ (tq_le_s (tq_le_s (tq_le_s (tq_le_s (tq_le_u (tq_le_s (tq_le_u (tq_le_s (tq_le_u tq_le_n))))))))) (FX12_turnBefore_j106L22_x  h0 hf hk)
      · rw [if_neg c12] at hf
        refine tq_goto rX12_turnBefore_91 ?_
        exact tq_forget _ (tq_le_s (tq_le_s (tq_le_s (tq_le_s (tq_le_u (tq_le_u (tq_le_u (tq_le_s (tq_le_s tq_le_n))))))))) (FX12_turnBefore_j101L22_x  h0 hf hk)

set_option maxRecDepth 100000 in
set_option maxHeartbeats 4000000 in
theorem FX12_turnBefore_s22_x {S : Nat × (Nat → Int32)} {d : Nat} {I : tq_PI} {L : tq_PL} {a0 : Nat} {a1 : Int32} {a2 : Int32} {a3 : Int64} {a5 : Int32} {a6 : Int32} {a7 : Int32} (h0 : tq_sh0 a0 = 12) {q0 : Option Value → tq_PI → tq_PL → Prop} {out : (Int32 × Int32 × Int32 × tq_PI × tq_PL) ⊕ (Int32 × tq_PI × tq_PL)} (hf : FX12_turnBefore_s22 I L a0 a1 a2 a3 a5 a6 a7 = some out) (hk : Sum.elim (fun p : Int32 × Int32 × Int32 × tq_PI × tq_PL => tq_X S mX12_turnBefore (d + 6) tq_k0 22 ([.ref a0, .int a1, .int a2, .long a3, tq_u, .int p.1, .int p.2.1, .int p.2.2.1, tq_u]) [] (tq_st p.2.2.2.1 p.2.2.2.2) (tq_Q q0)) (fun p : Int32 × tq_PI × tq_PL => tq_X S mX12_turnBefore (d + 6) tq_k0 119 ([tq_u, tq_u, tq_u, tq_u, tq_u, .int p.1, tq_u, tq_u, tq_u]) [] (tq_st p.2.1 p.2.2) (tq_Q q0)) out) : tq_X S mX12_turnBefore (d + 6) tq_k0 22 ([.ref a0, .int a1, .int a2, .long a3, tq_u, .int a5, .int a6, .int a7, tq_u]) [] (tq_st I L) (tq_Q q0) := by
  unfold FX12_turnBefore_s22 at hf
  refine tq_iload rX12_turnBefore_22 rfl ?_
  refine tq_aload_n rX12_turnBefore_24 rfl ?_
  obtain ⟨p3, e3, hf⟩ := tq_let_elim hf
  refine ty_callVI p3 ([]) ([.int a7]) rX12_turnBefore_25 l_X12_190 moX12_many mvX12_many h0 rfl rfl (Nat.le_of_ble_eq_true rfl) ⟨rfl, rfl⟩ (CX12_many h0 e3) ?_
  refine tq_icmp_gt rX12_turnBefore_28 (fun c4 => ?_) (fun c4 => ?_)
  · rw [if_pos c4] at hf
    have hf := Option.some.inj hf
    subst hf
    exact tq_forget _ (tq_le_u (tq_le_u (tq_le_u (tq_le_u (tq_le_u (tq_le_s (tq_le_u (tq_le_u (tq_le_u tq_le_n))))))))) hk
  · rw [if_neg c4] at hf
    refine tq_iload rX12_turnBefore_31 rfl ?_
    refine tq_aload_n rX12_turnBefore_33 rfl ?_
    obtain ⟨p5, e5, hf⟩ := tq_let_elim hf
    refine ty_callVI p5 ([]) ([.int a7]) rX12_turnBefore_34 l_X12_190 moX12_many mvX12_many h0 rfl rfl (Nat.le_of_ble_eq_true rfl) ⟨rfl, rfl⟩ (CX12_many h0 e5) ?_
    refine tq_icmp_ge rX12_turnBefore_37 (fun c6 => ?_) (fun c6 => ?_)
    · rw [if_pos c6] at hf
      exact tq_forget _ (tq_le_s (tq_le_s (tq_le_s (tq_le_s (tq_le_u (tq_le_s (tq_le_s (tq_le_s (tq_le_u tq_le_n))))))))) (FX12_turnBefore_j54L22_x  h0 hf hk)
    · rw [if_neg c6] at hf
      refine tq_lload_n rX12_turnBefore_40 rfl ?_
      refine tq_iload rX12_turnBefore_41 rfl ?_
      refine tq_lshr rX12_turnBefore_43 ?_
      refine tq_lconst (1 : Int64) rX12_turnBefore_44 (by decide) ?_
      refine tq_land rX12_turnBefore_45 ?_
      refine tq_lconst (0 : Int64) rX12_turnBefore_46 (by decide) ?_
      refine tq_lcmp rX12_turnBefore_47 ?_
      refine tq_if_ne rX12_turnBefore_48 (fun c13 => ?_) (fun c13 => ?_)
      · rw [if_neg c13] at hf
        exact tq_forget _ (tq_le_s (tq_le_s (tq_le_s (tq_le_s (tq_le_u (tq_le_s (tq_le_s (tq_le_s (tq_le_u tq_le_n))))))))) (FX12_turnBefore_j54L22_x  h0 hf hk)
      · rw [if_pos c13] at hf
        refine tq_goto rX12_turnBefore_51 ?_
        exact tq_forget _ (tq_le_s (tq_le_s (tq_le_s (tq_le_s (tq_le_u (tq_le_s (tq_le_s (tq_le_s (tq_le_u tq_le_n))))))))) (FX12_turnBefore_j113L22_x  h0 hf hk)

set_option maxRecDepth 100000 in
set_option maxHeartbeats 4000000 in
theorem CX12_turnBefore {S : Nat × (Nat → Int32)} {d : Nat} {I : tq_PI} {L : tq_PL} {a0 : Nat} {a1 : Int32} {a2 : Int32} (h0 : tq_sh0 a0 = 12) {out : Int32 × tq_PI × tq_PL} (hf : FX12_turnBefore I L a0 a1 a2 = some out) : tq_K S mX12_turnBefore (d + 6) [.ref a0, .int a1, .int a2] I L (tq_one2 (some (.int out.1)) out.2.1 out.2.2) := by
  unfold FX12_turnBefore at hf
  refine tq_K_of (by decide) (Nat.le_of_ble_eq_true rfl) (ls := [.ref a0, .int a1, .int a2, tq_u, tq_u, tq_u, tq_u, tq_u, tq_u]) rfl ?_
  refine tq_aload_n rX12_turnBefore_0 rfl ?_
  refine tq_iload_n rX12_turnBefore_1 rfl ?_
  refine tq_iload_n rX12_turnBefore_2 rfl ?_
  obtain ⟨p1, e1, hf⟩ := Option.bind_eq_some_iff.mp hf
  refine ty_callVV ([.int a1, .int a2]) ([]) rX12_turnBefore_3 l_X12_323 moX12_sees mvX12_sees h0 rfl rfl (Nat.le_of_ble_eq_true rfl) ⟨rfl, rfl⟩ (CX12_sees h0 e1) ?_
  refine tq_aload_n rX12_turnBefore_6 rfl ?_
  refine ty_getR rX12_turnBefore_7 f_X12_47 rfl h0 (hp_12_30 h0).1 ?_
  refine tq_iload_n rX12_turnBefore_10 rfl ?_
  obtain ⟨g2, hf⟩ := tq_chk hf
  refine ty_lald (v := 4) rX12_turnBefore_11 (hp_12_30 h0).2.1 (hp_12_30 h0).2.2 rfl (by decide) g2 ?_
  refine tq_lstore_n ([.ref a0, .int a1, .int a2, .long (p1.2 (tq_rg a0 30) a1.toNatClampNeg), tq_u, tq_u, tq_u, tq_u, tq_u]) rX12_turnBefore_12 (Nat.le_of_ble_eq_true rfl) rfl ?_
  refine tq_iconst (0 : Int32) rX12_turnBefore_13 (by decide) ?_
  refine tq_istore ([.ref a0, .int a1, .int a2, .long (p1.2 (tq_rg a0 30) a1.toNatClampNeg), tq_u, .int (0 : Int32), tq_u, tq_u, tq_u]) rX12_turnBefore_14 (Nat.le_of_ble_eq_true rfl) rfl ?_
  refine tq_iconst (0 : Int32) rX12_turnBefore_16 (by decide) ?_
  refine tq_istore ([.ref a0, .int a1, .int a2, .long (p1.2 (tq_rg a0 30) a1.toNatClampNeg), tq_u, .int (0 : Int32), .int (0 : Int32), tq_u, tq_u]) rX12_turnBefore_17 (Nat.le_of_ble_eq_true rfl) rfl ?_
  refine tq_iconst (0 : Int32) rX12_turnBefore_19 (by decide) ?_
  refine tq_istore ([.ref a0, .int a1, .int a2, .long (p1.2 (tq_rg a0 30) a1.toNatClampNeg), tq_u, .int (0 : Int32), .int (0 : Int32), .int (0 : Int32), tq_u]) rX12_turnBefore_20 (Nat.le_of_ble_eq_true rfl) rfl ?_
  obtain ⟨p14, e14, hf⟩ := Option.bind_eq_some_iff.mp hf
  refine tq_forget _ (tq_le_s (tq_le_s (tq_le_s (tq_le_s (tq_le_u (tq_le_s (tq_le_s (tq_le_s (tq_le_u tq_le_n))))))))) ?_
  refine tq_it_elim (P := fun p : Int32 × Int32 × Int32 × tq_PI × tq_PL => tq_X S mX12_turnBefore (d + 6) tq_k0 22 ([.ref a0, .int a1, .int a2, .long (p1.2 (tq_rg a0 30) a1.toNatClampNeg), tq_u, .int p.1, .int p.2.1, .int p.2.2.1, tq_u]) [] (tq_st p.2.2.2.1 p.2.2.2.2) (tq_Q (tq_one2 (some (.int out.1)) out.2.1 out.2.2))) (R := fun p : Int32 × tq_PI × tq_PL => tq_X S mX12_turnBefore (d + 6) tq_k0 119 ([tq_u, tq_u, tq_u, tq_u, tq_u, .int p.1, tq_u, tq_u, tq_u]) [] (tq_st p.2.1 p.2.2) (tq_Q (tq_one2 (some (.int out.1)) out.2.1 out.2.2))) (fun p o hp hk => FX12_turnBefore_s22_x  h0 hp hk) _ (((0 : Int32), (0 : Int32), (0 : Int32), p1.1, p1.2)) _ e14 ?_
  show tq_X _ _ _ _ _ _ _ _ _
  refine tq_iload rX12_turnBefore_119 rfl ?_
  refine ty_iret rX12_turnBefore_121 rfl rfl ?_
  have hf := Option.some.inj hf
  subst hf
  exact ⟨rfl, rfl, rfl⟩

abbrev mX12_duels : tq_M := (yX12_duels, cX12_duels, 7, (Option.some Jvm.ClassFile.FieldType.int), 0, 0)
theorem moX12_turnBefore : tq_mok mX12_turnBefore 2 := ⟨tq_sg1 _ (List.mem_of_getElem? (i := 13) rfl), tq_sg8 _ (List.mem_of_getElem? (i := 82) rfl), ⟨by decide, by decide, by decide +kernel⟩, by decide⟩
theorem mvX12_turnBefore : 12 < 13 ∧ (tq_cl 12).1 = mX12_turnBefore.1.cls ∧ Cond.instanceMethod mX12_turnBefore.1 ∈ lw_tbl ∧ Cond.selects mX12_turnBefore.1.cls mX12_turnBefore.1 mX12_turnBefore.1 ∈ lw_tbl := ⟨by decide, rfl, tq_sg8 _ (List.mem_of_getElem? (i := 81) rfl), List.mem_append_left _ (List.mem_map.mpr ⟨_, List.mem_of_getElem? (i := 99) rfl, rfl⟩)⟩
theorem f_X12_348 : tq_fok RX12 348 12 31 := ⟨by decide, by decide, Or.inl (tq_sg6 _ (List.mem_of_getElem? (i := 104) rfl))⟩
theorem l_X12_351 : tq_lok RX12 351 mX12_turnBefore.1 := Or.inl (tq_sg8 _ (List.mem_of_getElem? (i := 79) rfl))
theorem rX12_duels_0 : tq_D cX12_duels 0 (.aload_n 0) 1 1 := ⟨by decide +kernel, rfl⟩
theorem rX12_duels_1 : tq_D cX12_duels 1 (.invokevirtual 224) 3 4 := ⟨by decide +kernel, rfl⟩
theorem rX12_duels_4 : tq_D cX12_duels 4 (.aload_n 0) 1 5 := ⟨by decide +kernel, rfl⟩
theorem rX12_duels_5 : tq_D cX12_duels 5 (.iconst 0) 1 6 := ⟨by decide +kernel, rfl⟩
theorem rX12_duels_6 : tq_D cX12_duels 6 (.iconst 0) 1 7 := ⟨by decide +kernel, rfl⟩
theorem rX12_duels_7 : tq_D cX12_duels 7 (.invokevirtual 323) 3 10 := ⟨by decide +kernel, rfl⟩
theorem rX12_duels_10 : tq_D cX12_duels 10 (.aload_n 0) 1 11 := ⟨by decide +kernel, rfl⟩
theorem rX12_duels_11 : tq_D cX12_duels 11 (.getfield 47) 3 14 := ⟨by decide +kernel, rfl⟩
theorem rX12_duels_14 : tq_D cX12_duels 14 (.iconst 0) 1 15 := ⟨by decide +kernel, rfl⟩
theorem rX12_duels_15 : tq_D cX12_duels 15 (.laload) 1 16 := ⟨by decide +kernel, rfl⟩
theorem rX12_duels_16 : tq_D cX12_duels 16 (.lstore_n 2) 1 17 := ⟨by decide +kernel, rfl⟩
theorem rX12_duels_17 : tq_D cX12_duels 17 (.iconst 0) 1 18 := ⟨by decide +kernel, rfl⟩
theorem rX12_duels_18 : tq_D cX12_duels 18 (.istore 4) 2 20 := ⟨by decide +kernel, rfl⟩
theorem rX12_duels_20 : tq_D cX12_duels 20 (.aload_n 0) 1 21 := ⟨by decide +kernel, rfl⟩
theorem rX12_duels_21 : tq_D cX12_duels 21 (.iconst (-1)) 1 22 := ⟨by decide +kernel, rfl⟩
theorem rX12_duels_22 : tq_D cX12_duels 22 (.putfield 348) 3 25 := ⟨by decide +kernel, rfl⟩
theorem rX12_duels_25 : tq_D cX12_duels 25 (.iconst 0) 1 26 := ⟨by decide +kernel, rfl⟩
theorem rX12_duels_26 : tq_D cX12_duels 26 (.istore 5) 2 28 := ⟨by decide +kernel, rfl⟩
theorem rX12_duels_28 : tq_D cX12_duels 28 (.iload 5) 2 30 := ⟨by decide +kernel, rfl⟩
theorem rX12_duels_30 : tq_D cX12_duels 30 (.aload_n 0) 1 31 := ⟨by decide +kernel, rfl⟩
theorem rX12_duels_31 : tq_D cX12_duels 31 (.invokevirtual 190) 3 34 := ⟨by decide +kernel, rfl⟩
theorem rX12_duels_34 : tq_J cX12_duels 34 (.if_icmp .gt) 138 37 := ⟨104, by decide +kernel, by decide, rfl⟩
theorem rX12_duels_37 : tq_D cX12_duels 37 (.iload_n 1) 1 38 := ⟨by decide +kernel, rfl⟩
theorem rX12_duels_38 : tq_J cX12_duels 38 (.ifCond .le) 138 41 := ⟨100, by decide +kernel, by decide, rfl⟩
theorem rX12_duels_41 : tq_D cX12_duels 41 (.iload 5) 2 43 := ⟨by decide +kernel, rfl⟩
theorem rX12_duels_43 : tq_D cX12_duels 43 (.aload_n 0) 1 44 := ⟨by decide +kernel, rfl⟩
theorem rX12_duels_44 : tq_D cX12_duels 44 (.invokevirtual 190) 3 47 := ⟨by decide +kernel, rfl⟩
theorem rX12_duels_47 : tq_J cX12_duels 47 (.if_icmp .ge) 64 50 := ⟨17, by decide +kernel, by decide, rfl⟩
theorem rX12_duels_50 : tq_D cX12_duels 50 (.lload_n 2) 1 51 := ⟨by decide +kernel, rfl⟩
theorem rX12_duels_51 : tq_D cX12_duels 51 (.iload 5) 2 53 := ⟨by decide +kernel, rfl⟩
theorem rX12_duels_53 : tq_D cX12_duels 53 (.lshr) 1 54 := ⟨by decide +kernel, rfl⟩
theorem rX12_duels_54 : tq_D cX12_duels 54 (.lconst 1) 1 55 := ⟨by decide +kernel, rfl⟩
theorem rX12_duels_55 : tq_D cX12_duels 55 (.land) 1 56 := ⟨by decide +kernel, rfl⟩
theorem rX12_duels_56 : tq_D cX12_duels 56 (.lconst 0) 1 57 := ⟨by decide +kernel, rfl⟩
theorem rX12_duels_57 : tq_D cX12_duels 57 (.lcmp) 1 58 := ⟨by decide +kernel, rfl⟩
theorem rX12_duels_58 : tq_J cX12_duels 58 (.ifCond .ne) 64 61 := ⟨6, by decide +kernel, by decide, rfl⟩
theorem rX12_duels_61 : tq_J cX12_duels 61 .goto 132 64 := ⟨71, by decide +kernel, by decide, rfl⟩
theorem rX12_duels_64 : tq_D cX12_duels 64 (.aload_n 0) 1 65 := ⟨by decide +kernel, rfl⟩
theorem rX12_duels_65 : tq_D cX12_duels 65 (.iconst 0) 1 66 := ⟨by decide +kernel, rfl⟩
theorem rX12_duels_66 : tq_D cX12_duels 66 (.iconst 0) 1 67 := ⟨by decide +kernel, rfl⟩
theorem rX12_duels_67 : tq_D cX12_duels 67 (.iload 5) 2 69 := ⟨by decide +kernel, rfl⟩
theorem rX12_duels_69 : tq_D cX12_duels 69 (.invokevirtual 342) 3 72 := ⟨by decide +kernel, rfl⟩
theorem rX12_duels_72 : tq_D cX12_duels 72 (.iload_n 1) 1 73 := ⟨by decide +kernel, rfl⟩
theorem rX12_duels_73 : tq_D cX12_duels 73 (.iconst 1) 1 74 := ⟨by decide +kernel, rfl⟩
theorem rX12_duels_74 : tq_J cX12_duels 74 (.if_icmp .ne) 81 77 := ⟨7, by decide +kernel, by decide, rfl⟩
theorem rX12_duels_77 : tq_D cX12_duels 77 (.iconst 0) 1 78 := ⟨by decide +kernel, rfl⟩
theorem rX12_duels_78 : tq_J cX12_duels 78 .goto 101 81 := ⟨23, by decide +kernel, by decide, rfl⟩
theorem rX12_duels_81 : tq_D cX12_duels 81 (.iload_n 1) 1 82 := ⟨by decide +kernel, rfl⟩
theorem rX12_duels_82 : tq_D cX12_duels 82 (.iconst 2) 1 83 := ⟨by decide +kernel, rfl⟩
theorem rX12_duels_83 : tq_J cX12_duels 83 (.if_icmp .ne) 95 86 := ⟨12, by decide +kernel, by decide, rfl⟩
theorem rX12_duels_86 : tq_D cX12_duels 86 (.aload_n 0) 1 87 := ⟨by decide +kernel, rfl⟩
theorem rX12_duels_87 : tq_D cX12_duels 87 (.iconst 1) 1 88 := ⟨by decide +kernel, rfl⟩
theorem rX12_duels_88 : tq_D cX12_duels 88 (.iconst 1) 1 89 := ⟨by decide +kernel, rfl⟩
theorem rX12_duels_89 : tq_D cX12_duels 89 (.invokevirtual 345) 3 92 := ⟨by decide +kernel, rfl⟩
theorem rX12_duels_92 : tq_J cX12_duels 92 .goto 101 95 := ⟨9, by decide +kernel, by decide, rfl⟩
theorem rX12_duels_95 : tq_D cX12_duels 95 (.aload_n 0) 1 96 := ⟨by decide +kernel, rfl⟩
theorem rX12_duels_96 : tq_D cX12_duels 96 (.iconst 1) 1 97 := ⟨by decide +kernel, rfl⟩
theorem rX12_duels_97 : tq_D cX12_duels 97 (.iconst 1) 1 98 := ⟨by decide +kernel, rfl⟩
theorem rX12_duels_98 : tq_D cX12_duels 98 (.invokevirtual 351) 3 101 := ⟨by decide +kernel, rfl⟩
theorem rX12_duels_101 : tq_D cX12_duels 101 (.iadd) 1 102 := ⟨by decide +kernel, rfl⟩
theorem rX12_duels_102 : tq_D cX12_duels 102 (.istore 6) 2 104 := ⟨by decide +kernel, rfl⟩
theorem rX12_duels_104 : tq_D cX12_duels 104 (.aload_n 0) 1 105 := ⟨by decide +kernel, rfl⟩
theorem rX12_duels_105 : tq_D cX12_duels 105 (.getfield 348) 3 108 := ⟨by decide +kernel, rfl⟩
theorem rX12_duels_108 : tq_D cX12_duels 108 (.iconst (-1)) 1 109 := ⟨by decide +kernel, rfl⟩
theorem rX12_duels_109 : tq_J cX12_duels 109 (.if_icmp .eq) 122 112 := ⟨13, by decide +kernel, by decide, rfl⟩
theorem rX12_duels_112 : tq_D cX12_duels 112 (.iload 6) 2 114 := ⟨by decide +kernel, rfl⟩
theorem rX12_duels_114 : tq_D cX12_duels 114 (.iload 4) 2 116 := ⟨by decide +kernel, rfl⟩
theorem rX12_duels_116 : tq_J cX12_duels 116 (.if_icmp .gt) 122 119 := ⟨6, by decide +kernel, by decide, rfl⟩
theorem rX12_duels_119 : tq_J cX12_duels 119 .goto 132 122 := ⟨13, by decide +kernel, by decide, rfl⟩
theorem rX12_duels_122 : tq_D cX12_duels 122 (.iload 6) 2 124 := ⟨by decide +kernel, rfl⟩
theorem rX12_duels_124 : tq_D cX12_duels 124 (.istore 4) 2 126 := ⟨by decide +kernel, rfl⟩
theorem rX12_duels_126 : tq_D cX12_duels 126 (.aload_n 0) 1 127 := ⟨by decide +kernel, rfl⟩
theorem rX12_duels_127 : tq_D cX12_duels 127 (.iload 5) 2 129 := ⟨by decide +kernel, rfl⟩
theorem rX12_duels_129 : tq_D cX12_duels 129 (.putfield 348) 3 132 := ⟨by decide +kernel, rfl⟩
theorem rX12_duels_132 : tq_D cX12_duels 132 (.iinc 5 1) 3 135 := ⟨by decide +kernel, rfl⟩
theorem rX12_duels_135 : tq_J cX12_duels 135 .goto 28 138 := ⟨(-107), by decide +kernel, by decide, rfl⟩
theorem rX12_duels_138 : tq_D cX12_duels 138 (.iload 4) 2 140 := ⟨by decide +kernel, rfl⟩
theorem rX12_duels_140 : decode cX12_duels 140 = .ok (.ireturn, 1) := by decide +kernel
noncomputable def FX12_duels_j132L28 (I : tq_PI) (L : tq_PL) (a0 : Nat) (a1 : Int32) (a2 : Int64) (a4 : Int32) (a5 : Int32) : Option ((Int32 × Int32 × tq_PI × tq_PL) ⊕ (Int32 × tq_PI × tq_PL)) :=
  some (.inl (a4, (a5 + 1), I, L))
noncomputable def FX12_duels_j122L28 (I : tq_PI) (L : tq_PL) (a0 : Nat) (a1 : Int32) (a2 : Int64) (a5 : Int32) (a6 : Int32) : Option ((Int32 × Int32 × tq_PI × tq_PL) ⊕ (Int32 × tq_PI × tq_PL)) :=
  (FX12_duels_j132L28 ((tq_up2 I a0 31 a5)) L a0 a1 a2 a6 a5)
noncomputable def FX12_duels_j101L28 (I : tq_PI) (L : tq_PL) (a0 : Nat) (a1 : Int32) (a2 : Int64) (a4 : Int32) (a5 : Int32) (b0 : Int32) (b1 : Int32) : Option ((Int32 × Int32 × tq_PI × tq_PL) ⊕ (Int32 × tq_PI × tq_PL)) :=
  (if (I a0 31) = (-1 : Int32) then (FX12_duels_j122L28 I L a0 a1 a2 a5 ((b1 + b0))) else (if a4 < (b1 + b0) then (FX12_duels_j122L28 I L a0 a1 a2 a5 ((b1 + b0))) else (FX12_duels_j132L28 I L a0 a1 a2 a4 a5)))
noncomputable def FX12_duels_j64L28 (I : tq_PI) (L : tq_PL) (a0 : Nat) (a1 : Int32) (a2 : Int64) (a4 : Int32) (a5 : Int32) : Option ((Int32 × Int32 × tq_PI × tq_PL) ⊕ (Int32 × tq_PI × tq_PL)) :=
  ((FX12_brings I L a0 ((0 : Int32)) ((0 : Int32)) a5).bind fun p9 => (if a1 = (1 : Int32) then (FX12_duels_j101L28 p9.2 L a0 a1 a2 a4 a5 ((0 : Int32)) p9.1) else (if a1 = (2 : Int32) then ((FX12_lastTurn p9.2 L a0 ((1 : Int32)) ((1 : Int32))).bind fun p15 => (FX12_duels_j101L28 p15.2.1 p15.2.2 a0 a1 a2 a4 a5 p15.1 p9.1)) else ((FX12_turnBefore p9.2 L a0 ((1 : Int32)) ((1 : Int32))).bind fun p12 => (FX12_duels_j101L28 p12.2.1 p12.2.2 a0 a1 a2 a4 a5 p12.1 p9.1)))))
noncomputable def FX12_duels_s28 (I : tq_PI) (L : tq_PL) (a0 : Nat) (a1 : Int32) (a2 : Int64) (a4 : Int32) (a5 : Int32) : Option ((Int32 × Int32 × tq_PI × tq_PL) ⊕ (Int32 × tq_PI × tq_PL)) :=
  (tq_let (FX12_many I L a0) fun p4 => (if p4 < a5 then some (.inr (a4, I, L)) else (if a1 ≤ 0 then some (.inr (a4, I, L)) else (tq_let (FX12_many I L a0) fun p7 => (if p7 ≤ a5 then (FX12_duels_j64L28 I L a0 a1 a2 a4 a5) else (if (lg_cmp ((a2 >>> (Int32.toInt64 a5 &&& 63)) &&& (1 : Int64)) (0 : Int64)) = 0 then (FX12_duels_j132L28 I L a0 a1 a2 a4 a5) else (FX12_duels_j64L28 I L a0 a1 a2 a4 a5)))))))
noncomputable def FX12_duels (I : tq_PI) (L : tq_PL) (a0 : Nat) (a1 : Int32) : Option (Int32 × tq_PI × tq_PL) :=
  ((FX12_asTold I L a0).bind fun p1 => ((FX12_sees p1 L a0 ((0 : Int32)) ((0 : Int32))).bind fun p2 => (if 0 ≤ (0 : Int32) ∧ (0 : Int32) < 4 then ((tq_it (fun p : Int32 × Int32 × tq_PI × tq_PL => FX12_duels_s28 p.2.2.1 p.2.2.2 a0 a1 ((p2.2 (tq_rg a0 30) ((0 : Int32)).toNatClampNeg)) p.1 p.2.1) tq_N ((0 : Int32), (0 : Int32), (tq_up2 p2.1 a0 31 (-1 : Int32)), p2.2)).bind fun p17 => some (p17.1, p17.2.1, p17.2.2)) else none)))
set_option maxRecDepth 100000 in
set_option maxHeartbeats 4000000 in
theorem FX12_duels_j132L28_x {S : Nat × (Nat → Int32)} {d : Nat} {I : tq_PI} {L : tq_PL} {a0 : Nat} {a1 : Int32} {a2 : Int64} {a4 : Int32} {a5 : Int32} (h0 : tq_sh0 a0 = 12) {q0 : Option Value → tq_PI → tq_PL → Prop} {out : (Int32 × Int32 × tq_PI × tq_PL) ⊕ (Int32 × tq_PI × tq_PL)} (hf : FX12_duels_j132L28 I L a0 a1 a2 a4 a5 = some out) (hk : Sum.elim (fun p : Int32 × Int32 × tq_PI × tq_PL => tq_X S mX12_duels (d + 7) tq_k0 28 ([.ref a0, .int a1, .long a2, tq_u, .int p.1, .int p.2.1, tq_u]) [] (tq_st p.2.2.1 p.2.2.2) (tq_Q q0)) (fun p : Int32 × tq_PI × tq_PL => tq_X S mX12_duels (d + 7) tq_k0 138 ([tq_u, tq_u, tq_u, tq_u, .int p.1, tq_u, tq_u]) [] (tq_st p.2.1 p.2.2) (tq_Q q0)) out) : tq_X S mX12_duels (d + 7) tq_k0 132 ([.ref a0, .int a1, .long a2, tq_u, .int a4, .int a5, tq_u]) ([]) (tq_st I L) (tq_Q q0) := by
  unfold FX12_duels_j132L28 at hf
  refine tq_iinc (a5 + 1) ([.ref a0, .int a1, .long a2, tq_u, .int a4, .int (a5 + 1), tq_u]) rX12_duels_132 rfl (tq_inc (by decide)) (Nat.le_of_ble_eq_true rfl) rfl ?_
  refine tq_goto rX12_duels_135 ?_
  have hf := Option.some.inj hf
  subst hf
  exact tq_forget _ (tq_le_s (tq_le_s (tq_le_s (tq_le_u (tq_le_s (tq_le_s (tq_le_u tq_le_n))))))) hk

set_option maxRecDepth 100000 in
set_option maxHeartbeats 4000000 in
theorem FX12_duels_j122L28_x {S : Nat × (Nat → Int32)} {d : Nat} {I : tq_PI} {L : tq_PL} {a0 : Nat} {a1 : Int32} {a2 : Int64} {a5 : Int32} {a6 : Int32} (h0 : tq_sh0 a0 = 12) {q0 : Option Value → tq_PI → tq_PL → Prop} {out : (Int32 × Int32 × tq_PI × tq_PL) ⊕ (Int32 × tq_PI × tq_PL)} (hf : FX12_duels_j122L28 I L a0 a1 a2 a5 a6 = some out) (hk : Sum.elim (fun p : Int32 × Int32 × tq_PI × tq_PL => tq_X S mX12_duels (d + 7) tq_k0 28 ([.ref a0, .int a1, .long a2, tq_u, .int p.1, .int p.2.1, tq_u]) [] (tq_st p.2.2.1 p.2.2.2) (tq_Q q0)) (fun p : Int32 × tq_PI × tq_PL => tq_X S mX12_duels (d + 7) tq_k0 138 ([tq_u, tq_u, tq_u, tq_u, .int p.1, tq_u, tq_u]) [] (tq_st p.2.1 p.2.2) (tq_Q q0)) out) : tq_X S mX12_duels (d + 7) tq_k0 122 ([.ref a0, .int a1, .long a2, tq_u, tq_u, .int a5, .int a6]) ([]) (tq_st I L) (tq_Q q0) := by
  unfold FX12_duels_j122L28 at hf
  refine tq_iload rX12_duels_122 rfl ?_
  refine tq_istore ([.ref a0, .int a1, .long a2, tq_u, .int a6, .int a5, .int a6]) rX12_duels_124 (Nat.le_of_ble_eq_true rfl) rfl ?_
  refine tq_aload_n rX12_duels_126 rfl ?_
  refine tq_iload rX12_duels_127 rfl ?_
  refine ty_putI rX12_duels_129 f_X12_348 rfl h0 rfl ?_
  exact tq_forget _ (tq_le_s (tq_le_s (tq_le_s (tq_le_u (tq_le_s (tq_le_s (tq_le_u tq_le_n))))))) (FX12_duels_j132L28_x  h0 hf hk)

set_option maxRecDepth 100000 in
set_option maxHeartbeats 4000000 in
theorem FX12_duels_j101L28_x {S : Nat × (Nat → Int32)} {d : Nat} {I : tq_PI} {L : tq_PL} {a0 : Nat} {a1 : Int32} {a2 : Int64} {a4 : Int32} {a5 : Int32} {b0 : Int32} {b1 : Int32} (h0 : tq_sh0 a0 = 12) {q0 : Option Value → tq_PI → tq_PL → Prop} {out : (Int32 × Int32 × tq_PI × tq_PL) ⊕ (Int32 × tq_PI × tq_PL)} (hf : FX12_duels_j101L28 I L a0 a1 a2 a4 a5 b0 b1 = some out) (hk : Sum.elim (fun p : Int32 × Int32 × tq_PI × tq_PL => tq_X S mX12_duels (d + 7) tq_k0 28 ([.ref a0, .int a1, .long a2, tq_u, .int p.1, .int p.2.1, tq_u]) [] (tq_st p.2.2.1 p.2.2.2) (tq_Q q0)) (fun p : Int32 × tq_PI × tq_PL => tq_X S mX12_duels (d + 7) tq_k0 138 ([tq_u, tq_u, tq_u, tq_u, .int p.1, tq_u, tq_u]) [] (tq_st p.2.1 p.2.2) (tq_Q q0)) out) : tq_X S mX12_duels (d + 7) tq_k0 101 ([.ref a0, .int a1, .long a2, tq_u, .int a4, .int a5, tq_u]) ([.int b0, .int b1]) (tq_st I L) (tq_Q q0) := by
  unfold FX12_duels_j101L28 at hf
  refine tq_iadd rX12_duels_101 ?_
  refine tq_istore ([.ref a0, .int a1, .long a2, tq_u, .int a4, .int a5, .int (b1 + b0)]) rX12_duels_102 (Nat.le_of_ble_eq_true rfl) rfl ?_
  refine tq_aload_n rX12_duels_104 rfl ?_
  refine ty_getI rX12_duels_105 f_X12_348 rfl h0 ?_
  refine tq_iconst (-1 : Int32) rX12_duels_108 (by decide) ?_
  refine tq_icmp_eq rX12_duels_109 (fun c13 => ?_) (fun c13 => ?_)
  · rw [if_pos c13] at hf
    exact tq_forget _ (tq_le_s (tq_le_s (tq_le_s (tq_le_u (tq_le_u (tq_le_s (tq_le_s tq_le_n))))))) (FX12_duels_j122L28_x  h0 hf hk)
  · rw [if_neg c13] at hf
    refine tq_iload rX12_duels_112 rfl ?_
    refine tq_iload rX12_duels_114 rfl ?_
    refine tq_icmp_gt rX12_duels_116 (fun c14 => ?_) (fun c14 => ?_)
    · rw [if_pos c14] at hf
      exact tq_forget _ (tq_le_s (tq_le_s (tq_le_s (tq_le_u (tq_le_u (tq_le_s (tq_le_s tq_le_n))))))) (FX12_duels_j122L28_x  h0 hf hk)
    · rw [if_neg c14] at hf
      refine tq_goto rX12_duels_119 ?_
      exact tq_forget _ (tq_le_s (tq_le_s (tq_le_s (tq_le_u (tq_le_s (tq_le_s (tq_le_u tq_le_n))))))) (FX12_duels_j132L28_x  h0 hf hk)

set_option maxRecDepth 100000 in
set_option maxHeartbeats 4000000 in
theorem FX12_duels_j64L28_x {S : Nat × (Nat → Int32)} {d : Nat} {I : tq_PI} {L : tq_PL} {a0 : Nat} {a1 : Int32} {a2 : Int64} {a4 : Int32} {a5 : Int32} (h0 : tq_sh0 a0 = 12) {q0 : Option Value → tq_PI → tq_PL → Prop} {out : (Int32 × Int32 × tq_PI × tq_PL) ⊕ (Int32 × tq_PI × tq_PL)} (hf : FX12_duels_j64L28 I L a0 a1 a2 a4 a5 = some out) (hk : Sum.elim (fun p : Int32 × Int32 × tq_PI × tq_PL => tq_X S mX12_duels (d + 7) tq_k0 28 ([.ref a0, .int a1, .long a2, tq_u, .int p.1, .int p.2.1, tq_u]) [] (tq_st p.2.2.1 p.2.2.2) (tq_Q q0)) (fun p : Int32 × tq_PI × tq_PL => tq_X S mX12_duels (d + 7) tq_k0 138 ([tq_u, tq_u, tq_u, tq_u, .int p.1, tq_u, tq_u]) [] (tq_st p.2.1 p.2.2) (tq_Q q0)) out) : tq_X S mX12_duels (d + 7) tq_k0 64 ([.ref a0, .int a1, .long a2, tq_u, .int a4, .int a5, tq_u]) ([]) (tq_st I L) (tq_Q q0) := by
  unfold FX12_duels_j64L28 at hf
  refine tq_aload_n rX12_duels_64 rfl ?_
  refine tq_iconst (0 : Int32) rX12_duels_65 (by decide) ?_
  refine tq_iconst (0 : Int32) rX12_duels_66 (by decide) ?_
  refine tq_iload rX12_duels_67 rfl ?_
  obtain ⟨p9, e9, hf⟩ := Option.bind_eq_some_iff.mp hf
  refine ty_callVI p9.1 ([.int (0 : Int32), .int (0 : Int32), .int a5]) ([]) rX12_duels_69 l_X12_342 moX12_brings mvX12_brings h0 rfl rfl (Nat.le_of_ble_eq_true rfl) ⟨rfl, rfl⟩ (CX12_brings h0 e9) ?_
  refine tq_iload_n rX12_duels_72 rfl ?_
  refine tq_iconst (1 : Int32) rX12_duels_73 (by decide) ?_
  refine tq_icmp_ne rX12_duels_74 (fun c10 => ?_) (fun c10 => ?_)
  · rw [if_neg c10] at hf
    refine tq_iload_n rX12_duels_81 rfl ?_
    refine tq_iconst (2 : Int32) rX12_duels_82 (by decide) ?_
    refine tq_icmp_ne rX12_duels_83 (fun c11 => ?_) (fun c11 => ?_)
    · rw [if_neg c11] at hf
      refine tq_aload_n rX12_duels_95 rfl ?_
      refine tq_iconst (1 : Int32) rX12_duels_96 (by decide) ?_
      refine tq_iconst (1 : Int32) rX12_duels_97 (by decide) ?_
      obtain ⟨p12, e12, hf⟩ := Option.bind_eq_some_iff.mp hf
      refine ty_callVI p12.1 ([.int (1 : Int32), .int (1 : Int32)]) ([.int p9.1]) rX12_duels_98 l_X12_351 moX12_turnBefore mvX12_turnBefore h0 rfl rfl (Nat.le_of_ble_eq_true rfl) ⟨rfl, rfl⟩ (CX12_turnBefore h0 e12) ?_
      exact tq_forget _ (tq_le_s (tq_le_s (tq_le_s (tq_le_u (tq_le_s (tq_le_s (tq_le_u tq_le_n))))))) (FX12_duels_j101L28_x  h0 hf hk)
    · rw [if_pos c11] at hf
      refine tq_aload_n rX12_duels_86 rfl ?_
      refine tq_iconst (1 : Int32) rX12_duels_87 (by decide) ?_
      refine tq_iconst (1 : Int32) rX12_duels_88 (by decide) ?_
      obtain ⟨p15, e15, hf⟩ := Option.bind_eq_some_iff.mp hf
      refine ty_callVI p15.1 ([.int (1 : Int32), .int (1 : Int32)]) ([.int p9.1]) rX12_duels_89 l_X12_345 moX12_lastTurn mvX12_lastTurn h0 rfl rfl (Nat.le_of_ble_eq_true rfl) ⟨rfl, rfl⟩ (CX12_lastTurn h0 e15) ?_
      refine tq_goto rX12_duels_92 ?_
      exact tq_forget _ (tq_le_s (tq_le_s (tq_le_s (tq_le_u (tq_le_s (tq_le_s (tq_le_u tq_le_n))))))) (FX12_duels_j101L28_x  h0 hf hk)
  · rw [if_pos c10] at hf
    refine tq_iconst (0 : Int32) rX12_duels_77 (by decide) ?_
    refine tq_goto rX12_duels_78 ?_
    exact tq_forget _ (tq_le_s (tq_le_s (tq_le_s (tq_le_u (tq_le_s (tq_le_s (tq_le_u tq_le_n))))))) (FX12_duels_j101L28_x  h0 hf hk)

set_option maxRecDepth 100000 in
set_option maxHeartbeats 4000000 in
theorem FX12_duels_s28_x {S : Nat × (Nat → Int32)} {d : Nat} {I : tq_PI} {L : tq_PL} {a0 : Nat} {a1 : Int32} {a2 : Int64} {a4 : Int32} {a5 : Int32} (h0 : tq_sh0 a0 = 12) {q0 : Option Value → tq_PI → tq_PL → Prop} {out : (Int32 × Int32 × tq_PI × tq_PL) ⊕ (Int32 × tq_PI × tq_PL)} (hf : FX12_duels_s28 I L a0 a1 a2 a4 a5 = some out) (hk : Sum.elim (fun p : Int32 × Int32 × tq_PI × tq_PL => tq_X S mX12_duels (d + 7) tq_k0 28 ([.ref a0, .int a1, .long a2, tq_u, .int p.1, .int p.2.1, tq_u]) [] (tq_st p.2.2.1 p.2.2.2) (tq_Q q0)) (fun p : Int32 × tq_PI × tq_PL => tq_X S mX12_duels (d + 7) tq_k0 138 ([tq_u, tq_u, tq_u, tq_u, .int p.1, tq_u, tq_u]) [] (tq_st p.2.1 p.2.2) (tq_Q q0)) out) : tq_X S mX12_duels (d + 7) tq_k0 28 ([.ref a0, .int a1, .long a2, tq_u, .int a4, .int a5, tq_u]) [] (tq_st I L) (tq_Q q0) := by
  unfold FX12_duels_s28 at hf
  refine tq_iload rX12_duels_28 rfl ?_
  refine tq_aload_n rX12_duels_30 rfl ?_
  obtain ⟨p4, e4, hf⟩ := tq_let_elim hf
  refine ty_callVI p4 ([]) ([.int a5]) rX12_duels_31 l_X12_190 moX12_many mvX12_many h0 rfl rfl (Nat.le_of_ble_eq_true rfl) ⟨rfl, rfl⟩ (CX12_many h0 e4) ?_
  refine tq_icmp_gt rX12_duels_34 (fun c5 => ?_) (fun c5 => ?_)
  · rw [if_pos c5] at hf
    have hf := Option.some.inj hf
    subst hf
    exact tq_forget _ (tq_le_u (tq_le_u (tq_le_u (tq_le_u (tq_le_s (tq_le_u (tq_le_u tq_le_n))))))) hk
  · rw [if_neg c5] at hf
    refine tq_iload_n rX12_duels_37 rfl ?_
    refine tq_if_le rX12_duels_38 (fun c6 => ?_) (fun c6 => ?_)
    · rw [if_pos c6] at hf
      have hf := Option.some.inj hf
      subst hf
      exact tq_forget _ (tq_le_u (tq_le_u (tq_le_u (tq_le_u (tq_le_s (tq_le_u (tq_le_u tq_le_n))))))) hk
    · rw [if_neg c6] at hf
      refine tq_iload rX12_duels_41 rfl ?_
      refine tq_aload_n rX12_duels_43 rfl ?_
      obtain ⟨p7, e7, hf⟩ := tq_let_elim hf
      refine ty_callVI p7 ([]) ([.int a5]) rX12_duels_44 l_X12_190 moX12_many mvX12_many h0 rfl rfl (Nat.le_of_ble_eq_true rfl) ⟨rfl, rfl⟩ (CX12_many h0 e7) ?_
      refine tq_icmp_ge rX12_duels_47 (fun c8 => ?_) (fun c8 => ?_)
      · rw [if_pos c8] at hf
        exact tq_forget _ (tq_le_s (tq_le_s (tq_le_s (tq_le_u (tq_le_s (tq_le_s (tq_le_u tq_le_n))))))) (FX12_duels_j64L28_x  h0 hf hk)
      · rw [if_neg c8] at hf
        refine tq_lload_n rX12_duels_50 rfl ?_
        refine tq_iload rX12_duels_51 rfl ?_
        refine tq_lshr rX12_duels_53 ?_
        refine tq_lconst (1 : Int64) rX12_duels_54 (by decide) ?_
        refine tq_land rX12_duels_55 ?_
        refine tq_lconst (0 : Int64) rX12_duels_56 (by decide) ?_
        refine tq_lcmp rX12_duels_57 ?_
        refine tq_if_ne rX12_duels_58 (fun c16 => ?_) (fun c16 => ?_)
        · rw [if_neg c16] at hf
          exact tq_forget _ (tq_le_s (tq_le_s (tq_le_s (tq_le_u (tq_le_s (tq_le_s (tq_le_u tq_le_n))))))) (FX12_duels_j64L28_x  h0 hf hk)
        · rw [if_pos c16] at hf
          refine tq_goto rX12_duels_61 ?_
          exact tq_forget _ (tq_le_s (tq_le_s (tq_le_s (tq_le_u (tq_le_s (tq_le_s (tq_le_u tq_le_n))))))) (FX12_duels_j132L28_x  h0 hf hk)

set_option maxRecDepth 100000 in
set_option maxHeartbeats 4000000 in
theorem CX12_duels {S : Nat × (Nat → Int32)} {d : Nat} {I : tq_PI} {L : tq_PL} {a0 : Nat} {a1 : Int32} (h0 : tq_sh0 a0 = 12) {out : Int32 × tq_PI × tq_PL} (hf : FX12_duels I L a0 a1 = some out) : tq_K S mX12_duels (d + 7) [.ref a0, .int a1] I L (tq_one2 (some (.int out.1)) out.2.1 out.2.2) := by
  unfold FX12_duels at hf
  refine tq_K_of (by decide) (Nat.le_of_ble_eq_true rfl) (ls := [.ref a0, .int a1, tq_u, tq_u, tq_u, tq_u, tq_u]) rfl ?_
  refine tq_aload_n rX12_duels_0 rfl ?_
  obtain ⟨p1, e1, hf⟩ := Option.bind_eq_some_iff.mp hf
  refine ty_callVV ([]) ([]) rX12_duels_1 l_X12_224 moX12_asTold mvX12_asTold h0 rfl rfl (Nat.le_of_ble_eq_true rfl) ⟨rfl, rfl⟩ (CX12_asTold h0 e1) ?_
  refine tq_aload_n rX12_duels_4 rfl ?_
  refine tq_iconst (0 : Int32) rX12_duels_5 (by decide) ?_
  refine tq_iconst (0 : Int32) rX12_duels_6 (by decide) ?_
  obtain ⟨p2, e2, hf⟩ := Option.bind_eq_some_iff.mp hf
  refine ty_callVV ([.int (0 : Int32), .int (0 : Int32)]) ([]) rX12_duels_7 l_X12_323 moX12_sees mvX12_sees h0 rfl rfl (Nat.le_of_ble_eq_true rfl) ⟨rfl, rfl⟩ (CX12_sees h0 e2) ?_
  refine tq_aload_n rX12_duels_10 rfl ?_
  refine ty_getR rX12_duels_11 f_X12_47 rfl h0 (hp_12_30 h0).1 ?_
  refine tq_iconst (0 : Int32) rX12_duels_14 (by decide) ?_
  obtain ⟨g3, hf⟩ := tq_chk hf
  refine ty_lald (v := 4) rX12_duels_15 (hp_12_30 h0).2.1 (hp_12_30 h0).2.2 rfl (by decide) g3 ?_
  refine tq_lstore_n ([.ref a0, .int a1, .long (p2.2 (tq_rg a0 30) ((0 : Int32)).toNatClampNeg), tq_u, tq_u, tq_u, tq_u]) rX12_duels_16 (Nat.le_of_ble_eq_true rfl) rfl ?_
  refine tq_iconst (0 : Int32) rX12_duels_17 (by decide) ?_
  refine tq_istore ([.ref a0, .int a1, .long (p2.2 (tq_rg a0 30) ((0 : Int32)).toNatClampNeg), tq_u, .int (0 : Int32), tq_u, tq_u]) rX12_duels_18 (Nat.le_of_ble_eq_true rfl) rfl ?_
  refine tq_aload_n rX12_duels_20 rfl ?_
  refine tq_iconst (-1 : Int32) rX12_duels_21 (by decide) ?_
  refine ty_putI rX12_duels_22 f_X12_348 rfl h0 rfl ?_
  refine tq_iconst (0 : Int32) rX12_duels_25 (by decide) ?_
  refine tq_istore ([.ref a0, .int a1, .long (p2.2 (tq_rg a0 30) ((0 : Int32)).toNatClampNeg), tq_u, .int (0 : Int32), .int (0 : Int32), tq_u]) rX12_duels_26 (Nat.le_of_ble_eq_true rfl) rfl ?_
  obtain ⟨p17, e17, hf⟩ := Option.bind_eq_some_iff.mp hf
  refine tq_forget _ (tq_le_s (tq_le_s (tq_le_s (tq_le_u (tq_le_s (tq_le_s (tq_le_u tq_le_n))))))) ?_
  refine tq_it_elim (P := fun p : Int32 × Int32 × tq_PI × tq_PL => tq_X S mX12_duels (d + 7) tq_k0 28 ([.ref a0, .int a1, .long (p2.2 (tq_rg a0 30) ((0 : Int32)).toNatClampNeg), tq_u, .int p.1, .int p.2.1, tq_u]) [] (tq_st p.2.2.1 p.2.2.2) (tq_Q (tq_one2 (some (.int out.1)) out.2.1 out.2.2))) (R := fun p : Int32 × tq_PI × tq_PL => tq_X S mX12_duels (d + 7) tq_k0 138 ([tq_u, tq_u, tq_u, tq_u, .int p.1, tq_u, tq_u]) [] (tq_st p.2.1 p.2.2) (tq_Q (tq_one2 (some (.int out.1)) out.2.1 out.2.2))) (fun p o hp hk => FX12_duels_s28_x  h0 hp hk) _ (((0 : Int32), (0 : Int32), (tq_up2 p2.1 a0 31 (-1 : Int32)), p2.2)) _ e17 ?_
  show tq_X _ _ _ _ _ _ _ _ _
  refine tq_iload rX12_duels_138 rfl ?_
  refine ty_iret rX12_duels_140 rfl rfl ?_
  have hf := Option.some.inj hf
  subst hf
  exact ⟨rfl, rfl, rfl⟩

abbrev mX12_duel : tq_M := (yX12_duel, cX12_duel, 5, (Option.some Jvm.ClassFile.FieldType.int), 0, 0)
theorem moX12_duels : tq_mok mX12_duels 1 := ⟨tq_sg1 _ (List.mem_of_getElem? (i := 13) rfl), tq_sg8 _ (List.mem_of_getElem? (i := 70) rfl), ⟨by decide, by decide, by decide +kernel⟩, by decide⟩
theorem mvX12_duels : 12 < 13 ∧ (tq_cl 12).1 = mX12_duels.1.cls ∧ Cond.instanceMethod mX12_duels.1 ∈ lw_tbl ∧ Cond.selects mX12_duels.1.cls mX12_duels.1 mX12_duels.1 ∈ lw_tbl := ⟨by decide, rfl, tq_sg8 _ (List.mem_of_getElem? (i := 69) rfl), List.mem_append_left _ (List.mem_map.mpr ⟨_, List.mem_of_getElem? (i := 96) rfl, rfl⟩)⟩
theorem l_X12_354 : tq_lok RX12 354 mX12_duels.1 := Or.inl (tq_sg8 _ (List.mem_of_getElem? (i := 67) rfl))
theorem rX12_duel_0 : tq_D cX12_duel 0 (.aload_n 0) 1 1 := ⟨by decide +kernel, rfl⟩
theorem rX12_duel_1 : tq_D cX12_duel 1 (.iload_n 1) 1 2 := ⟨by decide +kernel, rfl⟩
theorem rX12_duel_2 : tq_D cX12_duel 2 (.invokevirtual 221) 3 5 := ⟨by decide +kernel, rfl⟩
theorem rX12_duel_5 : tq_J cX12_duel 5 (.ifCond .eq) 25 8 := ⟨20, by decide +kernel, by decide, rfl⟩
theorem rX12_duel_8 : tq_D cX12_duel 8 (.iload_n 2) 1 9 := ⟨by decide +kernel, rfl⟩
theorem rX12_duel_9 : tq_D cX12_duel 9 (.iconst 0) 1 10 := ⟨by decide +kernel, rfl⟩
theorem rX12_duel_10 : tq_D cX12_duel 10 (.iconst 3) 1 11 := ⟨by decide +kernel, rfl⟩
theorem rX12_duel_11 : tq_D cX12_duel 11 (.invokestatic 118) 3 14 := ⟨by decide +kernel, rfl⟩
theorem rX12_duel_14 : tq_J cX12_duel 14 (.ifCond .eq) 25 17 := ⟨11, by decide +kernel, by decide, rfl⟩
theorem rX12_duel_17 : tq_D cX12_duel 17 (.iload_n 3) 1 18 := ⟨by decide +kernel, rfl⟩
theorem rX12_duel_18 : tq_J cX12_duel 18 (.ifCond .eq) 29 21 := ⟨11, by decide +kernel, by decide, rfl⟩
theorem rX12_duel_21 : tq_D cX12_duel 21 (.iload_n 2) 1 22 := ⟨by decide +kernel, rfl⟩
theorem rX12_duel_22 : tq_J cX12_duel 22 (.ifCond .ne) 29 25 := ⟨7, by decide +kernel, by decide, rfl⟩
theorem rX12_duel_25 : tq_D cX12_duel 25 (.sipush (-1000)) 3 28 := ⟨by decide +kernel, rfl⟩
theorem rX12_duel_28 : decode cX12_duel 28 = .ok (.ireturn, 1) := by decide +kernel
theorem rX12_duel_29 : tq_D cX12_duel 29 (.aload_n 0) 1 30 := ⟨by decide +kernel, rfl⟩
theorem rX12_duel_30 : tq_D cX12_duel 30 (.iload_n 2) 1 31 := ⟨by decide +kernel, rfl⟩
theorem rX12_duel_31 : tq_D cX12_duel 31 (.invokevirtual 354) 3 34 := ⟨by decide +kernel, rfl⟩
theorem rX12_duel_34 : tq_D cX12_duel 34 (.istore 4) 2 36 := ⟨by decide +kernel, rfl⟩
theorem rX12_duel_36 : tq_D cX12_duel 36 (.iload_n 3) 1 37 := ⟨by decide +kernel, rfl⟩
theorem rX12_duel_37 : tq_J cX12_duel 37 (.ifCond .eq) 47 40 := ⟨10, by decide +kernel, by decide, rfl⟩
theorem rX12_duel_40 : tq_D cX12_duel 40 (.aload_n 0) 1 41 := ⟨by decide +kernel, rfl⟩
theorem rX12_duel_41 : tq_D cX12_duel 41 (.getfield 348) 3 44 := ⟨by decide +kernel, rfl⟩
theorem rX12_duel_44 : tq_J cX12_duel 44 .goto 49 47 := ⟨5, by decide +kernel, by decide, rfl⟩
theorem rX12_duel_47 : tq_D cX12_duel 47 (.iload 4) 2 49 := ⟨by decide +kernel, rfl⟩
theorem rX12_duel_49 : decode cX12_duel 49 = .ok (.ireturn, 1) := by decide +kernel
noncomputable def FX12_duel_j25 (I : tq_PI) (L : tq_PL)  : Option (Int32 × tq_PI × tq_PL) :=
  some ((-1000 : Int32), I, L)
noncomputable def FX12_duel_j29 (I : tq_PI) (L : tq_PL) (a0 : Nat) (a2 : Int32) (a3 : Int32) : Option (Int32 × tq_PI × tq_PL) :=
  ((FX12_duels I L a0 a2).bind fun p6 => (if a3 = 0 then some (p6.1, p6.2.1, p6.2.2) else some ((p6.2.1 a0 31), p6.2.1, p6.2.2)))
noncomputable def FX12_duel (I : tq_PI) (L : tq_PL) (a0 : Nat) (a1 : Int32) (a2 : Int32) (a3 : Int32) : Option (Int32 × tq_PI × tq_PL) :=
  ((FX12_isHill I L a0 a1).bind fun p1 => (if (tq_b p1.1) = 0 then (FX12_duel_j25 p1.2 L ) else (tq_let (FX12_isIn p1.2 L a2 ((0 : Int32)) ((3 : Int32))) fun p3 => (if (tq_b p3) = 0 then (FX12_duel_j25 p1.2 L ) else (if a3 = 0 then (FX12_duel_j29 p1.2 L a0 a2 a3) else (if a2 = 0 then (FX12_duel_j25 p1.2 L ) else (FX12_duel_j29 p1.2 L a0 a2 a3)))))))
set_option maxRecDepth 100000 in
set_option maxHeartbeats 4000000 in
theorem FX12_duel_j25_x {S : Nat × (Nat → Int32)} {d : Nat} {I : tq_PI} {L : tq_PL}   {q0 : Option Value → tq_PI → tq_PL → Prop} {out : Int32 × tq_PI × tq_PL} (hf : FX12_duel_j25 I L = some out) (hk : q0 (some (.int out.1)) out.2.1 out.2.2) : tq_X S mX12_duel (d + 8) tq_k0 25 ([tq_u, tq_u, tq_u, tq_u, tq_u]) ([]) (tq_st I L) (tq_Q q0) := by
  unfold FX12_duel_j25 at hf
  refine tq_sipush (-1000 : Int32) rX12_duel_25 (by decide) ?_
  refine ty_iret rX12_duel_28 rfl rfl ?_
  have hf := Option.some.inj hf
  subst hf
  exact hk

set_option maxRecDepth 100000 in
set_option maxHeartbeats 4000000 in
theorem FX12_duel_j29_x {S : Nat × (Nat → Int32)} {d : Nat} {I : tq_PI} {L : tq_PL} {a0 : Nat} {a2 : Int32} {a3 : Int32} (h0 : tq_sh0 a0 = 12) {q0 : Option Value → tq_PI → tq_PL → Prop} {out : Int32 × tq_PI × tq_PL} (hf : FX12_duel_j29 I L a0 a2 a3 = some out) (hk : q0 (some (.int out.1)) out.2.1 out.2.2) : tq_X S mX12_duel (d + 8) tq_k0 29 ([.ref a0, tq_u, .int a2, .int a3, tq_u]) ([]) (tq_st I L) (tq_Q q0) := by
  unfold FX12_duel_j29 at hf
  refine tq_aload_n rX12_duel_29 rfl ?_
  refine tq_iload_n rX12_duel_30 rfl ?_
  obtain ⟨p6, e6, hf⟩ := Option.bind_eq_some_iff.mp hf
  refine ty_callVI p6.1 ([.int a2]) ([]) rX12_duel_31 l_X12_354 moX12_duels mvX12_duels h0 rfl rfl (Nat.le_of_ble_eq_true rfl) ⟨rfl, rfl⟩ (CX12_duels h0 e6) ?_
  refine tq_istore ([.ref a0, tq_u, .int a2, .int a3, .int p6.1]) rX12_duel_34 (Nat.le_of_ble_eq_true rfl) rfl ?_
  refine tq_iload_n rX12_duel_36 rfl ?_
  refine tq_if_eq rX12_duel_37 (fun c7 => ?_) (fun c7 => ?_)
  · rw [if_pos c7] at hf
    refine tq_iload rX12_duel_47 rfl ?_
    refine ty_iret rX12_duel_49 rfl rfl ?_
    have hf := Option.some.inj hf
    subst hf
    exact hk
  · rw [if_neg c7] at hf
    refine tq_aload_n rX12_duel_40 rfl ?_
    refine ty_getI rX12_duel_41 f_X12_348 rfl h0 ?_
    refine tq_goto rX12_duel_44 ?_
    refine ty_iret rX12_duel_49 rfl rfl ?_
    have hf := Option.some.inj hf
    subst hf
    exact hk

set_option maxRecDepth 100000 in
set_option maxHeartbeats 4000000 in
theorem CX12_duel {S : Nat × (Nat → Int32)} {d : Nat} {I : tq_PI} {L : tq_PL} {a0 : Nat} {a1 : Int32} {a2 : Int32} {a3 : Int32} (h0 : tq_sh0 a0 = 12) {out : Int32 × tq_PI × tq_PL} (hf : FX12_duel I L a0 a1 a2 a3 = some out) : tq_K S mX12_duel (d + 8) [.ref a0, .int a1, .int a2, .int a3] I L (tq_one2 (some (.int out.1)) out.2.1 out.2.2) := by
  unfold FX12_duel at hf
  refine tq_K_of (by decide) (Nat.le_of_ble_eq_true rfl) (ls := [.ref a0, .int a1, .int a2, .int a3, tq_u]) rfl ?_
  refine tq_aload_n rX12_duel_0 rfl ?_
  refine tq_iload_n rX12_duel_1 rfl ?_
  obtain ⟨p1, e1, hf⟩ := Option.bind_eq_some_iff.mp hf
  refine ty_callVI (tq_b p1.1) ([.int a1]) ([]) rX12_duel_2 l_X12_221 moX12_isHill mvX12_isHill h0 rfl rfl (Nat.le_of_ble_eq_true rfl) ⟨rfl, rfl⟩ (CX12_isHill h0 e1) ?_
  refine tq_if_eq rX12_duel_5 (fun c2 => ?_) (fun c2 => ?_)
  · rw [if_pos c2] at hf
    exact tq_forget _ (tq_le_u (tq_le_u (tq_le_u (tq_le_u (tq_le_u tq_le_n))))) (FX12_duel_j25_x   hf ⟨rfl, rfl, rfl⟩)
  · rw [if_neg c2] at hf
    refine tq_iload_n rX12_duel_8 rfl ?_
    refine tq_iconst (0 : Int32) rX12_duel_9 (by decide) ?_
    refine tq_iconst (3 : Int32) rX12_duel_10 (by decide) ?_
    obtain ⟨p3, e3, hf⟩ := tq_let_elim hf
    refine ty_callSI (tq_b p3) ([.int a2, .int (0 : Int32), .int (3 : Int32)]) ([]) rX12_duel_11 l_X12_118 moX12_isIn msX12_isIn rfl rfl (Nat.le_of_ble_eq_true rfl) ⟨rfl, rfl⟩ (CX12_isIn  e3) ?_
    refine tq_if_eq rX12_duel_14 (fun c4 => ?_) (fun c4 => ?_)
    · rw [if_pos c4] at hf
      exact tq_forget _ (tq_le_u (tq_le_u (tq_le_u (tq_le_u (tq_le_u tq_le_n))))) (FX12_duel_j25_x   hf ⟨rfl, rfl, rfl⟩)
    · rw [if_neg c4] at hf
      refine tq_iload_n rX12_duel_17 rfl ?_
      refine tq_if_eq rX12_duel_18 (fun c5 => ?_) (fun c5 => ?_)
      · rw [if_pos c5] at hf
        exact tq_forget _ (tq_le_s (tq_le_u (tq_le_s (tq_le_s (tq_le_u tq_le_n))))) (FX12_duel_j29_x  h0 hf ⟨rfl, rfl, rfl⟩)
      · rw [if_neg c5] at hf
        refine tq_iload_n rX12_duel_21 rfl ?_
        refine tq_if_ne rX12_duel_22 (fun c8 => ?_) (fun c8 => ?_)
        · rw [if_neg c8] at hf
          exact tq_forget _ (tq_le_s (tq_le_u (tq_le_s (tq_le_s (tq_le_u tq_le_n))))) (FX12_duel_j29_x  h0 hf ⟨rfl, rfl, rfl⟩)
        · rw [if_pos c8] at hf
          exact tq_forget _ (tq_le_u (tq_le_u (tq_le_u (tq_le_u (tq_le_u tq_le_n))))) (FX12_duel_j25_x   hf ⟨rfl, rfl, rfl⟩)

abbrev mX12_apart : tq_M := (yX12_apart, cX12_apart, 4, (Option.some Jvm.ClassFile.FieldType.int), 0, 0)
theorem rX12_apart_0 : tq_D cX12_apart 0 (.iconst 0) 1 1 := ⟨by decide +kernel, rfl⟩
theorem rX12_apart_1 : tq_D cX12_apart 1 (.istore_n 2) 1 2 := ⟨by decide +kernel, rfl⟩
theorem rX12_apart_2 : tq_D cX12_apart 2 (.iconst 0) 1 3 := ⟨by decide +kernel, rfl⟩
theorem rX12_apart_3 : tq_D cX12_apart 3 (.istore_n 3) 1 4 := ⟨by decide +kernel, rfl⟩
theorem rX12_apart_4 : tq_D cX12_apart 4 (.iload_n 3) 1 5 := ⟨by decide +kernel, rfl⟩
theorem rX12_apart_5 : tq_D cX12_apart 5 (.aload_n 0) 1 6 := ⟨by decide +kernel, rfl⟩
theorem rX12_apart_6 : tq_D cX12_apart 6 (.invokevirtual 190) 3 9 := ⟨by decide +kernel, rfl⟩
theorem rX12_apart_9 : tq_J cX12_apart 9 (.if_icmp .ge) 53 12 := ⟨44, by decide +kernel, by decide, rfl⟩
theorem rX12_apart_12 : tq_D cX12_apart 12 (.iload_n 2) 1 13 := ⟨by decide +kernel, rfl⟩
theorem rX12_apart_13 : tq_D cX12_apart 13 (.iload_n 3) 1 14 := ⟨by decide +kernel, rfl⟩
theorem rX12_apart_14 : tq_D cX12_apart 14 (.aload_n 0) 1 15 := ⟨by decide +kernel, rfl⟩
theorem rX12_apart_15 : tq_D cX12_apart 15 (.getfield 148) 3 18 := ⟨by decide +kernel, rfl⟩
theorem rX12_apart_18 : tq_D cX12_apart 18 (.irem) 1 19 := ⟨by decide +kernel, rfl⟩
theorem rX12_apart_19 : tq_D cX12_apart 19 (.iload_n 1) 1 20 := ⟨by decide +kernel, rfl⟩
theorem rX12_apart_20 : tq_J cX12_apart 20 (.if_icmp .ge) 35 23 := ⟨15, by decide +kernel, by decide, rfl⟩
theorem rX12_apart_23 : tq_D cX12_apart 23 (.aload_n 0) 1 24 := ⟨by decide +kernel, rfl⟩
theorem rX12_apart_24 : tq_D cX12_apart 24 (.iconst 0) 1 25 := ⟨by decide +kernel, rfl⟩
theorem rX12_apart_25 : tq_D cX12_apart 25 (.iload_n 3) 1 26 := ⟨by decide +kernel, rfl⟩
theorem rX12_apart_26 : tq_D cX12_apart 26 (.invokevirtual 193) 3 29 := ⟨by decide +kernel, rfl⟩
theorem rX12_apart_29 : tq_D cX12_apart 29 (.invokestatic 230) 3 32 := ⟨by decide +kernel, rfl⟩
theorem rX12_apart_32 : tq_J cX12_apart 32 .goto 45 35 := ⟨13, by decide +kernel, by decide, rfl⟩
theorem rX12_apart_35 : tq_D cX12_apart 35 (.aload_n 0) 1 36 := ⟨by decide +kernel, rfl⟩
theorem rX12_apart_36 : tq_D cX12_apart 36 (.iconst 0) 1 37 := ⟨by decide +kernel, rfl⟩
theorem rX12_apart_37 : tq_D cX12_apart 37 (.iload_n 3) 1 38 := ⟨by decide +kernel, rfl⟩
theorem rX12_apart_38 : tq_D cX12_apart 38 (.invokevirtual 193) 3 41 := ⟨by decide +kernel, rfl⟩
theorem rX12_apart_41 : tq_D cX12_apart 41 (.invokestatic 230) 3 44 := ⟨by decide +kernel, rfl⟩
theorem rX12_apart_44 : tq_D cX12_apart 44 (.ineg) 1 45 := ⟨by decide +kernel, rfl⟩
theorem rX12_apart_45 : tq_D cX12_apart 45 (.iadd) 1 46 := ⟨by decide +kernel, rfl⟩
theorem rX12_apart_46 : tq_D cX12_apart 46 (.istore_n 2) 1 47 := ⟨by decide +kernel, rfl⟩
theorem rX12_apart_47 : tq_D cX12_apart 47 (.iinc 3 1) 3 50 := ⟨by decide +kernel, rfl⟩
theorem rX12_apart_50 : tq_J cX12_apart 50 .goto 4 53 := ⟨(-46), by decide +kernel, by decide, rfl⟩
theorem rX12_apart_53 : tq_D cX12_apart 53 (.iload_n 2) 1 54 := ⟨by decide +kernel, rfl⟩
theorem rX12_apart_54 : tq_J cX12_apart 54 (.ifCond .ge) 62 57 := ⟨8, by decide +kernel, by decide, rfl⟩
theorem rX12_apart_57 : tq_D cX12_apart 57 (.iload_n 2) 1 58 := ⟨by decide +kernel, rfl⟩
theorem rX12_apart_58 : tq_D cX12_apart 58 (.ineg) 1 59 := ⟨by decide +kernel, rfl⟩
theorem rX12_apart_59 : tq_J cX12_apart 59 .goto 63 62 := ⟨4, by decide +kernel, by decide, rfl⟩
theorem rX12_apart_62 : tq_D cX12_apart 62 (.iload_n 2) 1 63 := ⟨by decide +kernel, rfl⟩
theorem rX12_apart_63 : decode cX12_apart 63 = .ok (.ireturn, 1) := by decide +kernel
noncomputable def FX12_apart_j45L4 (I : tq_PI) (L : tq_PL) (a0 : Nat) (a1 : Int32) (a3 : Int32) (b0 : Int32) (b1 : Int32) : Option ((Int32 × Int32) ⊕ (Int32)) :=
  some (.inl ((b1 + b0), (a3 + 1)))
noncomputable def FX12_apart_s4 (I : tq_PI) (L : tq_PL) (a0 : Nat) (a1 : Int32) (a2 : Int32) (a3 : Int32) : Option ((Int32 × Int32) ⊕ (Int32)) :=
  (tq_let (FX12_many I L a0) fun p1 => (if p1 ≤ a3 then some (.inr a2) else (if ¬ (I a0 13) = 0 then (if a1 ≤ (a3 - a3 / (I a0 13) * (I a0 13)) then ((FX12_kindOf I L a0 ((0 : Int32)) a3).bind fun p5 => (tq_let (FX12_worthOf I L p5) fun p6 => (FX12_apart_j45L4 I L a0 a1 a3 ((-p6)) a2))) else ((FX12_kindOf I L a0 ((0 : Int32)) a3).bind fun p7 => (tq_let (FX12_worthOf I L p7) fun p8 => (FX12_apart_j45L4 I L a0 a1 a3 p8 a2)))) else none)))
noncomputable def FX12_apart (I : tq_PI) (L : tq_PL) (a0 : Nat) (a1 : Int32) : Option (Int32) :=
  ((tq_it (fun p : Int32 × Int32 => FX12_apart_s4 I L a0 a1 p.1 p.2) tq_N ((0 : Int32), (0 : Int32))).bind fun p9 => (if 0 ≤ p9 then some p9 else some (-p9)))
set_option maxRecDepth 100000 in
set_option maxHeartbeats 4000000 in
theorem FX12_apart_j45L4_x {S : Nat × (Nat → Int32)} {d : Nat} {I : tq_PI} {L : tq_PL} {a0 : Nat} {a1 : Int32} {a3 : Int32} {b0 : Int32} {b1 : Int32} (h0 : tq_sh0 a0 = 12) {q0 : Option Value → tq_PI → tq_PL → Prop} {out : (Int32 × Int32) ⊕ (Int32)} (hf : FX12_apart_j45L4 I L a0 a1 a3 b0 b1 = some out) (hk : Sum.elim (fun p : Int32 × Int32 => tq_X S mX12_apart (d + 1) tq_k0 4 ([.ref a0, .int a1, .int p.1, .int p.2]) [] (tq_st I L) (tq_Q q0)) (fun p : Int32 => tq_X S mX12_apart (d + 1) tq_k0 53 ([tq_u, tq_u, .int p, tq_u]) [] (tq_st I L) (tq_Q q0)) out) : tq_X S mX12_apart (d + 1) tq_k0 45 ([.ref a0, .int a1, tq_u, .int a3]) ([.int b0, .int b1]) (tq_st I L) (tq_Q q0) := by
  unfold FX12_apart_j45L4 at hf
  refine tq_iadd rX12_apart_45 ?_
  refine tq_istore_n ([.ref a0, .int a1, .int (b1 + b0), .int a3]) rX12_apart_46 (Nat.le_of_ble_eq_true rfl) rfl ?_
  refine tq_iinc (a3 + 1) ([.ref a0, .int a1, .int (b1 + b0), .int (a3 + 1)]) rX12_apart_47 rfl (tq_inc (by decide)) (Nat.le_of_ble_eq_true rfl) rfl ?_
  refine tq_goto rX12_apart_50 ?_
  have hf := Option.some.inj hf
  subst hf
  exact tq_forget _ (tq_le_s (tq_le_s (tq_le_s (tq_le_s tq_le_n)))) hk

set_option maxRecDepth 100000 in
set_option maxHeartbeats 4000000 in
theorem FX12_apart_s4_x {S : Nat × (Nat → Int32)} {d : Nat} {I : tq_PI} {L : tq_PL} {a0 : Nat} {a1 : Int32} {a2 : Int32} {a3 : Int32} (h0 : tq_sh0 a0 = 12) {q0 : Option Value → tq_PI → tq_PL → Prop} {out : (Int32 × Int32) ⊕ (Int32)} (hf : FX12_apart_s4 I L a0 a1 a2 a3 = some out) (hk : Sum.elim (fun p : Int32 × Int32 => tq_X S mX12_apart (d + 1) tq_k0 4 ([.ref a0, .int a1, .int p.1, .int p.2]) [] (tq_st I L) (tq_Q q0)) (fun p : Int32 => tq_X S mX12_apart (d + 1) tq_k0 53 ([tq_u, tq_u, .int p, tq_u]) [] (tq_st I L) (tq_Q q0)) out) : tq_X S mX12_apart (d + 1) tq_k0 4 ([.ref a0, .int a1, .int a2, .int a3]) [] (tq_st I L) (tq_Q q0) := by
  unfold FX12_apart_s4 at hf
  refine tq_iload_n rX12_apart_4 rfl ?_
  refine tq_aload_n rX12_apart_5 rfl ?_
  obtain ⟨p1, e1, hf⟩ := tq_let_elim hf
  refine ty_callVI p1 ([]) ([.int a3]) rX12_apart_6 l_X12_190 moX12_many mvX12_many h0 rfl rfl (Nat.le_of_ble_eq_true rfl) ⟨rfl, rfl⟩ (CX12_many h0 e1) ?_
  refine tq_icmp_ge rX12_apart_9 (fun c2 => ?_) (fun c2 => ?_)
  · rw [if_pos c2] at hf
    have hf := Option.some.inj hf
    subst hf
    exact tq_forget _ (tq_le_u (tq_le_u (tq_le_s (tq_le_u tq_le_n)))) hk
  · rw [if_neg c2] at hf
    refine tq_iload_n rX12_apart_12 rfl ?_
    refine tq_iload_n rX12_apart_13 rfl ?_
    refine tq_aload_n rX12_apart_14 rfl ?_
    refine ty_getI rX12_apart_15 f_X12_148 rfl h0 ?_
    obtain ⟨g3, hf⟩ := tq_chk hf
    refine tq_irem rX12_apart_18 g3 ?_
    refine tq_iload_n rX12_apart_19 rfl ?_
    refine tq_icmp_ge rX12_apart_20 (fun c4 => ?_) (fun c4 => ?_)
    · rw [if_pos c4] at hf
      refine tq_aload_n rX12_apart_35 rfl ?_
      refine tq_iconst (0 : Int32) rX12_apart_36 (by decide) ?_
      refine tq_iload_n rX12_apart_37 rfl ?_
      obtain ⟨p5, e5, hf⟩ := Option.bind_eq_some_iff.mp hf
      refine ty_callVI p5 ([.int (0 : Int32), .int a3]) ([.int a2]) rX12_apart_38 l_X12_193 moX12_kindOf mvX12_kindOf h0 rfl rfl (Nat.le_of_ble_eq_true rfl) ⟨rfl, rfl⟩ (CX12_kindOf h0 e5) ?_
      obtain ⟨p6, e6, hf⟩ := tq_let_elim hf
      refine ty_callSI p6 ([.int p5]) ([.int a2]) rX12_apart_41 l_X12_230 moX12_worthOf msX12_worthOf rfl rfl (Nat.le_of_ble_eq_true rfl) ⟨rfl, rfl⟩ (CX12_worthOf  e6) ?_
      refine tq_ineg rX12_apart_44 ?_
      exact tq_forget _ (tq_le_s (tq_le_s (tq_le_u (tq_le_s tq_le_n)))) (FX12_apart_j45L4_x  h0 hf hk)
    · rw [if_neg c4] at hf
      refine tq_aload_n rX12_apart_23 rfl ?_
      refine tq_iconst (0 : Int32) rX12_apart_24 (by decide) ?_
      refine tq_iload_n rX12_apart_25 rfl ?_
      obtain ⟨p7, e7, hf⟩ := Option.bind_eq_some_iff.mp hf
      refine ty_callVI p7 ([.int (0 : Int32), .int a3]) ([.int a2]) rX12_apart_26 l_X12_193 moX12_kindOf mvX12_kindOf h0 rfl rfl (Nat.le_of_ble_eq_true rfl) ⟨rfl, rfl⟩ (CX12_kindOf h0 e7) ?_
      obtain ⟨p8, e8, hf⟩ := tq_let_elim hf
      refine ty_callSI p8 ([.int p7]) ([.int a2]) rX12_apart_29 l_X12_230 moX12_worthOf msX12_worthOf rfl rfl (Nat.le_of_ble_eq_true rfl) ⟨rfl, rfl⟩ (CX12_worthOf  e8) ?_
      refine tq_goto rX12_apart_32 ?_
      exact tq_forget _ (tq_le_s (tq_le_s (tq_le_u (tq_le_s tq_le_n)))) (FX12_apart_j45L4_x  h0 hf hk)

set_option maxRecDepth 100000 in
set_option maxHeartbeats 4000000 in
theorem CX12_apart {S : Nat × (Nat → Int32)} {d : Nat} {I : tq_PI} {L : tq_PL} {a0 : Nat} {a1 : Int32} (h0 : tq_sh0 a0 = 12) {out : Int32} (hf : FX12_apart I L a0 a1 = some out) : tq_K S mX12_apart (d + 1) [.ref a0, .int a1] I L (tq_one2 (some (.int out)) I L) := by
  unfold FX12_apart at hf
  refine tq_K_of (by decide) (Nat.le_of_ble_eq_true rfl) (ls := [.ref a0, .int a1, tq_u, tq_u]) rfl ?_
  refine tq_iconst (0 : Int32) rX12_apart_0 (by decide) ?_
  refine tq_istore_n ([.ref a0, .int a1, .int (0 : Int32), tq_u]) rX12_apart_1 (Nat.le_of_ble_eq_true rfl) rfl ?_
  refine tq_iconst (0 : Int32) rX12_apart_2 (by decide) ?_
  refine tq_istore_n ([.ref a0, .int a1, .int (0 : Int32), .int (0 : Int32)]) rX12_apart_3 (Nat.le_of_ble_eq_true rfl) rfl ?_
  obtain ⟨p9, e9, hf⟩ := Option.bind_eq_some_iff.mp hf
  refine tq_forget _ (tq_le_s (tq_le_s (tq_le_s (tq_le_s tq_le_n)))) ?_
  refine tq_it_elim (P := fun p : Int32 × Int32 => tq_X S mX12_apart (d + 1) tq_k0 4 ([.ref a0, .int a1, .int p.1, .int p.2]) [] (tq_st I L) (tq_Q (tq_one2 (some (.int out)) I L))) (R := fun p : Int32 => tq_X S mX12_apart (d + 1) tq_k0 53 ([tq_u, tq_u, .int p, tq_u]) [] (tq_st I L) (tq_Q (tq_one2 (some (.int out)) I L))) (fun p o hp hk => FX12_apart_s4_x  h0 hp hk) _ (((0 : Int32), (0 : Int32))) _ e9 ?_
  show tq_X _ _ _ _ _ _ _ _ _
  refine tq_iload_n rX12_apart_53 rfl ?_
  refine tq_if_ge rX12_apart_54 (fun c10 => ?_) (fun c10 => ?_)
  · rw [if_pos c10] at hf
    refine tq_iload_n rX12_apart_62 rfl ?_
    refine ty_iret rX12_apart_63 rfl rfl ?_
    have hf := Option.some.inj hf
    subst hf
    exact ⟨rfl, rfl, rfl⟩
  · rw [if_neg c10] at hf
    refine tq_iload_n rX12_apart_57 rfl ?_
    refine tq_ineg rX12_apart_58 ?_
    refine tq_goto rX12_apart_59 ?_
    refine ty_iret rX12_apart_63 rfl rfl ?_
    have hf := Option.some.inj hf
    subst hf
    exact ⟨rfl, rfl, rfl⟩

abbrev mX12_border : tq_M := (yX12_border, cX12_border, 5, (Option.some Jvm.ClassFile.FieldType.int), 0, 0)
theorem moX12_apart : tq_mok mX12_apart 1 := ⟨tq_sg1 _ (List.mem_of_getElem? (i := 13) rfl), tq_sg8 _ (List.mem_of_getElem? (i := 90) rfl), ⟨by decide, by decide, by decide +kernel⟩, by decide⟩
theorem mvX12_apart : 12 < 13 ∧ (tq_cl 12).1 = mX12_apart.1.cls ∧ Cond.instanceMethod mX12_apart.1 ∈ lw_tbl ∧ Cond.selects mX12_apart.1.cls mX12_apart.1 mX12_apart.1 ∈ lw_tbl := ⟨by decide, rfl, tq_sg8 _ (List.mem_of_getElem? (i := 89) rfl), List.mem_append_left _ (List.mem_map.mpr ⟨_, List.mem_of_getElem? (i := 100) rfl, rfl⟩)⟩
theorem l_X12_357 : tq_lok RX12 357 mX12_apart.1 := Or.inl (tq_sg8 _ (List.mem_of_getElem? (i := 87) rfl))
theorem rX12_border_0 : tq_D cX12_border 0 (.aload_n 0) 1 1 := ⟨by decide +kernel, rfl⟩
theorem rX12_border_1 : tq_D cX12_border 1 (.iload_n 1) 1 2 := ⟨by decide +kernel, rfl⟩
theorem rX12_border_2 : tq_D cX12_border 2 (.invokevirtual 221) 3 5 := ⟨by decide +kernel, rfl⟩
theorem rX12_border_5 : tq_J cX12_border 5 (.ifCond .ne) 10 8 := ⟨5, by decide +kernel, by decide, rfl⟩
theorem rX12_border_8 : tq_D cX12_border 8 (.iconst (-1)) 1 9 := ⟨by decide +kernel, rfl⟩
theorem rX12_border_9 : decode cX12_border 9 = .ok (.ireturn, 1) := by decide +kernel
theorem rX12_border_10 : tq_D cX12_border 10 (.aload_n 0) 1 11 := ⟨by decide +kernel, rfl⟩
theorem rX12_border_11 : tq_D cX12_border 11 (.invokevirtual 224) 3 14 := ⟨by decide +kernel, rfl⟩
theorem rX12_border_14 : tq_D cX12_border 14 (.iconst 0) 1 15 := ⟨by decide +kernel, rfl⟩
theorem rX12_border_15 : tq_D cX12_border 15 (.istore_n 3) 1 16 := ⟨by decide +kernel, rfl⟩
theorem rX12_border_16 : tq_D cX12_border 16 (.iconst 1) 1 17 := ⟨by decide +kernel, rfl⟩
theorem rX12_border_17 : tq_D cX12_border 17 (.istore 4) 2 19 := ⟨by decide +kernel, rfl⟩
theorem rX12_border_19 : tq_D cX12_border 19 (.iload 4) 2 21 := ⟨by decide +kernel, rfl⟩
theorem rX12_border_21 : tq_D cX12_border 21 (.aload_n 0) 1 22 := ⟨by decide +kernel, rfl⟩
theorem rX12_border_22 : tq_D cX12_border 22 (.getfield 148) 3 25 := ⟨by decide +kernel, rfl⟩
theorem rX12_border_25 : tq_J cX12_border 25 (.if_icmp .gt) 55 28 := ⟨30, by decide +kernel, by decide, rfl⟩
theorem rX12_border_28 : tq_D cX12_border 28 (.aload_n 0) 1 29 := ⟨by decide +kernel, rfl⟩
theorem rX12_border_29 : tq_D cX12_border 29 (.iload 4) 2 31 := ⟨by decide +kernel, rfl⟩
theorem rX12_border_31 : tq_D cX12_border 31 (.invokevirtual 357) 3 34 := ⟨by decide +kernel, rfl⟩
theorem rX12_border_34 : tq_D cX12_border 34 (.aload_n 0) 1 35 := ⟨by decide +kernel, rfl⟩
theorem rX12_border_35 : tq_D cX12_border 35 (.iload_n 3) 1 36 := ⟨by decide +kernel, rfl⟩
theorem rX12_border_36 : tq_D cX12_border 36 (.invokevirtual 357) 3 39 := ⟨by decide +kernel, rfl⟩
theorem rX12_border_39 : tq_J cX12_border 39 (.if_icmp .ge) 47 42 := ⟨8, by decide +kernel, by decide, rfl⟩
theorem rX12_border_42 : tq_D cX12_border 42 (.iload 4) 2 44 := ⟨by decide +kernel, rfl⟩
theorem rX12_border_44 : tq_J cX12_border 44 .goto 48 47 := ⟨4, by decide +kernel, by decide, rfl⟩
theorem rX12_border_47 : tq_D cX12_border 47 (.iload_n 3) 1 48 := ⟨by decide +kernel, rfl⟩
theorem rX12_border_48 : tq_D cX12_border 48 (.istore_n 3) 1 49 := ⟨by decide +kernel, rfl⟩
theorem rX12_border_49 : tq_D cX12_border 49 (.iinc 4 1) 3 52 := ⟨by decide +kernel, rfl⟩
theorem rX12_border_52 : tq_J cX12_border 52 .goto 19 55 := ⟨(-33), by decide +kernel, by decide, rfl⟩
theorem rX12_border_55 : tq_D cX12_border 55 (.iload_n 2) 1 56 := ⟨by decide +kernel, rfl⟩
theorem rX12_border_56 : tq_J cX12_border 56 (.ifCond .eq) 67 59 := ⟨11, by decide +kernel, by decide, rfl⟩
theorem rX12_border_59 : tq_D cX12_border 59 (.aload_n 0) 1 60 := ⟨by decide +kernel, rfl⟩
theorem rX12_border_60 : tq_D cX12_border 60 (.iload_n 3) 1 61 := ⟨by decide +kernel, rfl⟩
theorem rX12_border_61 : tq_D cX12_border 61 (.invokevirtual 357) 3 64 := ⟨by decide +kernel, rfl⟩
theorem rX12_border_64 : tq_J cX12_border 64 .goto 68 67 := ⟨4, by decide +kernel, by decide, rfl⟩
theorem rX12_border_67 : tq_D cX12_border 67 (.iload_n 3) 1 68 := ⟨by decide +kernel, rfl⟩
theorem rX12_border_68 : decode cX12_border 68 = .ok (.ireturn, 1) := by decide +kernel
noncomputable def FX12_border_j48L19 (I : tq_PI) (L : tq_PL) (a0 : Nat) (a2 : Int32) (a4 : Int32) (b0 : Int32) : Option ((Int32 × Int32) ⊕ (Int32)) :=
  some (.inl (b0, (a4 + 1)))
noncomputable def FX12_border_s19 (I : tq_PI) (L : tq_PL) (a0 : Nat) (a2 : Int32) (a3 : Int32) (a4 : Int32) : Option ((Int32 × Int32) ⊕ (Int32)) :=
  (if (I a0 13) < a4 then some (.inr a3) else ((FX12_apart I L a0 a4).bind fun p5 => ((FX12_apart I L a0 a3).bind fun p6 => (if p6 ≤ p5 then (FX12_border_j48L19 I L a0 a2 a4 a3) else (FX12_border_j48L19 I L a0 a2 a4 a4)))))
noncomputable def FX12_border (I : tq_PI) (L : tq_PL) (a0 : Nat) (a1 : Int32) (a2 : Int32) : Option (Int32 × tq_PI) :=
  ((FX12_isHill I L a0 a1).bind fun p1 => (if (tq_b p1.1) = 0 then some ((-1 : Int32), p1.2) else ((FX12_asTold p1.2 L a0).bind fun p3 => ((tq_it (fun p : Int32 × Int32 => FX12_border_s19 p3 L a0 a2 p.1 p.2) tq_N ((0 : Int32), (1 : Int32))).bind fun p8 => (if a2 = 0 then some (p8, p3) else ((FX12_apart p3 L a0 p8).bind fun p10 => some (p10, p3)))))))
set_option maxRecDepth 100000 in
set_option maxHeartbeats 4000000 in
theorem FX12_border_j48L19_x {S : Nat × (Nat → Int32)} {d : Nat} {I : tq_PI} {L : tq_PL} {a0 : Nat} {a2 : Int32} {a4 : Int32} {b0 : Int32} (h0 : tq_sh0 a0 = 12) {q0 : Option Value → tq_PI → tq_PL → Prop} {out : (Int32 × Int32) ⊕ (Int32)} (hf : FX12_border_j48L19 I L a0 a2 a4 b0 = some out) (hk : Sum.elim (fun p : Int32 × Int32 => tq_X S mX12_border (d + 3) tq_k0 19 ([.ref a0, tq_u, .int a2, .int p.1, .int p.2]) [] (tq_st I L) (tq_Q q0)) (fun p : Int32 => tq_X S mX12_border (d + 3) tq_k0 55 ([.ref a0, tq_u, .int a2, .int p, tq_u]) [] (tq_st I L) (tq_Q q0)) out) : tq_X S mX12_border (d + 3) tq_k0 48 ([.ref a0, tq_u, .int a2, tq_u, .int a4]) ([.int b0]) (tq_st I L) (tq_Q q0) := by
  unfold FX12_border_j48L19 at hf
  refine tq_istore_n ([.ref a0, tq_u, .int a2, .int b0, .int a4]) rX12_border_48 (Nat.le_of_ble_eq_true rfl) rfl ?_
  refine tq_iinc (a4 + 1) ([.ref a0, tq_u, .int a2, .int b0, .int (a4 + 1)]) rX12_border_49 rfl (tq_inc (by decide)) (Nat.le_of_ble_eq_true rfl) rfl ?_
  refine tq_goto rX12_border_52 ?_
  have hf := Option.some.inj hf
  subst hf
  exact tq_forget _ (tq_le_s (tq_le_u (tq_le_s (tq_le_s (tq_le_s tq_le_n))))) hk

set_option maxRecDepth 100000 in
set_option maxHeartbeats 4000000 in
theorem FX12_border_s19_x {S : Nat × (Nat → Int32)} {d : Nat} {I : tq_PI} {L : tq_PL} {a0 : Nat} {a2 : Int32} {a3 : Int32} {a4 : Int32} (h0 : tq_sh0 a0 = 12) {q0 : Option Value → tq_PI → tq_PL → Prop} {out : (Int32 × Int32) ⊕ (Int32)} (hf : FX12_border_s19 I L a0 a2 a3 a4 = some out) (hk : Sum.elim (fun p : Int32 × Int32 => tq_X S mX12_border (d + 3) tq_k0 19 ([.ref a0, tq_u, .int a2, .int p.1, .int p.2]) [] (tq_st I L) (tq_Q q0)) (fun p : Int32 => tq_X S mX12_border (d + 3) tq_k0 55 ([.ref a0, tq_u, .int a2, .int p, tq_u]) [] (tq_st I L) (tq_Q q0)) out) : tq_X S mX12_border (d + 3) tq_k0 19 ([.ref a0, tq_u, .int a2, .int a3, .int a4]) [] (tq_st I L) (tq_Q q0) := by
  unfold FX12_border_s19 at hf
  refine tq_iload rX12_border_19 rfl ?_
  refine tq_aload_n rX12_border_21 rfl ?_
  refine ty_getI rX12_border_22 f_X12_148 rfl h0 ?_
  refine tq_icmp_gt rX12_border_25 (fun c4 => ?_) (fun c4 => ?_)
  · rw [if_pos c4] at hf
    have hf := Option.some.inj hf
    subst hf
    exact tq_forget _ (tq_le_s (tq_le_u (tq_le_s (tq_le_s (tq_le_u tq_le_n))))) hk
  · rw [if_neg c4] at hf
    refine tq_aload_n rX12_border_28 rfl ?_
    refine tq_iload rX12_border_29 rfl ?_
    obtain ⟨p5, e5, hf⟩ := Option.bind_eq_some_iff.mp hf
    refine ty_callVI p5 ([.int a4]) ([]) rX12_border_31 l_X12_357 moX12_apart mvX12_apart h0 rfl rfl (Nat.le_of_ble_eq_true rfl) ⟨rfl, rfl⟩ (CX12_apart h0 e5) ?_
    refine tq_aload_n rX12_border_34 rfl ?_
    refine tq_iload_n rX12_border_35 rfl ?_
    obtain ⟨p6, e6, hf⟩ := Option.bind_eq_some_iff.mp hf
    refine ty_callVI p6 ([.int a3]) ([.int p5]) rX12_border_36 l_X12_357 moX12_apart mvX12_apart h0 rfl rfl (Nat.le_of_ble_eq_true rfl) ⟨rfl, rfl⟩ (CX12_apart h0 e6) ?_
    refine tq_icmp_ge rX12_border_39 (fun c7 => ?_) (fun c7 => ?_)
    · rw [if_pos c7] at hf
      refine tq_iload_n rX12_border_47 rfl ?_
      exact tq_forget _ (tq_le_s (tq_le_u (tq_le_s (tq_le_u (tq_le_s tq_le_n))))) (FX12_border_j48L19_x  h0 hf hk)
    · rw [if_neg c7] at hf
      refine tq_iload rX12_border_42 rfl ?_
      refine tq_goto rX12_border_44 ?_
      exact tq_forget _ (tq_le_s (tq_le_u (tq_le_s (tq_le_u (tq_le_s tq_le_n))))) (FX12_border_j48L19_x  h0 hf hk)

set_option maxRecDepth 100000 in
set_option maxHeartbeats 4000000 in
theorem CX12_border {S : Nat × (Nat → Int32)} {d : Nat} {I : tq_PI} {L : tq_PL} {a0 : Nat} {a1 : Int32} {a2 : Int32} (h0 : tq_sh0 a0 = 12) {out : Int32 × tq_PI} (hf : FX12_border I L a0 a1 a2 = some out) : tq_K S mX12_border (d + 3) [.ref a0, .int a1, .int a2] I L (tq_one2 (some (.int out.1)) out.2 L) := by
  unfold FX12_border at hf
  refine tq_K_of (by decide) (Nat.le_of_ble_eq_true rfl) (ls := [.ref a0, .int a1, .int a2, tq_u, tq_u]) rfl ?_
  refine tq_aload_n rX12_border_0 rfl ?_
  refine tq_iload_n rX12_border_1 rfl ?_
  obtain ⟨p1, e1, hf⟩ := Option.bind_eq_some_iff.mp hf
  refine ty_callVI (tq_b p1.1) ([.int a1]) ([]) rX12_border_2 l_X12_221 moX12_isHill mvX12_isHill h0 rfl rfl (Nat.le_of_ble_eq_true rfl) ⟨rfl, rfl⟩ (CX12_isHill h0 e1) ?_
  refine tq_if_ne rX12_border_5 (fun c2 => ?_) (fun c2 => ?_)
  · rw [if_neg c2] at hf
    refine tq_aload_n rX12_border_10 rfl ?_
    obtain ⟨p3, e3, hf⟩ := Option.bind_eq_some_iff.mp hf
    refine ty_callVV ([]) ([]) rX12_border_11 l_X12_224 moX12_asTold mvX12_asTold h0 rfl rfl (Nat.le_of_ble_eq_true rfl) ⟨rfl, rfl⟩ (CX12_asTold h0 e3) ?_
    refine tq_iconst (0 : Int32) rX12_border_14 (by decide) ?_
    refine tq_istore_n ([.ref a0, .int a1, .int a2, .int (0 : Int32), tq_u]) rX12_border_15 (Nat.le_of_ble_eq_true rfl) rfl ?_
    refine tq_iconst (1 : Int32) rX12_border_16 (by decide) ?_
    refine tq_istore ([.ref a0, .int a1, .int a2, .int (0 : Int32), .int (1 : Int32)]) rX12_border_17 (Nat.le_of_ble_eq_true rfl) rfl ?_
    obtain ⟨p8, e8, hf⟩ := Option.bind_eq_some_iff.mp hf
    refine tq_forget _ (tq_le_s (tq_le_u (tq_le_s (tq_le_s (tq_le_s tq_le_n))))) ?_
    refine tq_it_elim (P := fun p : Int32 × Int32 => tq_X S mX12_border (d + 3) tq_k0 19 ([.ref a0, tq_u, .int a2, .int p.1, .int p.2]) [] (tq_st p3 L) (tq_Q (tq_one2 (some (.int out.1)) out.2 L))) (R := fun p : Int32 => tq_X S mX12_border (d + 3) tq_k0 55 ([.ref a0, tq_u, .int a2, .int p, tq_u]) [] (tq_st p3 L) (tq_Q (tq_one2 (some (.int out.1)) out.2 L))) (fun p o hp hk => FX12_border_s19_x  h0 hp hk) _ (((0 : Int32), (1 : Int32))) _ e8 ?_
    show tq_X _ _ _ _ _ _ _ _ _
    refine tq_iload_n rX12_border_55 rfl ?_
    refine tq_if_eq rX12_border_56 (fun c9 => ?_) (fun c9 => ?_)
    · rw [if_pos c9] at hf
      refine tq_iload_n rX12_border_67 rfl ?_
      refine ty_iret rX12_border_68 rfl rfl ?_
      have hf := Option.some.inj hf
      subst hf
      exact ⟨rfl, rfl, rfl⟩
    · rw [if_neg c9] at hf
      refine tq_aload_n rX12_border_59 rfl ?_
      refine tq_iload_n rX12_border_60 rfl ?_
      obtain ⟨p10, e10, hf⟩ := Option.bind_eq_some_iff.mp hf
      refine ty_callVI p10 ([.int p8]) ([]) rX12_border_61 l_X12_357 moX12_apart mvX12_apart h0 rfl rfl (Nat.le_of_ble_eq_true rfl) ⟨rfl, rfl⟩ (CX12_apart h0 e10) ?_
      refine tq_goto rX12_border_64 ?_
      refine ty_iret rX12_border_68 rfl rfl ?_
      have hf := Option.some.inj hf
      subst hf
      exact ⟨rfl, rfl, rfl⟩
  · rw [if_pos c2] at hf
    refine tq_iconst (-1 : Int32) rX12_border_8 (by decide) ?_
    refine ty_iret rX12_border_9 rfl rfl ?_
    have hf := Option.some.inj hf
    subst hf
    exact ⟨rfl, rfl, rfl⟩

abbrev mX12_holds : tq_M := (yX12_holds, cX12_holds, 4, (Option.some Jvm.ClassFile.FieldType.boolean), 0, 0)
theorem rX12_holds_0 : tq_D cX12_holds 0 (.aload_n 0) 1 1 := ⟨by decide +kernel, rfl⟩
theorem rX12_holds_1 : tq_D cX12_holds 1 (.invokevirtual 224) 3 4 := ⟨by decide +kernel, rfl⟩
theorem rX12_holds_4 : tq_D cX12_holds 4 (.iload_n 2) 1 5 := ⟨by decide +kernel, rfl⟩
theorem rX12_holds_5 : tq_D cX12_holds 5 (.iload_n 1) 1 6 := ⟨by decide +kernel, rfl⟩
theorem rX12_holds_6 : tq_J cX12_holds 6 (.if_icmp .eq) 16 9 := ⟨10, by decide +kernel, by decide, rfl⟩
theorem rX12_holds_9 : tq_D cX12_holds 9 (.aload_n 0) 1 10 := ⟨by decide +kernel, rfl⟩
theorem rX12_holds_10 : tq_D cX12_holds 10 (.getfield 20) 3 13 := ⟨by decide +kernel, rfl⟩
theorem rX12_holds_13 : tq_D cX12_holds 13 (.iload_n 2) 1 14 := ⟨by decide +kernel, rfl⟩
theorem rX12_holds_14 : tq_D cX12_holds 14 (.iconst 4) 1 15 := ⟨by decide +kernel, rfl⟩
theorem rX12_holds_15 : tq_D cX12_holds 15 (.iastore) 1 16 := ⟨by decide +kernel, rfl⟩
theorem rX12_holds_16 : tq_D cX12_holds 16 (.iload_n 3) 1 17 := ⟨by decide +kernel, rfl⟩
theorem rX12_holds_17 : tq_D cX12_holds 17 (.iload_n 1) 1 18 := ⟨by decide +kernel, rfl⟩
theorem rX12_holds_18 : tq_J cX12_holds 18 (.if_icmp .eq) 28 21 := ⟨10, by decide +kernel, by decide, rfl⟩
theorem rX12_holds_21 : tq_D cX12_holds 21 (.aload_n 0) 1 22 := ⟨by decide +kernel, rfl⟩
theorem rX12_holds_22 : tq_D cX12_holds 22 (.getfield 20) 3 25 := ⟨by decide +kernel, rfl⟩
theorem rX12_holds_25 : tq_D cX12_holds 25 (.iload_n 3) 1 26 := ⟨by decide +kernel, rfl⟩
theorem rX12_holds_26 : tq_D cX12_holds 26 (.iconst 4) 1 27 := ⟨by decide +kernel, rfl⟩
theorem rX12_holds_27 : tq_D cX12_holds 27 (.iastore) 1 28 := ⟨by decide +kernel, rfl⟩
theorem rX12_holds_28 : tq_D cX12_holds 28 (.aload_n 0) 1 29 := ⟨by decide +kernel, rfl⟩
theorem rX12_holds_29 : tq_D cX12_holds 29 (.iconst 0) 1 30 := ⟨by decide +kernel, rfl⟩
theorem rX12_holds_30 : tq_D cX12_holds 30 (.iload_n 1) 1 31 := ⟨by decide +kernel, rfl⟩
theorem rX12_holds_31 : tq_D cX12_holds 31 (.invokevirtual 301) 3 34 := ⟨by decide +kernel, rfl⟩
theorem rX12_holds_34 : tq_J cX12_holds 34 (.ifCond .ne) 41 37 := ⟨7, by decide +kernel, by decide, rfl⟩
theorem rX12_holds_37 : tq_D cX12_holds 37 (.iconst 1) 1 38 := ⟨by decide +kernel, rfl⟩
theorem rX12_holds_38 : tq_J cX12_holds 38 .goto 42 41 := ⟨4, by decide +kernel, by decide, rfl⟩
theorem rX12_holds_41 : tq_D cX12_holds 41 (.iconst 0) 1 42 := ⟨by decide +kernel, rfl⟩
theorem rX12_holds_42 : decode cX12_holds 42 = .ok (.ireturn, 1) := by decide +kernel
noncomputable def FX12_holds_j28 (I : tq_PI) (L : tq_PL) (a0 : Nat) (a1 : Int32) : Option (Bool × tq_PI) :=
  ((FX12_taken I L a0 ((0 : Int32)) a1).bind fun p4 => (if p4.1 = 0 then some (true, p4.2) else some (false, p4.2)))
noncomputable def FX12_holds_j16 (I : tq_PI) (L : tq_PL) (a0 : Nat) (a1 : Int32) (a3 : Int32) : Option (Bool × tq_PI) :=
  (if a3 = a1 then (FX12_holds_j28 I L a0 a1) else (if 0 ≤ a3 ∧ a3 < 192 then (FX12_holds_j28 ((tq_up2 I (tq_rg a0 15) a3.toNatClampNeg (4 : Int32))) L a0 a1) else none))
noncomputable def FX12_holds (I : tq_PI) (L : tq_PL) (a0 : Nat) (a1 : Int32) (a2 : Int32) (a3 : Int32) : Option (Bool × tq_PI) :=
  ((FX12_asTold I L a0).bind fun p1 => (if a2 = a1 then (FX12_holds_j16 p1 L a0 a1 a3) else (if 0 ≤ a2 ∧ a2 < 192 then (FX12_holds_j16 ((tq_up2 p1 (tq_rg a0 15) a2.toNatClampNeg (4 : Int32))) L a0 a1 a3) else none)))
set_option maxRecDepth 100000 in
set_option maxHeartbeats 4000000 in
theorem FX12_holds_j28_x {S : Nat × (Nat → Int32)} {d : Nat} {I : tq_PI} {L : tq_PL} {a0 : Nat} {a1 : Int32} (h0 : tq_sh0 a0 = 12) {q0 : Option Value → tq_PI → tq_PL → Prop} {out : Bool × tq_PI} (hf : FX12_holds_j28 I L a0 a1 = some out) (hk : q0 (some (.int (tq_b out.1))) out.2 L) : tq_X S mX12_holds (d + 5) tq_k0 28 ([.ref a0, .int a1, tq_u, tq_u]) ([]) (tq_st I L) (tq_Q q0) := by
  unfold FX12_holds_j28 at hf
  refine tq_aload_n rX12_holds_28 rfl ?_
  refine tq_iconst (0 : Int32) rX12_holds_29 (by decide) ?_
  refine tq_iload_n rX12_holds_30 rfl ?_
  obtain ⟨p4, e4, hf⟩ := Option.bind_eq_some_iff.mp hf
  refine ty_callVI p4.1 ([.int (0 : Int32), .int a1]) ([]) rX12_holds_31 l_X12_301 moX12_taken mvX12_taken h0 rfl rfl (Nat.le_of_ble_eq_true rfl) ⟨rfl, rfl⟩ (CX12_taken h0 e4) ?_
  refine tq_if_ne rX12_holds_34 (fun c5 => ?_) (fun c5 => ?_)
  · rw [if_neg c5] at hf
    refine tq_iconst (0 : Int32) rX12_holds_41 (by decide) ?_
    refine ty_zret (ty := .boolean) rX12_holds_42 rfl rfl rfl ?_
    have hf := Option.some.inj hf
    subst hf
    exact hk
  · rw [if_pos c5] at hf
    refine tq_iconst (1 : Int32) rX12_holds_37 (by decide) ?_
    refine tq_goto rX12_holds_38 ?_
    refine ty_zret (ty := .boolean) rX12_holds_42 rfl rfl rfl ?_
    have hf := Option.some.inj hf
    subst hf
    exact hk

set_option maxRecDepth 100000 in
set_option maxHeartbeats 4000000 in
theorem FX12_holds_j16_x {S : Nat × (Nat → Int32)} {d : Nat} {I : tq_PI} {L : tq_PL} {a0 : Nat} {a1 : Int32} {a3 : Int32} (h0 : tq_sh0 a0 = 12) {q0 : Option Value → tq_PI → tq_PL → Prop} {out : Bool × tq_PI} (hf : FX12_holds_j16 I L a0 a1 a3 = some out) (hk : q0 (some (.int (tq_b out.1))) out.2 L) : tq_X S mX12_holds (d + 5) tq_k0 16 ([.ref a0, .int a1, tq_u, .int a3]) ([]) (tq_st I L) (tq_Q q0) := by
  unfold FX12_holds_j16 at hf
  refine tq_iload_n rX12_holds_16 rfl ?_
  refine tq_iload_n rX12_holds_17 rfl ?_
  refine tq_icmp_eq rX12_holds_18 (fun c3 => ?_) (fun c3 => ?_)
  · rw [if_pos c3] at hf
    exact tq_forget _ (tq_le_s (tq_le_s (tq_le_u (tq_le_u tq_le_n)))) (FX12_holds_j28_x  h0 hf hk)
  · rw [if_neg c3] at hf
    refine tq_aload_n rX12_holds_21 rfl ?_
    refine ty_getR rX12_holds_22 f_X12_20 rfl h0 (hp_12_15 h0).1 ?_
    refine tq_iload_n rX12_holds_25 rfl ?_
    refine tq_iconst (4 : Int32) rX12_holds_26 (by decide) ?_
    obtain ⟨g6, hf⟩ := tq_chk hf
    refine ty_iast (v := 192) rX12_holds_27 (hp_12_15 h0).2.1 (hp_12_15 h0).2.2 rfl (by decide) g6 ?_
    exact tq_forget _ (tq_le_s (tq_le_s (tq_le_u (tq_le_u tq_le_n)))) (FX12_holds_j28_x  h0 hf hk)

set_option maxRecDepth 100000 in
set_option maxHeartbeats 4000000 in
theorem CX12_holds {S : Nat × (Nat → Int32)} {d : Nat} {I : tq_PI} {L : tq_PL} {a0 : Nat} {a1 : Int32} {a2 : Int32} {a3 : Int32} (h0 : tq_sh0 a0 = 12) {out : Bool × tq_PI} (hf : FX12_holds I L a0 a1 a2 a3 = some out) : tq_K S mX12_holds (d + 5) [.ref a0, .int a1, .int a2, .int a3] I L (tq_one2 (some (.int (tq_b out.1))) out.2 L) := by
  unfold FX12_holds at hf
  refine tq_K_of (by decide) (Nat.le_of_ble_eq_true rfl) (ls := [.ref a0, .int a1, .int a2, .int a3]) rfl ?_
  refine tq_aload_n rX12_holds_0 rfl ?_
  obtain ⟨p1, e1, hf⟩ := Option.bind_eq_some_iff.mp hf
  refine ty_callVV ([]) ([]) rX12_holds_1 l_X12_224 moX12_asTold mvX12_asTold h0 rfl rfl (Nat.le_of_ble_eq_true rfl) ⟨rfl, rfl⟩ (CX12_asTold h0 e1) ?_
  refine tq_iload_n rX12_holds_4 rfl ?_
  refine tq_iload_n rX12_holds_5 rfl ?_
  refine tq_icmp_eq rX12_holds_6 (fun c2 => ?_) (fun c2 => ?_)
  · rw [if_pos c2] at hf
    exact tq_forget _ (tq_le_s (tq_le_s (tq_le_u (tq_le_s tq_le_n)))) (FX12_holds_j16_x  h0 hf ⟨rfl, rfl, rfl⟩)
  · rw [if_neg c2] at hf
    refine tq_aload_n rX12_holds_9 rfl ?_
    refine ty_getR rX12_holds_10 f_X12_20 rfl h0 (hp_12_15 h0).1 ?_
    refine tq_iload_n rX12_holds_13 rfl ?_
    refine tq_iconst (4 : Int32) rX12_holds_14 (by decide) ?_
    obtain ⟨g7, hf⟩ := tq_chk hf
    refine ty_iast (v := 192) rX12_holds_15 (hp_12_15 h0).2.1 (hp_12_15 h0).2.2 rfl (by decide) g7 ?_
    exact tq_forget _ (tq_le_s (tq_le_s (tq_le_u (tq_le_s tq_le_n)))) (FX12_holds_j16_x  h0 hf ⟨rfl, rfl, rfl⟩)

