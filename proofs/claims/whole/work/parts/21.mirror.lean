/-! THE MIRROR, part 1: by program (wip/whole/gen_mirror.py). -/
abbrev mX2_sureStrength : tq_M := (yX2_sureStrength, cX2_sureStrength, 3, (Option.some Jvm.ClassFile.FieldType.int), 0, 0)
theorem rX2_sureStrength_0 : tq_D cX2_sureStrength 0 (.iconst (-1)) 1 1 := ⟨by decide +kernel, rfl⟩
theorem rX2_sureStrength_1 : tq_D cX2_sureStrength 1 (.istore_n 1) 1 2 := ⟨by decide +kernel, rfl⟩
theorem rX2_sureStrength_2 : tq_D cX2_sureStrength 2 (.iconst 1) 1 3 := ⟨by decide +kernel, rfl⟩
theorem rX2_sureStrength_3 : tq_D cX2_sureStrength 3 (.istore_n 2) 1 4 := ⟨by decide +kernel, rfl⟩
theorem rX2_sureStrength_4 : tq_D cX2_sureStrength 4 (.iload_n 2) 1 5 := ⟨by decide +kernel, rfl⟩
theorem rX2_sureStrength_5 : tq_D cX2_sureStrength 5 (.aload_n 0) 1 6 := ⟨by decide +kernel, rfl⟩
theorem rX2_sureStrength_6 : tq_D cX2_sureStrength 6 (.getfield 9) 3 9 := ⟨by decide +kernel, rfl⟩
theorem rX2_sureStrength_9 : tq_D cX2_sureStrength 9 (.arraylength) 1 10 := ⟨by decide +kernel, rfl⟩
theorem rX2_sureStrength_10 : tq_J cX2_sureStrength 10 (.if_icmp .ge) 39 13 := ⟨29, by decide +kernel, by decide, rfl⟩
theorem rX2_sureStrength_13 : tq_D cX2_sureStrength 13 (.aload_n 0) 1 14 := ⟨by decide +kernel, rfl⟩
theorem rX2_sureStrength_14 : tq_D cX2_sureStrength 14 (.getfield 9) 3 17 := ⟨by decide +kernel, rfl⟩
theorem rX2_sureStrength_17 : tq_D cX2_sureStrength 17 (.iload_n 2) 1 18 := ⟨by decide +kernel, rfl⟩
theorem rX2_sureStrength_18 : tq_D cX2_sureStrength 18 (.laload) 1 19 := ⟨by decide +kernel, rfl⟩
theorem rX2_sureStrength_19 : tq_D cX2_sureStrength 19 (.lconst 0) 1 20 := ⟨by decide +kernel, rfl⟩
theorem rX2_sureStrength_20 : tq_D cX2_sureStrength 20 (.lcmp) 1 21 := ⟨by decide +kernel, rfl⟩
theorem rX2_sureStrength_21 : tq_J cX2_sureStrength 21 (.ifCond .eq) 33 24 := ⟨12, by decide +kernel, by decide, rfl⟩
theorem rX2_sureStrength_24 : tq_D cX2_sureStrength 24 (.iload_n 1) 1 25 := ⟨by decide +kernel, rfl⟩
theorem rX2_sureStrength_25 : tq_D cX2_sureStrength 25 (.iconst (-1)) 1 26 := ⟨by decide +kernel, rfl⟩
theorem rX2_sureStrength_26 : tq_J cX2_sureStrength 26 (.if_icmp .eq) 31 29 := ⟨5, by decide +kernel, by decide, rfl⟩
theorem rX2_sureStrength_29 : tq_D cX2_sureStrength 29 (.iconst (-1)) 1 30 := ⟨by decide +kernel, rfl⟩
theorem rX2_sureStrength_30 : decode cX2_sureStrength 30 = .ok (.ireturn, 1) := by decide +kernel
theorem rX2_sureStrength_31 : tq_D cX2_sureStrength 31 (.iload_n 2) 1 32 := ⟨by decide +kernel, rfl⟩
theorem rX2_sureStrength_32 : tq_D cX2_sureStrength 32 (.istore_n 1) 1 33 := ⟨by decide +kernel, rfl⟩
theorem rX2_sureStrength_33 : tq_D cX2_sureStrength 33 (.iinc 2 1) 3 36 := ⟨by decide +kernel, rfl⟩
theorem rX2_sureStrength_36 : tq_J cX2_sureStrength 36 .goto 4 39 := ⟨(-32), by decide +kernel, by decide, rfl⟩
theorem rX2_sureStrength_39 : tq_D cX2_sureStrength 39 (.iload_n 1) 1 40 := ⟨by decide +kernel, rfl⟩
theorem rX2_sureStrength_40 : decode cX2_sureStrength 40 = .ok (.ireturn, 1) := by decide +kernel
noncomputable def FX2_sureStrength_j33L4 (I : tq_PI) (L : tq_PL) (a0 : Nat) (a1 : Int32) (a2 : Int32) : Option ((Int32 × Int32) ⊕ ((Int32) ⊕ (Int32))) :=
  some (.inl (a1, (a2 + 1)))
noncomputable def FX2_sureStrength_s4 (I : tq_PI) (L : tq_PL) (a0 : Nat) (a1 : Int32) (a2 : Int32) : Option ((Int32 × Int32) ⊕ ((Int32) ⊕ (Int32))) :=
  (if (10 : Int32) ≤ a2 then some (.inr (.inl a1)) else (if 0 ≤ a2 ∧ a2 < 10 then (if (lg_cmp (L (tq_rg a0 0) a2.toNatClampNeg) (0 : Int64)) = 0 then (FX2_sureStrength_j33L4 I L a0 a1 a2) else (if a1 = (-1 : Int32) then (FX2_sureStrength_j33L4 I L a0 a2 a2) else some (.inr (.inr (-1 : Int32))))) else none))
noncomputable def FX2_sureStrength (I : tq_PI) (L : tq_PL) (a0 : Nat) : Option (Int32) :=
  ((tq_it (fun p : Int32 × Int32 => FX2_sureStrength_s4 I L a0 p.1 p.2) tq_N ((-1 : Int32), (1 : Int32))).bind fun p5 => p5.elim (fun t6 => some t6) (fun t6 => some t6))
set_option maxRecDepth 100000 in
set_option maxHeartbeats 4000000 in
theorem FX2_sureStrength_j33L4_x {S : Nat × (Nat → Int32)} {d : Nat} {I : tq_PI} {L : tq_PL} {a0 : Nat} {a1 : Int32} {a2 : Int32} (h0 : tq_sh0 a0 = 2) {q0 : Option Value → tq_PI → tq_PL → Prop} {out : (Int32 × Int32) ⊕ ((Int32) ⊕ (Int32))} (hf : FX2_sureStrength_j33L4 I L a0 a1 a2 = some out) (hk : Sum.elim (fun p : Int32 × Int32 => tq_X S mX2_sureStrength d tq_k0 4 ([.ref a0, .int p.1, .int p.2]) [] (tq_st I L) (tq_Q q0)) (Sum.elim (fun p : Int32 => tq_X S mX2_sureStrength d tq_k0 39 ([tq_u, .int p, tq_u]) [] (tq_st I L) (tq_Q q0)) (fun p : Int32 => q0 (some (.int p)) I L)) out) : tq_X S mX2_sureStrength d tq_k0 33 ([.ref a0, .int a1, .int a2]) ([]) (tq_st I L) (tq_Q q0) := by
  unfold FX2_sureStrength_j33L4 at hf
  refine tq_iinc (a2 + 1) ([.ref a0, .int a1, .int (a2 + 1)]) rX2_sureStrength_33 rfl (tq_inc (by decide)) (Nat.le_of_ble_eq_true rfl) rfl ?_
  refine tq_goto rX2_sureStrength_36 ?_
  have hf := Option.some.inj hf
  subst hf
  exact tq_forget _ (tq_le_s (tq_le_s (tq_le_s tq_le_n))) hk

set_option maxRecDepth 100000 in
set_option maxHeartbeats 4000000 in
theorem FX2_sureStrength_s4_x {S : Nat × (Nat → Int32)} {d : Nat} {I : tq_PI} {L : tq_PL} {a0 : Nat} {a1 : Int32} {a2 : Int32} (h0 : tq_sh0 a0 = 2) {q0 : Option Value → tq_PI → tq_PL → Prop} {out : (Int32 × Int32) ⊕ ((Int32) ⊕ (Int32))} (hf : FX2_sureStrength_s4 I L a0 a1 a2 = some out) (hk : Sum.elim (fun p : Int32 × Int32 => tq_X S mX2_sureStrength d tq_k0 4 ([.ref a0, .int p.1, .int p.2]) [] (tq_st I L) (tq_Q q0)) (Sum.elim (fun p : Int32 => tq_X S mX2_sureStrength d tq_k0 39 ([tq_u, .int p, tq_u]) [] (tq_st I L) (tq_Q q0)) (fun p : Int32 => q0 (some (.int p)) I L)) out) : tq_X S mX2_sureStrength d tq_k0 4 ([.ref a0, .int a1, .int a2]) [] (tq_st I L) (tq_Q q0) := by
  unfold FX2_sureStrength_s4 at hf
  refine tq_iload_n rX2_sureStrength_4 rfl ?_
  refine tq_aload_n rX2_sureStrength_5 rfl ?_
  refine ty_getR rX2_sureStrength_6 f_X2_9 rfl h0 (hp_2_0 h0).1 ?_
  refine ty_alen (v := 10) rX2_sureStrength_9 (hp_2_0 h0).2.1 (by decide) (hp_2_0 h0).2.2 rfl ?_
  refine tq_icmp_ge rX2_sureStrength_10 (fun c1 => ?_) (fun c1 => ?_)
  · rw [if_pos c1] at hf
    have hf := Option.some.inj hf
    subst hf
    exact tq_forget _ (tq_le_u (tq_le_s (tq_le_u tq_le_n))) hk
  · rw [if_neg c1] at hf
    refine tq_aload_n rX2_sureStrength_13 rfl ?_
    refine ty_getR rX2_sureStrength_14 f_X2_9 rfl h0 (hp_2_0 h0).1 ?_
    refine tq_iload_n rX2_sureStrength_17 rfl ?_
    obtain ⟨g2, hf⟩ := tq_chk hf
    refine ty_lald (v := 10) rX2_sureStrength_18 (hp_2_0 h0).2.1 (hp_2_0 h0).2.2 rfl (by decide) g2 ?_
    refine tq_lconst (0 : Int64) rX2_sureStrength_19 (by decide) ?_
    refine tq_lcmp rX2_sureStrength_20 ?_
    refine tq_if_eq rX2_sureStrength_21 (fun c3 => ?_) (fun c3 => ?_)
    · rw [if_pos c3] at hf
      exact tq_forget _ (tq_le_s (tq_le_s (tq_le_s tq_le_n))) (FX2_sureStrength_j33L4_x  h0 hf hk)
    · rw [if_neg c3] at hf
      refine tq_iload_n rX2_sureStrength_24 rfl ?_
      refine tq_iconst (-1 : Int32) rX2_sureStrength_25 (by decide) ?_
      refine tq_icmp_eq rX2_sureStrength_26 (fun c4 => ?_) (fun c4 => ?_)
      · rw [if_pos c4] at hf
        refine tq_iload_n rX2_sureStrength_31 rfl ?_
        refine tq_istore_n ([.ref a0, .int a2, .int a2]) rX2_sureStrength_32 (Nat.le_of_ble_eq_true rfl) rfl ?_
        exact tq_forget _ (tq_le_s (tq_le_s (tq_le_s tq_le_n))) (FX2_sureStrength_j33L4_x  h0 hf hk)
      · rw [if_neg c4] at hf
        refine tq_iconst (-1 : Int32) rX2_sureStrength_29 (by decide) ?_
        refine ty_iret rX2_sureStrength_30 rfl rfl ?_
        have hf := Option.some.inj hf
        subst hf
        exact hk

set_option maxRecDepth 100000 in
set_option maxHeartbeats 4000000 in
theorem CX2_sureStrength {S : Nat × (Nat → Int32)} {d : Nat} {I : tq_PI} {L : tq_PL} {a0 : Nat} (h0 : tq_sh0 a0 = 2) {out : Int32} (hf : FX2_sureStrength I L a0 = some out) : tq_K S mX2_sureStrength d [.ref a0] I L (tq_one2 (some (.int out)) I L) := by
  unfold FX2_sureStrength at hf
  refine tq_K_of (by decide) (Nat.le_of_ble_eq_true rfl) (ls := [.ref a0, tq_u, tq_u]) rfl ?_
  refine tq_iconst (-1 : Int32) rX2_sureStrength_0 (by decide) ?_
  refine tq_istore_n ([.ref a0, .int (-1 : Int32), tq_u]) rX2_sureStrength_1 (Nat.le_of_ble_eq_true rfl) rfl ?_
  refine tq_iconst (1 : Int32) rX2_sureStrength_2 (by decide) ?_
  refine tq_istore_n ([.ref a0, .int (-1 : Int32), .int (1 : Int32)]) rX2_sureStrength_3 (Nat.le_of_ble_eq_true rfl) rfl ?_
  obtain ⟨p5, e5, hf⟩ := Option.bind_eq_some_iff.mp hf
  refine tq_forget _ (tq_le_s (tq_le_s (tq_le_s tq_le_n))) ?_
  refine tq_it_elim (P := fun p : Int32 × Int32 => tq_X S mX2_sureStrength d tq_k0 4 ([.ref a0, .int p.1, .int p.2]) [] (tq_st I L) (tq_Q (tq_one2 (some (.int out)) I L))) (R := Sum.elim (fun p : Int32 => tq_X S mX2_sureStrength d tq_k0 39 ([tq_u, .int p, tq_u]) [] (tq_st I L) (tq_Q (tq_one2 (some (.int out)) I L))) (fun p : Int32 => (tq_one2 (some (.int out)) I L) (some (.int p)) I L)) (fun p o hp hk => FX2_sureStrength_s4_x  h0 hp hk) _ (((-1 : Int32), (1 : Int32))) _ e5 ?_
  rcases tq_selim hf with ⟨t6, t6q, hf⟩ | ⟨t6, t6q, hf⟩
  · rw [t6q]
    show tq_X _ _ _ _ _ _ _ _ _
    refine tq_iload_n rX2_sureStrength_39 rfl ?_
    refine ty_iret rX2_sureStrength_40 rfl rfl ?_
    have hf := Option.some.inj hf
    subst hf
    exact ⟨rfl, rfl, rfl⟩
  · rw [t6q]
    have hf := Option.some.inj hf
    subst hf
    exact ⟨rfl, rfl, rfl⟩

abbrev mX2_listenAt : tq_M := (yX2_listenAt, cX2_listenAt, 9, (Option.none : Option Jvm.ClassFile.FieldType), 0, 0)
theorem f_X2_15 : tq_fok RX2 15 2 1 := ⟨by decide, by decide, Or.inl (tq_sg2 _ (List.mem_of_getElem? (i := 102) rfl))⟩
theorem n_X2_68 : Cond.methodLink RX2 68 Lib.Math.max.name ∈ lw_tbl ∧ Cond.static Lib.Math.max.name ∈ lw_tbl ∧ Cond.initialized "java/lang/Math" ∈ lw_tbl ∧ Cond.code Lib.Math.max.name Lib.Math.max.code 2 (some .int) ∈ lw_tbl := ⟨tq_sg5 _ (List.mem_of_getElem? (i := 85) rfl), tq_sg2 _ (List.mem_of_getElem? (i := 180) rfl), tq_sg1 _ (List.mem_of_getElem? (i := 14) rfl), tq_sg2 _ (List.mem_of_getElem? (i := 181) rfl)⟩
theorem rX2_listenAt_0 : tq_D cX2_listenAt 0 (.iconst 0) 1 1 := ⟨by decide +kernel, rfl⟩
theorem rX2_listenAt_1 : tq_D cX2_listenAt 1 (.istore_n 2) 1 2 := ⟨by decide +kernel, rfl⟩
theorem rX2_listenAt_2 : tq_D cX2_listenAt 2 (.iload_n 2) 1 3 := ⟨by decide +kernel, rfl⟩
theorem rX2_listenAt_3 : tq_D cX2_listenAt 3 (.aload_n 0) 1 4 := ⟨by decide +kernel, rfl⟩
theorem rX2_listenAt_4 : tq_D cX2_listenAt 4 (.getfield 15) 3 7 := ⟨by decide +kernel, rfl⟩
theorem rX2_listenAt_7 : tq_D cX2_listenAt 7 (.arraylength) 1 8 := ⟨by decide +kernel, rfl⟩
theorem rX2_listenAt_8 : tq_J cX2_listenAt 8 (.if_icmp .ge) 24 11 := ⟨16, by decide +kernel, by decide, rfl⟩
theorem rX2_listenAt_11 : tq_D cX2_listenAt 11 (.aload_n 0) 1 12 := ⟨by decide +kernel, rfl⟩
theorem rX2_listenAt_12 : tq_D cX2_listenAt 12 (.getfield 15) 3 15 := ⟨by decide +kernel, rfl⟩
theorem rX2_listenAt_15 : tq_D cX2_listenAt 15 (.iload_n 2) 1 16 := ⟨by decide +kernel, rfl⟩
theorem rX2_listenAt_16 : tq_D cX2_listenAt 16 (.iconst 0) 1 17 := ⟨by decide +kernel, rfl⟩
theorem rX2_listenAt_17 : tq_D cX2_listenAt 17 (.iastore) 1 18 := ⟨by decide +kernel, rfl⟩
theorem rX2_listenAt_18 : tq_D cX2_listenAt 18 (.iinc 2 1) 3 21 := ⟨by decide +kernel, rfl⟩
theorem rX2_listenAt_21 : tq_J cX2_listenAt 21 .goto 2 24 := ⟨(-19), by decide +kernel, by decide, rfl⟩
theorem rX2_listenAt_24 : tq_D cX2_listenAt 24 (.lconst 0) 1 25 := ⟨by decide +kernel, rfl⟩
theorem rX2_listenAt_25 : tq_D cX2_listenAt 25 (.lstore_n 2) 1 26 := ⟨by decide +kernel, rfl⟩
theorem rX2_listenAt_26 : tq_D cX2_listenAt 26 (.iload_n 1) 1 27 := ⟨by decide +kernel, rfl⟩
theorem rX2_listenAt_27 : tq_D cX2_listenAt 27 (.iconst 0) 1 28 := ⟨by decide +kernel, rfl⟩
theorem rX2_listenAt_28 : tq_D cX2_listenAt 28 (.invokestatic 38) 3 31 := ⟨by decide +kernel, rfl⟩
theorem rX2_listenAt_31 : tq_D cX2_listenAt 31 (.lstore 4) 2 33 := ⟨by decide +kernel, rfl⟩
theorem rX2_listenAt_33 : tq_D cX2_listenAt 33 (.iconst 0) 1 34 := ⟨by decide +kernel, rfl⟩
theorem rX2_listenAt_34 : tq_D cX2_listenAt 34 (.istore 6) 2 36 := ⟨by decide +kernel, rfl⟩
theorem rX2_listenAt_36 : tq_D cX2_listenAt 36 (.iload 6) 2 38 := ⟨by decide +kernel, rfl⟩
theorem rX2_listenAt_38 : tq_D cX2_listenAt 38 (.bipush 12) 2 40 := ⟨by decide +kernel, rfl⟩
theorem rX2_listenAt_40 : tq_J cX2_listenAt 40 (.if_icmp .gt) 135 43 := ⟨95, by decide +kernel, by decide, rfl⟩
theorem rX2_listenAt_43 : tq_D cX2_listenAt 43 (.iconst 1) 1 44 := ⟨by decide +kernel, rfl⟩
theorem rX2_listenAt_44 : tq_D cX2_listenAt 44 (.istore 7) 2 46 := ⟨by decide +kernel, rfl⟩
theorem rX2_listenAt_46 : tq_D cX2_listenAt 46 (.iload 7) 2 48 := ⟨by decide +kernel, rfl⟩
theorem rX2_listenAt_48 : tq_D cX2_listenAt 48 (.aload_n 0) 1 49 := ⟨by decide +kernel, rfl⟩
theorem rX2_listenAt_49 : tq_D cX2_listenAt 49 (.getfield 9) 3 52 := ⟨by decide +kernel, rfl⟩
theorem rX2_listenAt_52 : tq_D cX2_listenAt 52 (.arraylength) 1 53 := ⟨by decide +kernel, rfl⟩
theorem rX2_listenAt_53 : tq_J cX2_listenAt 53 (.if_icmp .ge) 112 56 := ⟨59, by decide +kernel, by decide, rfl⟩
theorem rX2_listenAt_56 : tq_D cX2_listenAt 56 (.iconst 0) 1 57 := ⟨by decide +kernel, rfl⟩
theorem rX2_listenAt_57 : tq_D cX2_listenAt 57 (.iload 7) 2 59 := ⟨by decide +kernel, rfl⟩
theorem rX2_listenAt_59 : tq_D cX2_listenAt 59 (.iload 6) 2 61 := ⟨by decide +kernel, rfl⟩
theorem rX2_listenAt_61 : tq_D cX2_listenAt 61 (.isub) 1 62 := ⟨by decide +kernel, rfl⟩
theorem rX2_listenAt_62 : tq_D cX2_listenAt 62 (.invokestatic 68) 3 65 := ⟨by decide +kernel, rfl⟩
theorem rX2_listenAt_65 : tq_D cX2_listenAt 65 (.istore 8) 2 67 := ⟨by decide +kernel, rfl⟩
theorem rX2_listenAt_67 : tq_D cX2_listenAt 67 (.iload 8) 2 69 := ⟨by decide +kernel, rfl⟩
theorem rX2_listenAt_69 : tq_D cX2_listenAt 69 (.aload_n 0) 1 70 := ⟨by decide +kernel, rfl⟩
theorem rX2_listenAt_70 : tq_D cX2_listenAt 70 (.getfield 15) 3 73 := ⟨by decide +kernel, rfl⟩
theorem rX2_listenAt_73 : tq_D cX2_listenAt 73 (.arraylength) 1 74 := ⟨by decide +kernel, rfl⟩
theorem rX2_listenAt_74 : tq_J cX2_listenAt 74 (.if_icmp .ge) 106 77 := ⟨32, by decide +kernel, by decide, rfl⟩
theorem rX2_listenAt_77 : tq_D cX2_listenAt 77 (.aload_n 0) 1 78 := ⟨by decide +kernel, rfl⟩
theorem rX2_listenAt_78 : tq_D cX2_listenAt 78 (.getfield 15) 3 81 := ⟨by decide +kernel, rfl⟩
theorem rX2_listenAt_81 : tq_D cX2_listenAt 81 (.iload 8) 2 83 := ⟨by decide +kernel, rfl⟩
theorem rX2_listenAt_83 : tq_D cX2_listenAt 83 (.dup2) 1 84 := ⟨by decide +kernel, rfl⟩
theorem rX2_listenAt_84 : tq_D cX2_listenAt 84 (.iaload) 1 85 := ⟨by decide +kernel, rfl⟩
theorem rX2_listenAt_85 : tq_D cX2_listenAt 85 (.aload_n 0) 1 86 := ⟨by decide +kernel, rfl⟩
theorem rX2_listenAt_86 : tq_D cX2_listenAt 86 (.getfield 9) 3 89 := ⟨by decide +kernel, rfl⟩
theorem rX2_listenAt_89 : tq_D cX2_listenAt 89 (.iload 7) 2 91 := ⟨by decide +kernel, rfl⟩
theorem rX2_listenAt_91 : tq_D cX2_listenAt 91 (.laload) 1 92 := ⟨by decide +kernel, rfl⟩
theorem rX2_listenAt_92 : tq_D cX2_listenAt 92 (.lload 4) 2 94 := ⟨by decide +kernel, rfl⟩
theorem rX2_listenAt_94 : tq_D cX2_listenAt 94 (.land) 1 95 := ⟨by decide +kernel, rfl⟩
theorem rX2_listenAt_95 : tq_D cX2_listenAt 95 (.lload_n 2) 1 96 := ⟨by decide +kernel, rfl⟩
theorem rX2_listenAt_96 : tq_D cX2_listenAt 96 (.ldc2_w 42) 3 99 := ⟨by decide +kernel, rfl⟩
theorem rX2_listenAt_99 : tq_D cX2_listenAt 99 (.lxor) 1 100 := ⟨by decide +kernel, rfl⟩
theorem rX2_listenAt_100 : tq_D cX2_listenAt 100 (.land) 1 101 := ⟨by decide +kernel, rfl⟩
theorem rX2_listenAt_101 : tq_D cX2_listenAt 101 (.invokestatic 52) 3 104 := ⟨by decide +kernel, rfl⟩
theorem rX2_listenAt_104 : tq_D cX2_listenAt 104 (.iadd) 1 105 := ⟨by decide +kernel, rfl⟩
theorem rX2_listenAt_105 : tq_D cX2_listenAt 105 (.iastore) 1 106 := ⟨by decide +kernel, rfl⟩
theorem rX2_listenAt_106 : tq_D cX2_listenAt 106 (.iinc 7 1) 3 109 := ⟨by decide +kernel, rfl⟩
theorem rX2_listenAt_109 : tq_J cX2_listenAt 109 .goto 46 112 := ⟨(-63), by decide +kernel, by decide, rfl⟩
theorem rX2_listenAt_112 : tq_D cX2_listenAt 112 (.lload 4) 2 114 := ⟨by decide +kernel, rfl⟩
theorem rX2_listenAt_114 : tq_D cX2_listenAt 114 (.lstore_n 2) 1 115 := ⟨by decide +kernel, rfl⟩
theorem rX2_listenAt_115 : tq_D cX2_listenAt 115 (.lload 4) 2 117 := ⟨by decide +kernel, rfl⟩
theorem rX2_listenAt_117 : tq_D cX2_listenAt 117 (.lload 4) 2 119 := ⟨by decide +kernel, rfl⟩
theorem rX2_listenAt_119 : tq_D cX2_listenAt 119 (.invokestatic 44) 3 122 := ⟨by decide +kernel, rfl⟩
theorem rX2_listenAt_122 : tq_D cX2_listenAt 122 (.ldc2_w 19) 3 125 := ⟨by decide +kernel, rfl⟩
theorem rX2_listenAt_125 : tq_D cX2_listenAt 125 (.land) 1 126 := ⟨by decide +kernel, rfl⟩
theorem rX2_listenAt_126 : tq_D cX2_listenAt 126 (.lor) 1 127 := ⟨by decide +kernel, rfl⟩
theorem rX2_listenAt_127 : tq_D cX2_listenAt 127 (.lstore 4) 2 129 := ⟨by decide +kernel, rfl⟩
theorem rX2_listenAt_129 : tq_D cX2_listenAt 129 (.iinc 6 1) 3 132 := ⟨by decide +kernel, rfl⟩
theorem rX2_listenAt_132 : tq_J cX2_listenAt 132 .goto 36 135 := ⟨(-96), by decide +kernel, by decide, rfl⟩
theorem rX2_listenAt_135 : decode cX2_listenAt 135 = .ok (.return_, 1) := by decide +kernel
noncomputable def FX2_listenAt_s2 (I : tq_PI) (L : tq_PL) (a0 : Nat) (a1 : Int32) (a2 : Int32) : Option ((Int32 × tq_PI) ⊕ (tq_PI)) :=
  (if (10 : Int32) ≤ a2 then some (.inr I) else (if 0 ≤ a2 ∧ a2 < 10 then some (.inl ((a2 + 1), (tq_up2 I (tq_rg a0 1) a2.toNatClampNeg (0 : Int32)))) else none))
noncomputable def FX2_listenAt_j106L46 (I : tq_PI) (L : tq_PL) (a0 : Nat) (a2 : Int64) (a4 : Int64) (a6 : Int32) (a7 : Int32) : Option ((Int32 × tq_PI) ⊕ (tq_PI)) :=
  some (.inl ((a7 + 1), I))
noncomputable def FX2_listenAt_s46 (I : tq_PI) (L : tq_PL) (a0 : Nat) (a2 : Int64) (a4 : Int64) (a6 : Int32) (a7 : Int32) : Option ((Int32 × tq_PI) ⊕ (tq_PI)) :=
  (if (10 : Int32) ≤ a7 then some (.inr I) else (if (10 : Int32) ≤ (if (0 : Int32) < (a7 - a6) then (a7 - a6) else (0 : Int32)) then (FX2_listenAt_j106L46 I L a0 a2 a4 a6 a7) else (if 0 ≤ (if (0 : Int32) < (a7 - a6) then (a7 - a6) else (0 : Int32)) ∧ (if (0 : Int32) < (a7 - a6) then (a7 - a6) else (0 : Int32)) < 10 then (if 0 ≤ a7 ∧ a7 < 10 then (tq_let (FJ13_bitCount_95d88 I L ((((L (tq_rg a0 0) a7.toNatClampNeg) &&& a4) &&& (a2 ^^^ (-1 : Int64))))) fun p10 => (if 0 ≤ (if (0 : Int32) < (a7 - a6) then (a7 - a6) else (0 : Int32)) ∧ (if (0 : Int32) < (a7 - a6) then (a7 - a6) else (0 : Int32)) < 10 then (FX2_listenAt_j106L46 ((tq_up2 I (tq_rg a0 1) ((if (0 : Int32) < (a7 - a6) then (a7 - a6) else (0 : Int32))).toNatClampNeg ((I (tq_rg a0 1) ((if (0 : Int32) < (a7 - a6) then (a7 - a6) else (0 : Int32))).toNatClampNeg) + p10))) L a0 a2 a4 a6 a7) else none)) else none) else none)))
noncomputable def FX2_listenAt_s36 (I : tq_PI) (L : tq_PL) (a0 : Nat) (a2 : Int64) (a4 : Int64) (a6 : Int32) : Option ((Int64 × Int64 × Int32 × tq_PI) ⊕ (tq_PI)) :=
  (if (12 : Int32) < a6 then some (.inr I) else ((tq_it (fun p : Int32 × tq_PI => FX2_listenAt_s46 p.2 L a0 a2 a4 a6 p.1) tq_N ((1 : Int32), I)).bind fun p12 => (tq_let (FX11_nextTo p12 L a4) fun p13 => some (.inl (a4, (a4 ||| (p13 &&& (281474976710655 : Int64))), (a6 + 1), p12)))))
noncomputable def FX2_listenAt (I : tq_PI) (L : tq_PL) (a0 : Nat) (a1 : Int32) : Option (tq_PI) :=
  ((tq_it (fun p : Int32 × tq_PI => FX2_listenAt_s2 p.2 L a0 a1 p.1) tq_N ((0 : Int32), I)).bind fun p3 => ((FX2_near p3 L a1 ((0 : Int32))).bind fun p4 => ((tq_it (fun p : Int64 × Int64 × Int32 × tq_PI => FX2_listenAt_s36 p.2.2.2 L a0 p.1 p.2.1 p.2.2.1) tq_N ((0 : Int64), p4, (0 : Int32), p3)).bind fun p14 => some p14)))
set_option maxRecDepth 100000 in
set_option maxHeartbeats 4000000 in
theorem FX2_listenAt_s2_x {S : Nat × (Nat → Int32)} {d : Nat} {I : tq_PI} {L : tq_PL} {a0 : Nat} {a1 : Int32} {a2 : Int32} (h0 : tq_sh0 a0 = 2) {q0 : Option Value → tq_PI → tq_PL → Prop} {out : (Int32 × tq_PI) ⊕ (tq_PI)} (hf : FX2_listenAt_s2 I L a0 a1 a2 = some out) (hk : Sum.elim (fun p : Int32 × tq_PI => tq_X S mX2_listenAt (d + 3) tq_k0 2 ([.ref a0, .int a1, .int p.1, tq_u, tq_u, tq_u, tq_u, tq_u, tq_u]) [] (tq_st p.2 L) (tq_Q q0)) (fun p : tq_PI => tq_X S mX2_listenAt (d + 3) tq_k0 24 ([.ref a0, .int a1, tq_u, tq_u, tq_u, tq_u, tq_u, tq_u, tq_u]) [] (tq_st p L) (tq_Q q0)) out) : tq_X S mX2_listenAt (d + 3) tq_k0 2 ([.ref a0, .int a1, .int a2, tq_u, tq_u, tq_u, tq_u, tq_u, tq_u]) [] (tq_st I L) (tq_Q q0) := by
  unfold FX2_listenAt_s2 at hf
  refine tq_iload_n rX2_listenAt_2 rfl ?_
  refine tq_aload_n rX2_listenAt_3 rfl ?_
  refine ty_getR rX2_listenAt_4 f_X2_15 rfl h0 (hp_2_1 h0).1 ?_
  refine ty_alen (v := 10) rX2_listenAt_7 (hp_2_1 h0).2.1 (by decide) (hp_2_1 h0).2.2 rfl ?_
  refine tq_icmp_ge rX2_listenAt_8 (fun c1 => ?_) (fun c1 => ?_)
  · rw [if_pos c1] at hf
    have hf := Option.some.inj hf
    subst hf
    exact tq_forget _ (tq_le_s (tq_le_s (tq_le_u (tq_le_u (tq_le_u (tq_le_u (tq_le_u (tq_le_u (tq_le_u tq_le_n))))))))) hk
  · rw [if_neg c1] at hf
    refine tq_aload_n rX2_listenAt_11 rfl ?_
    refine ty_getR rX2_listenAt_12 f_X2_15 rfl h0 (hp_2_1 h0).1 ?_
    refine tq_iload_n rX2_listenAt_15 rfl ?_
    refine tq_iconst (0 : Int32) rX2_listenAt_16 (by decide) ?_
    obtain ⟨g2, hf⟩ := tq_chk hf
    refine ty_iast (v := 10) rX2_listenAt_17 (hp_2_1 h0).2.1 (hp_2_1 h0).2.2 rfl (by decide) g2 ?_
    refine tq_iinc (a2 + 1) ([.ref a0, .int a1, .int (a2 + 1), tq_u, tq_u, tq_u, tq_u, tq_u, tq_u]) rX2_listenAt_18 rfl (tq_inc (by decide)) (Nat.le_of_ble_eq_true rfl) rfl ?_
    refine tq_goto rX2_listenAt_21 ?_
    have hf := Option.some.inj hf
    subst hf
    exact tq_forget _ (tq_le_s (tq_le_s (tq_le_s (tq_le_u (tq_le_u (tq_le_u (tq_le_u (tq_le_u (tq_le_u tq_le_n))))))))) hk

set_option maxRecDepth 100000 in
set_option maxHeartbeats 4000000 in
theorem FX2_listenAt_j106L46_x {S : Nat × (Nat → Int32)} {d : Nat} {I : tq_PI} {L : tq_PL} {a0 : Nat} {a2 : Int64} {a4 : Int64} {a6 : Int32} {a7 : Int32} (h0 : tq_sh0 a0 = 2) {q0 : Option Value → tq_PI → tq_PL → Prop} {out : (Int32 × tq_PI) ⊕ (tq_PI)} (hf : FX2_listenAt_j106L46 I L a0 a2 a4 a6 a7 = some out) (hk : Sum.elim (fun p : Int32 × tq_PI => tq_X S mX2_listenAt (d + 3) tq_k0 46 ([.ref a0, tq_u, .long a2, tq_u, .long a4, tq_u, .int a6, .int p.1, tq_u]) [] (tq_st p.2 L) (tq_Q q0)) (fun p : tq_PI => tq_X S mX2_listenAt (d + 3) tq_k0 112 ([.ref a0, tq_u, tq_u, tq_u, .long a4, tq_u, .int a6, tq_u, tq_u]) [] (tq_st p L) (tq_Q q0)) out) : tq_X S mX2_listenAt (d + 3) tq_k0 106 ([.ref a0, tq_u, .long a2, tq_u, .long a4, tq_u, .int a6, .int a7, tq_u]) ([]) (tq_st I L) (tq_Q q0) := by
  unfold FX2_listenAt_j106L46 at hf
  refine tq_iinc (a7 + 1) ([.ref a0, tq_u, .long a2, tq_u, .long a4, tq_u, .int a6, .int (a7 + 1), tq_u]) rX2_listenAt_106 rfl (tq_inc (by decide)) (Nat.le_of_ble_eq_true rfl) rfl ?_
  refine tq_goto rX2_listenAt_109 ?_
  have hf := Option.some.inj hf
  subst hf
  exact tq_forget _ (tq_le_s (tq_le_u (tq_le_s (tq_le_u (tq_le_s (tq_le_u (tq_le_s (tq_le_s (tq_le_u tq_le_n))))))))) hk

set_option maxRecDepth 100000 in
set_option maxHeartbeats 4000000 in
theorem FX2_listenAt_s46_x {S : Nat × (Nat → Int32)} {d : Nat} {I : tq_PI} {L : tq_PL} {a0 : Nat} {a2 : Int64} {a4 : Int64} {a6 : Int32} {a7 : Int32} (h0 : tq_sh0 a0 = 2) {q0 : Option Value → tq_PI → tq_PL → Prop} {out : (Int32 × tq_PI) ⊕ (tq_PI)} (hf : FX2_listenAt_s46 I L a0 a2 a4 a6 a7 = some out) (hk : Sum.elim (fun p : Int32 × tq_PI => tq_X S mX2_listenAt (d + 3) tq_k0 46 ([.ref a0, tq_u, .long a2, tq_u, .long a4, tq_u, .int a6, .int p.1, tq_u]) [] (tq_st p.2 L) (tq_Q q0)) (fun p : tq_PI => tq_X S mX2_listenAt (d + 3) tq_k0 112 ([.ref a0, tq_u, tq_u, tq_u, .long a4, tq_u, .int a6, tq_u, tq_u]) [] (tq_st p L) (tq_Q q0)) out) : tq_X S mX2_listenAt (d + 3) tq_k0 46 ([.ref a0, tq_u, .long a2, tq_u, .long a4, tq_u, .int a6, .int a7, tq_u]) [] (tq_st I L) (tq_Q q0) := by
  unfold FX2_listenAt_s46 at hf
  refine tq_iload rX2_listenAt_46 rfl ?_
  refine tq_aload_n rX2_listenAt_48 rfl ?_
  refine ty_getR rX2_listenAt_49 f_X2_9 rfl h0 (hp_2_0 h0).1 ?_
  refine ty_alen (v := 10) rX2_listenAt_52 (hp_2_0 h0).2.1 (by decide) (hp_2_0 h0).2.2 rfl ?_
  refine tq_icmp_ge rX2_listenAt_53 (fun c6 => ?_) (fun c6 => ?_)
  · rw [if_pos c6] at hf
    have hf := Option.some.inj hf
    subst hf
    exact tq_forget _ (tq_le_s (tq_le_u (tq_le_u (tq_le_u (tq_le_s (tq_le_u (tq_le_s (tq_le_u (tq_le_u tq_le_n))))))))) hk
  · rw [if_neg c6] at hf
    refine tq_iconst (0 : Int32) rX2_listenAt_56 (by decide) ?_
    refine tq_iload rX2_listenAt_57 rfl ?_
    refine tq_iload rX2_listenAt_59 rfl ?_
    refine tq_isub rX2_listenAt_61 ?_
    refine tq_mmax rX2_listenAt_62 (Nat.le_of_ble_eq_true rfl) n_X2_68 ?_
    refine tq_istore ([.ref a0, tq_u, .long a2, tq_u, .long a4, tq_u, .int a6, .int a7, .int (if (0 : Int32) < (a7 - a6) then (a7 - a6) else (0 : Int32))]) rX2_listenAt_65 (Nat.le_of_ble_eq_true rfl) rfl ?_
    refine tq_iload rX2_listenAt_67 rfl ?_
    refine tq_aload_n rX2_listenAt_69 rfl ?_
    refine ty_getR rX2_listenAt_70 f_X2_15 rfl h0 (hp_2_1 h0).1 ?_
    refine ty_alen (v := 10) rX2_listenAt_73 (hp_2_1 h0).2.1 (by decide) (hp_2_1 h0).2.2 rfl ?_
    refine tq_icmp_ge rX2_listenAt_74 (fun c7 => ?_) (fun c7 => ?_)
    · rw [if_pos c7] at hf
      exact tq_forget _ (tq_le_s (tq_le_u (tq_le_s (tq_le_u (tq_le_s (tq_le_u (tq_le_s (tq_le_s (tq_le_u tq_le_n))))))))) (FX2_listenAt_j106L46_x  h0 hf hk)
    · rw [if_neg c7] at hf
      refine tq_aload_n rX2_listenAt_77 rfl ?_
      refine ty_getR rX2_listenAt_78 f_X2_15 rfl h0 (hp_2_1 h0).1 ?_
      refine tq_iload rX2_listenAt_81 rfl ?_
      refine tq_dup2 rX2_listenAt_83 rfl rfl ?_
      obtain ⟨g8, hf⟩ := tq_chk hf
      refine ty_iald (v := 10) rX2_listenAt_84 (hp_2_1 h0).2.1 (hp_2_1 h0).2.2 rfl (by decide) g8 ?_
      refine tq_aload_n rX2_listenAt_85 rfl ?_
      refine ty_getR rX2_listenAt_86 f_X2_9 rfl h0 (hp_2_0 h0).1 ?_
      refine tq_iload rX2_listenAt_89 rfl ?_
      obtain ⟨g9, hf⟩ := tq_chk hf
      refine ty_lald (v := 10) rX2_listenAt_91 (hp_2_0 h0).2.1 (hp_2_0 h0).2.2 rfl (by decide) g9 ?_
      refine tq_lload rX2_listenAt_92 rfl ?_
      refine tq_land rX2_listenAt_94 ?_
      refine tq_lload_n rX2_listenAt_95 rfl ?_
      refine tq_ldc2 rX2_listenAt_96 (k_X2_42) ?_
      refine tq_lxor rX2_listenAt_99 ?_
      refine tq_land rX2_listenAt_100 ?_
      obtain ⟨p10, e10, hf⟩ := tq_let_elim hf
      refine ty_callSI p10 ([.long (((L (tq_rg a0 0) a7.toNatClampNeg) &&& a4) &&& (a2 ^^^ (-1 : Int64)))]) ([.int (I (tq_rg a0 1) ((if (0 : Int32) < (a7 - a6) then (a7 - a6) else (0 : Int32))).toNatClampNeg), .int (if (0 : Int32) < (a7 - a6) then (a7 - a6) else (0 : Int32)), .ref (tq_rg a0 1)]) rX2_listenAt_101 l_X2_52 moJ13_bitCount_95d88 msJ13_bitCount_95d88 rfl rfl (Nat.le_of_ble_eq_true rfl) ⟨rfl, rfl⟩ (CJ13_bitCount_95d88  e10) ?_
      refine tq_iadd rX2_listenAt_104 ?_
      obtain ⟨g11, hf⟩ := tq_chk hf
      refine ty_iast (v := 10) rX2_listenAt_105 (hp_2_1 h0).2.1 (hp_2_1 h0).2.2 rfl (by decide) g11 ?_
      exact tq_forget _ (tq_le_s (tq_le_u (tq_le_s (tq_le_u (tq_le_s (tq_le_u (tq_le_s (tq_le_s (tq_le_u tq_le_n))))))))) (FX2_listenAt_j106L46_x  h0 hf hk)

set_option maxRecDepth 100000 in
set_option maxHeartbeats 4000000 in
theorem FX2_listenAt_s36_x {S : Nat × (Nat → Int32)} {d : Nat} {I : tq_PI} {L : tq_PL} {a0 : Nat} {a2 : Int64} {a4 : Int64} {a6 : Int32} (h0 : tq_sh0 a0 = 2) {q0 : Option Value → tq_PI → tq_PL → Prop} {out : (Int64 × Int64 × Int32 × tq_PI) ⊕ (tq_PI)} (hf : FX2_listenAt_s36 I L a0 a2 a4 a6 = some out) (hk : Sum.elim (fun p : Int64 × Int64 × Int32 × tq_PI => tq_X S mX2_listenAt (d + 3) tq_k0 36 ([.ref a0, tq_u, .long p.1, tq_u, .long p.2.1, tq_u, .int p.2.2.1, tq_u, tq_u]) [] (tq_st p.2.2.2 L) (tq_Q q0)) (fun p : tq_PI => tq_X S mX2_listenAt (d + 3) tq_k0 135 ([tq_u, tq_u, tq_u, tq_u, tq_u, tq_u, tq_u, tq_u, tq_u]) [] (tq_st p L) (tq_Q q0)) out) : tq_X S mX2_listenAt (d + 3) tq_k0 36 ([.ref a0, tq_u, .long a2, tq_u, .long a4, tq_u, .int a6, tq_u, tq_u]) [] (tq_st I L) (tq_Q q0) := by
  unfold FX2_listenAt_s36 at hf
  refine tq_iload rX2_listenAt_36 rfl ?_
  refine tq_bipush (12 : Int32) rX2_listenAt_38 (by decide) ?_
  refine tq_icmp_gt rX2_listenAt_40 (fun c5 => ?_) (fun c5 => ?_)
  · rw [if_pos c5] at hf
    have hf := Option.some.inj hf
    subst hf
    exact tq_forget _ (tq_le_u (tq_le_u (tq_le_u (tq_le_u (tq_le_u (tq_le_u (tq_le_u (tq_le_u (tq_le_u tq_le_n))))))))) hk
  · rw [if_neg c5] at hf
    refine tq_iconst (1 : Int32) rX2_listenAt_43 (by decide) ?_
    refine tq_istore ([.ref a0, tq_u, .long a2, tq_u, .long a4, tq_u, .int a6, .int (1 : Int32), tq_u]) rX2_listenAt_44 (Nat.le_of_ble_eq_true rfl) rfl ?_
    obtain ⟨p12, e12, hf⟩ := Option.bind_eq_some_iff.mp hf
    refine tq_forget _ (tq_le_s (tq_le_u (tq_le_s (tq_le_u (tq_le_s (tq_le_u (tq_le_s (tq_le_s (tq_le_u tq_le_n))))))))) ?_
    refine tq_it_elim (P := fun p : Int32 × tq_PI => tq_X S mX2_listenAt (d + 3) tq_k0 46 ([.ref a0, tq_u, .long a2, tq_u, .long a4, tq_u, .int a6, .int p.1, tq_u]) [] (tq_st p.2 L) (tq_Q q0)) (R := fun p : tq_PI => tq_X S mX2_listenAt (d + 3) tq_k0 112 ([.ref a0, tq_u, tq_u, tq_u, .long a4, tq_u, .int a6, tq_u, tq_u]) [] (tq_st p L) (tq_Q q0)) (fun p o hp hk => FX2_listenAt_s46_x  h0 hp hk) _ (((1 : Int32), I)) _ e12 ?_
    show tq_X _ _ _ _ _ _ _ _ _
    refine tq_lload rX2_listenAt_112 rfl ?_
    refine tq_lstore_n ([.ref a0, tq_u, .long a4, tq_u, .long a4, tq_u, .int a6, tq_u, tq_u]) rX2_listenAt_114 (Nat.le_of_ble_eq_true rfl) rfl ?_
    refine tq_lload rX2_listenAt_115 rfl ?_
    refine tq_lload rX2_listenAt_117 rfl ?_
    obtain ⟨p13, e13, hf⟩ := tq_let_elim hf
    refine ty_callSJ p13 ([.long a4]) ([.long a4]) rX2_listenAt_119 l_X2_44 moX11_nextTo msX11_nextTo rfl rfl (Nat.le_of_ble_eq_true rfl) ⟨rfl, rfl⟩ (CX11_nextTo  e13) ?_
    refine tq_ldc2 rX2_listenAt_122 (k_X2_19) ?_
    refine tq_land rX2_listenAt_125 ?_
    refine tq_lor rX2_listenAt_126 ?_
    refine tq_lstore ([.ref a0, tq_u, .long a4, tq_u, .long (a4 ||| (p13 &&& (281474976710655 : Int64))), tq_u, .int a6, tq_u, tq_u]) rX2_listenAt_127 (Nat.le_of_ble_eq_true rfl) rfl ?_
    refine tq_iinc (a6 + 1) ([.ref a0, tq_u, .long a4, tq_u, .long (a4 ||| (p13 &&& (281474976710655 : Int64))), tq_u, .int (a6 + 1), tq_u, tq_u]) rX2_listenAt_129 rfl (tq_inc (by decide)) (Nat.le_of_ble_eq_true rfl) rfl ?_
    refine tq_goto rX2_listenAt_132 ?_
    have hf := Option.some.inj hf
    subst hf
    exact tq_forget _ (tq_le_s (tq_le_u (tq_le_s (tq_le_u (tq_le_s (tq_le_u (tq_le_s (tq_le_u (tq_le_u tq_le_n))))))))) hk

set_option maxRecDepth 100000 in
set_option maxHeartbeats 4000000 in
theorem CX2_listenAt {S : Nat × (Nat → Int32)} {d : Nat} {I : tq_PI} {L : tq_PL} {a0 : Nat} {a1 : Int32} (h0 : tq_sh0 a0 = 2) {out : tq_PI} (hf : FX2_listenAt I L a0 a1 = some out) : tq_K S mX2_listenAt (d + 3) [.ref a0, .int a1] I L (tq_one2 (none) out L) := by
  unfold FX2_listenAt at hf
  refine tq_K_of (by decide) (Nat.le_of_ble_eq_true rfl) (ls := [.ref a0, .int a1, tq_u, tq_u, tq_u, tq_u, tq_u, tq_u, tq_u]) rfl ?_
  refine tq_iconst (0 : Int32) rX2_listenAt_0 (by decide) ?_
  refine tq_istore_n ([.ref a0, .int a1, .int (0 : Int32), tq_u, tq_u, tq_u, tq_u, tq_u, tq_u]) rX2_listenAt_1 (Nat.le_of_ble_eq_true rfl) rfl ?_
  obtain ⟨p3, e3, hf⟩ := Option.bind_eq_some_iff.mp hf
  refine tq_forget _ (tq_le_s (tq_le_s (tq_le_s (tq_le_u (tq_le_u (tq_le_u (tq_le_u (tq_le_u (tq_le_u tq_le_n))))))))) ?_
  refine tq_it_elim (P := fun p : Int32 × tq_PI => tq_X S mX2_listenAt (d + 3) tq_k0 2 ([.ref a0, .int a1, .int p.1, tq_u, tq_u, tq_u, tq_u, tq_u, tq_u]) [] (tq_st p.2 L) (tq_Q (tq_one2 (none) out L))) (R := fun p : tq_PI => tq_X S mX2_listenAt (d + 3) tq_k0 24 ([.ref a0, .int a1, tq_u, tq_u, tq_u, tq_u, tq_u, tq_u, tq_u]) [] (tq_st p L) (tq_Q (tq_one2 (none) out L))) (fun p o hp hk => FX2_listenAt_s2_x  h0 hp hk) _ (((0 : Int32), I)) _ e3 ?_
  show tq_X _ _ _ _ _ _ _ _ _
  refine tq_lconst (0 : Int64) rX2_listenAt_24 (by decide) ?_
  refine tq_lstore_n ([.ref a0, .int a1, .long (0 : Int64), tq_u, tq_u, tq_u, tq_u, tq_u, tq_u]) rX2_listenAt_25 (Nat.le_of_ble_eq_true rfl) rfl ?_
  refine tq_iload_n rX2_listenAt_26 rfl ?_
  refine tq_iconst (0 : Int32) rX2_listenAt_27 (by decide) ?_
  obtain ⟨p4, e4, hf⟩ := Option.bind_eq_some_iff.mp hf
  refine ty_callSJ p4 ([.int a1, .int (0 : Int32)]) ([]) rX2_listenAt_28 l_X2_38 moX2_near msX2_near rfl rfl (Nat.le_of_ble_eq_true rfl) ⟨rfl, rfl⟩ (CX2_near  e4) ?_
  refine tq_lstore ([.ref a0, .int a1, .long (0 : Int64), tq_u, .long p4, tq_u, tq_u, tq_u, tq_u]) rX2_listenAt_31 (Nat.le_of_ble_eq_true rfl) rfl ?_
  refine tq_iconst (0 : Int32) rX2_listenAt_33 (by decide) ?_
  refine tq_istore ([.ref a0, .int a1, .long (0 : Int64), tq_u, .long p4, tq_u, .int (0 : Int32), tq_u, tq_u]) rX2_listenAt_34 (Nat.le_of_ble_eq_true rfl) rfl ?_
  obtain ⟨p14, e14, hf⟩ := Option.bind_eq_some_iff.mp hf
  refine tq_forget _ (tq_le_s (tq_le_u (tq_le_s (tq_le_u (tq_le_s (tq_le_u (tq_le_s (tq_le_u (tq_le_u tq_le_n))))))))) ?_
  refine tq_it_elim (P := fun p : Int64 × Int64 × Int32 × tq_PI => tq_X S mX2_listenAt (d + 3) tq_k0 36 ([.ref a0, tq_u, .long p.1, tq_u, .long p.2.1, tq_u, .int p.2.2.1, tq_u, tq_u]) [] (tq_st p.2.2.2 L) (tq_Q (tq_one2 (none) out L))) (R := fun p : tq_PI => tq_X S mX2_listenAt (d + 3) tq_k0 135 ([tq_u, tq_u, tq_u, tq_u, tq_u, tq_u, tq_u, tq_u, tq_u]) [] (tq_st p L) (tq_Q (tq_one2 (none) out L))) (fun p o hp hk => FX2_listenAt_s36_x  h0 hp hk) _ (((0 : Int64), p4, (0 : Int32), p3)) _ e14 ?_
  show tq_X _ _ _ _ _ _ _ _ _
  refine ty_vret rX2_listenAt_135 rfl rfl ?_
  have hf := Option.some.inj hf
  subst hf
  exact ⟨rfl, rfl, rfl⟩

abbrev mX2_mostAlike : tq_M := (yX2_mostAlike, cX2_mostAlike, 4, (Option.some Jvm.ClassFile.FieldType.int), 0, 0)
theorem moX2_listenAt : tq_mok mX2_listenAt 1 := ⟨tq_sg1 _ (List.mem_of_getElem? (i := 11) rfl), tq_sg5 _ (List.mem_of_getElem? (i := 84) rfl), ⟨by decide, by decide, by decide +kernel⟩, by decide⟩
theorem mvX2_listenAt : 2 < 13 ∧ (tq_cl 2).1 = mX2_listenAt.1.cls ∧ Cond.instanceMethod mX2_listenAt.1 ∈ lw_tbl ∧ Cond.selects mX2_listenAt.1.cls mX2_listenAt.1 mX2_listenAt.1 ∈ lw_tbl := ⟨by decide, rfl, tq_sg5 _ (List.mem_of_getElem? (i := 83) rfl), List.mem_append_left _ (List.mem_map.mpr ⟨_, List.mem_of_getElem? (i := 34) rfl, rfl⟩)⟩
theorem l_X2_64 : tq_lok RX2 64 mX2_listenAt.1 := Or.inl (tq_sg5 _ (List.mem_of_getElem? (i := 81) rfl))
theorem rX2_mostAlike_0 : tq_D cX2_mostAlike 0 (.aload_n 0) 1 1 := ⟨by decide +kernel, rfl⟩
theorem rX2_mostAlike_1 : tq_D cX2_mostAlike 1 (.iload_n 1) 1 2 := ⟨by decide +kernel, rfl⟩
theorem rX2_mostAlike_2 : tq_D cX2_mostAlike 2 (.invokevirtual 64) 3 5 := ⟨by decide +kernel, rfl⟩
theorem rX2_mostAlike_5 : tq_D cX2_mostAlike 5 (.iconst 0) 1 6 := ⟨by decide +kernel, rfl⟩
theorem rX2_mostAlike_6 : tq_D cX2_mostAlike 6 (.istore_n 2) 1 7 := ⟨by decide +kernel, rfl⟩
theorem rX2_mostAlike_7 : tq_D cX2_mostAlike 7 (.iconst 0) 1 8 := ⟨by decide +kernel, rfl⟩
theorem rX2_mostAlike_8 : tq_D cX2_mostAlike 8 (.istore_n 3) 1 9 := ⟨by decide +kernel, rfl⟩
theorem rX2_mostAlike_9 : tq_D cX2_mostAlike 9 (.iload_n 3) 1 10 := ⟨by decide +kernel, rfl⟩
theorem rX2_mostAlike_10 : tq_D cX2_mostAlike 10 (.aload_n 0) 1 11 := ⟨by decide +kernel, rfl⟩
theorem rX2_mostAlike_11 : tq_D cX2_mostAlike 11 (.getfield 15) 3 14 := ⟨by decide +kernel, rfl⟩
theorem rX2_mostAlike_14 : tq_D cX2_mostAlike 14 (.arraylength) 1 15 := ⟨by decide +kernel, rfl⟩
theorem rX2_mostAlike_15 : tq_J cX2_mostAlike 15 (.if_icmp .ge) 35 18 := ⟨20, by decide +kernel, by decide, rfl⟩
theorem rX2_mostAlike_18 : tq_D cX2_mostAlike 18 (.iload_n 2) 1 19 := ⟨by decide +kernel, rfl⟩
theorem rX2_mostAlike_19 : tq_D cX2_mostAlike 19 (.aload_n 0) 1 20 := ⟨by decide +kernel, rfl⟩
theorem rX2_mostAlike_20 : tq_D cX2_mostAlike 20 (.getfield 15) 3 23 := ⟨by decide +kernel, rfl⟩
theorem rX2_mostAlike_23 : tq_D cX2_mostAlike 23 (.iload_n 3) 1 24 := ⟨by decide +kernel, rfl⟩
theorem rX2_mostAlike_24 : tq_D cX2_mostAlike 24 (.iaload) 1 25 := ⟨by decide +kernel, rfl⟩
theorem rX2_mostAlike_25 : tq_D cX2_mostAlike 25 (.invokestatic 68) 3 28 := ⟨by decide +kernel, rfl⟩
theorem rX2_mostAlike_28 : tq_D cX2_mostAlike 28 (.istore_n 2) 1 29 := ⟨by decide +kernel, rfl⟩
theorem rX2_mostAlike_29 : tq_D cX2_mostAlike 29 (.iinc 3 1) 3 32 := ⟨by decide +kernel, rfl⟩
theorem rX2_mostAlike_32 : tq_J cX2_mostAlike 32 .goto 9 35 := ⟨(-23), by decide +kernel, by decide, rfl⟩
theorem rX2_mostAlike_35 : tq_D cX2_mostAlike 35 (.iload_n 2) 1 36 := ⟨by decide +kernel, rfl⟩
theorem rX2_mostAlike_36 : decode cX2_mostAlike 36 = .ok (.ireturn, 1) := by decide +kernel
noncomputable def FX2_mostAlike_s9 (I : tq_PI) (L : tq_PL) (a0 : Nat) (a2 : Int32) (a3 : Int32) : Option ((Int32 × Int32) ⊕ (Int32)) :=
  (if (10 : Int32) ≤ a3 then some (.inr a2) else (if 0 ≤ a3 ∧ a3 < 10 then some (.inl ((if a2 < (I (tq_rg a0 1) a3.toNatClampNeg) then (I (tq_rg a0 1) a3.toNatClampNeg) else a2), (a3 + 1))) else none))
noncomputable def FX2_mostAlike (I : tq_PI) (L : tq_PL) (a0 : Nat) (a1 : Int32) : Option (Int32 × tq_PI) :=
  ((FX2_listenAt I L a0 a1).bind fun p1 => ((tq_it (fun p : Int32 × Int32 => FX2_mostAlike_s9 p1 L a0 p.1 p.2) tq_N ((0 : Int32), (0 : Int32))).bind fun p4 => some (p4, p1)))
set_option maxRecDepth 100000 in
set_option maxHeartbeats 4000000 in
theorem FX2_mostAlike_s9_x {S : Nat × (Nat → Int32)} {d : Nat} {I : tq_PI} {L : tq_PL} {a0 : Nat} {a2 : Int32} {a3 : Int32} (h0 : tq_sh0 a0 = 2) {q0 : Option Value → tq_PI → tq_PL → Prop} {out : (Int32 × Int32) ⊕ (Int32)} (hf : FX2_mostAlike_s9 I L a0 a2 a3 = some out) (hk : Sum.elim (fun p : Int32 × Int32 => tq_X S mX2_mostAlike (d + 4) tq_k0 9 ([.ref a0, tq_u, .int p.1, .int p.2]) [] (tq_st I L) (tq_Q q0)) (fun p : Int32 => tq_X S mX2_mostAlike (d + 4) tq_k0 35 ([tq_u, tq_u, .int p, tq_u]) [] (tq_st I L) (tq_Q q0)) out) : tq_X S mX2_mostAlike (d + 4) tq_k0 9 ([.ref a0, tq_u, .int a2, .int a3]) [] (tq_st I L) (tq_Q q0) := by
  unfold FX2_mostAlike_s9 at hf
  refine tq_iload_n rX2_mostAlike_9 rfl ?_
  refine tq_aload_n rX2_mostAlike_10 rfl ?_
  refine ty_getR rX2_mostAlike_11 f_X2_15 rfl h0 (hp_2_1 h0).1 ?_
  refine ty_alen (v := 10) rX2_mostAlike_14 (hp_2_1 h0).2.1 (by decide) (hp_2_1 h0).2.2 rfl ?_
  refine tq_icmp_ge rX2_mostAlike_15 (fun c2 => ?_) (fun c2 => ?_)
  · rw [if_pos c2] at hf
    have hf := Option.some.inj hf
    subst hf
    exact tq_forget _ (tq_le_u (tq_le_u (tq_le_s (tq_le_u tq_le_n)))) hk
  · rw [if_neg c2] at hf
    refine tq_iload_n rX2_mostAlike_18 rfl ?_
    refine tq_aload_n rX2_mostAlike_19 rfl ?_
    refine ty_getR rX2_mostAlike_20 f_X2_15 rfl h0 (hp_2_1 h0).1 ?_
    refine tq_iload_n rX2_mostAlike_23 rfl ?_
    obtain ⟨g3, hf⟩ := tq_chk hf
    refine ty_iald (v := 10) rX2_mostAlike_24 (hp_2_1 h0).2.1 (hp_2_1 h0).2.2 rfl (by decide) g3 ?_
    refine tq_mmax rX2_mostAlike_25 (Nat.le_of_ble_eq_true rfl) n_X2_68 ?_
    refine tq_istore_n ([.ref a0, tq_u, .int (if a2 < (I (tq_rg a0 1) a3.toNatClampNeg) then (I (tq_rg a0 1) a3.toNatClampNeg) else a2), .int a3]) rX2_mostAlike_28 (Nat.le_of_ble_eq_true rfl) rfl ?_
    refine tq_iinc (a3 + 1) ([.ref a0, tq_u, .int (if a2 < (I (tq_rg a0 1) a3.toNatClampNeg) then (I (tq_rg a0 1) a3.toNatClampNeg) else a2), .int (a3 + 1)]) rX2_mostAlike_29 rfl (tq_inc (by decide)) (Nat.le_of_ble_eq_true rfl) rfl ?_
    refine tq_goto rX2_mostAlike_32 ?_
    have hf := Option.some.inj hf
    subst hf
    exact tq_forget _ (tq_le_s (tq_le_u (tq_le_s (tq_le_s tq_le_n)))) hk

set_option maxRecDepth 100000 in
set_option maxHeartbeats 4000000 in
theorem CX2_mostAlike {S : Nat × (Nat → Int32)} {d : Nat} {I : tq_PI} {L : tq_PL} {a0 : Nat} {a1 : Int32} (h0 : tq_sh0 a0 = 2) {out : Int32 × tq_PI} (hf : FX2_mostAlike I L a0 a1 = some out) : tq_K S mX2_mostAlike (d + 4) [.ref a0, .int a1] I L (tq_one2 (some (.int out.1)) out.2 L) := by
  unfold FX2_mostAlike at hf
  refine tq_K_of (by decide) (Nat.le_of_ble_eq_true rfl) (ls := [.ref a0, .int a1, tq_u, tq_u]) rfl ?_
  refine tq_aload_n rX2_mostAlike_0 rfl ?_
  refine tq_iload_n rX2_mostAlike_1 rfl ?_
  obtain ⟨p1, e1, hf⟩ := Option.bind_eq_some_iff.mp hf
  refine ty_callVV ([.int a1]) ([]) rX2_mostAlike_2 l_X2_64 moX2_listenAt mvX2_listenAt h0 rfl rfl (Nat.le_of_ble_eq_true rfl) ⟨rfl, rfl⟩ (CX2_listenAt h0 e1) ?_
  refine tq_iconst (0 : Int32) rX2_mostAlike_5 (by decide) ?_
  refine tq_istore_n ([.ref a0, .int a1, .int (0 : Int32), tq_u]) rX2_mostAlike_6 (Nat.le_of_ble_eq_true rfl) rfl ?_
  refine tq_iconst (0 : Int32) rX2_mostAlike_7 (by decide) ?_
  refine tq_istore_n ([.ref a0, .int a1, .int (0 : Int32), .int (0 : Int32)]) rX2_mostAlike_8 (Nat.le_of_ble_eq_true rfl) rfl ?_
  obtain ⟨p4, e4, hf⟩ := Option.bind_eq_some_iff.mp hf
  refine tq_forget _ (tq_le_s (tq_le_u (tq_le_s (tq_le_s tq_le_n)))) ?_
  refine tq_it_elim (P := fun p : Int32 × Int32 => tq_X S mX2_mostAlike (d + 4) tq_k0 9 ([.ref a0, tq_u, .int p.1, .int p.2]) [] (tq_st p1 L) (tq_Q (tq_one2 (some (.int out.1)) out.2 L))) (R := fun p : Int32 => tq_X S mX2_mostAlike (d + 4) tq_k0 35 ([tq_u, tq_u, .int p, tq_u]) [] (tq_st p1 L) (tq_Q (tq_one2 (some (.int out.1)) out.2 L))) (fun p o hp hk => FX2_mostAlike_s9_x  h0 hp hk) _ (((0 : Int32), (0 : Int32))) _ e4 ?_
  show tq_X _ _ _ _ _ _ _ _ _
  refine tq_iload_n rX2_mostAlike_35 rfl ?_
  refine ty_iret rX2_mostAlike_36 rfl rfl ?_
  have hf := Option.some.inj hf
  subst hf
  exact ⟨rfl, rfl, rfl⟩

abbrev mX2_bestAsked : tq_M := (yX2_bestAsked, cX2_bestAsked, 5, (Option.some Jvm.ClassFile.FieldType.int), 0, 0)
theorem moX2_fitCount : tq_mok mX2_fitCount 0 := ⟨tq_sg1 _ (List.mem_of_getElem? (i := 11) rfl), tq_sg5 _ (List.mem_of_getElem? (i := 58) rfl), ⟨by decide, by decide, by decide +kernel⟩, by decide⟩
theorem mvX2_fitCount : 2 < 13 ∧ (tq_cl 2).1 = mX2_fitCount.1.cls ∧ Cond.instanceMethod mX2_fitCount.1 ∈ lw_tbl ∧ Cond.selects mX2_fitCount.1.cls mX2_fitCount.1 mX2_fitCount.1 ∈ lw_tbl := ⟨by decide, rfl, tq_sg5 _ (List.mem_of_getElem? (i := 56) rfl), tq_sg5 _ (List.mem_of_getElem? (i := 57) rfl)⟩
theorem moX2_mostAlike : tq_mok mX2_mostAlike 1 := ⟨tq_sg1 _ (List.mem_of_getElem? (i := 11) rfl), tq_sg5 _ (List.mem_of_getElem? (i := 80) rfl), ⟨by decide, by decide, by decide +kernel⟩, by decide⟩
theorem mvX2_mostAlike : 2 < 13 ∧ (tq_cl 2).1 = mX2_mostAlike.1.cls ∧ Cond.instanceMethod mX2_mostAlike.1 ∈ lw_tbl ∧ Cond.selects mX2_mostAlike.1.cls mX2_mostAlike.1 mX2_mostAlike.1 ∈ lw_tbl := ⟨by decide, rfl, tq_sg5 _ (List.mem_of_getElem? (i := 79) rfl), List.mem_append_left _ (List.mem_map.mpr ⟨_, List.mem_of_getElem? (i := 33) rfl, rfl⟩)⟩
theorem l_X2_57 : tq_lok RX2 57 mX2_fitCount.1 := Or.inl (tq_sg5 _ (List.mem_of_getElem? (i := 76) rfl))
theorem l_X2_61 : tq_lok RX2 61 mX2_mostAlike.1 := Or.inl (tq_sg5 _ (List.mem_of_getElem? (i := 77) rfl))
theorem rX2_bestAsked_0 : tq_D cX2_bestAsked 0 (.iconst (-1)) 1 1 := ⟨by decide +kernel, rfl⟩
theorem rX2_bestAsked_1 : tq_D cX2_bestAsked 1 (.istore_n 1) 1 2 := ⟨by decide +kernel, rfl⟩
theorem rX2_bestAsked_2 : tq_D cX2_bestAsked 2 (.aload_n 0) 1 3 := ⟨by decide +kernel, rfl⟩
theorem rX2_bestAsked_3 : tq_D cX2_bestAsked 3 (.invokevirtual 57) 3 6 := ⟨by decide +kernel, rfl⟩
theorem rX2_bestAsked_6 : tq_D cX2_bestAsked 6 (.iconst 1) 1 7 := ⟨by decide +kernel, rfl⟩
theorem rX2_bestAsked_7 : tq_D cX2_bestAsked 7 (.iadd) 1 8 := ⟨by decide +kernel, rfl⟩
theorem rX2_bestAsked_8 : tq_D cX2_bestAsked 8 (.istore_n 2) 1 9 := ⟨by decide +kernel, rfl⟩
theorem rX2_bestAsked_9 : tq_D cX2_bestAsked 9 (.iconst 0) 1 10 := ⟨by decide +kernel, rfl⟩
theorem rX2_bestAsked_10 : tq_D cX2_bestAsked 10 (.istore_n 3) 1 11 := ⟨by decide +kernel, rfl⟩
theorem rX2_bestAsked_11 : tq_D cX2_bestAsked 11 (.iload_n 3) 1 12 := ⟨by decide +kernel, rfl⟩
theorem rX2_bestAsked_12 : tq_D cX2_bestAsked 12 (.bipush 48) 2 14 := ⟨by decide +kernel, rfl⟩
theorem rX2_bestAsked_14 : tq_J cX2_bestAsked 14 (.if_icmp .ge) 46 17 := ⟨32, by decide +kernel, by decide, rfl⟩
theorem rX2_bestAsked_17 : tq_D cX2_bestAsked 17 (.iload_n 2) 1 18 := ⟨by decide +kernel, rfl⟩
theorem rX2_bestAsked_18 : tq_D cX2_bestAsked 18 (.iconst 1) 1 19 := ⟨by decide +kernel, rfl⟩
theorem rX2_bestAsked_19 : tq_J cX2_bestAsked 19 (.if_icmp .le) 46 22 := ⟨27, by decide +kernel, by decide, rfl⟩
theorem rX2_bestAsked_22 : tq_D cX2_bestAsked 22 (.aload_n 0) 1 23 := ⟨by decide +kernel, rfl⟩
theorem rX2_bestAsked_23 : tq_D cX2_bestAsked 23 (.iload_n 3) 1 24 := ⟨by decide +kernel, rfl⟩
theorem rX2_bestAsked_24 : tq_D cX2_bestAsked 24 (.invokevirtual 61) 3 27 := ⟨by decide +kernel, rfl⟩
theorem rX2_bestAsked_27 : tq_D cX2_bestAsked 27 (.istore 4) 2 29 := ⟨by decide +kernel, rfl⟩
theorem rX2_bestAsked_29 : tq_D cX2_bestAsked 29 (.iload 4) 2 31 := ⟨by decide +kernel, rfl⟩
theorem rX2_bestAsked_31 : tq_D cX2_bestAsked 31 (.iload_n 2) 1 32 := ⟨by decide +kernel, rfl⟩
theorem rX2_bestAsked_32 : tq_J cX2_bestAsked 32 (.if_icmp .ge) 40 35 := ⟨8, by decide +kernel, by decide, rfl⟩
theorem rX2_bestAsked_35 : tq_D cX2_bestAsked 35 (.iload 4) 2 37 := ⟨by decide +kernel, rfl⟩
theorem rX2_bestAsked_37 : tq_D cX2_bestAsked 37 (.istore_n 2) 1 38 := ⟨by decide +kernel, rfl⟩
theorem rX2_bestAsked_38 : tq_D cX2_bestAsked 38 (.iload_n 3) 1 39 := ⟨by decide +kernel, rfl⟩
theorem rX2_bestAsked_39 : tq_D cX2_bestAsked 39 (.istore_n 1) 1 40 := ⟨by decide +kernel, rfl⟩
theorem rX2_bestAsked_40 : tq_D cX2_bestAsked 40 (.iinc 3 1) 3 43 := ⟨by decide +kernel, rfl⟩
theorem rX2_bestAsked_43 : tq_J cX2_bestAsked 43 .goto 11 46 := ⟨(-32), by decide +kernel, by decide, rfl⟩
theorem rX2_bestAsked_46 : tq_D cX2_bestAsked 46 (.iload_n 1) 1 47 := ⟨by decide +kernel, rfl⟩
theorem rX2_bestAsked_47 : decode cX2_bestAsked 47 = .ok (.ireturn, 1) := by decide +kernel
noncomputable def FX2_bestAsked_j40L11 (I : tq_PI) (L : tq_PL) (a0 : Nat) (a1 : Int32) (a2 : Int32) (a3 : Int32) : Option ((Int32 × Int32 × Int32 × tq_PI) ⊕ (Int32 × tq_PI)) :=
  some (.inl (a1, a2, (a3 + 1), I))
noncomputable def FX2_bestAsked_s11 (I : tq_PI) (L : tq_PL) (a0 : Nat) (a1 : Int32) (a2 : Int32) (a3 : Int32) : Option ((Int32 × Int32 × Int32 × tq_PI) ⊕ (Int32 × tq_PI)) :=
  (if (48 : Int32) ≤ a3 then some (.inr (a1, I)) else (if a2 ≤ (1 : Int32) then some (.inr (a1, I)) else ((FX2_mostAlike I L a0 a3).bind fun p4 => (if a2 ≤ p4.1 then (FX2_bestAsked_j40L11 p4.2 L a0 a1 a2 a3) else (FX2_bestAsked_j40L11 p4.2 L a0 a3 p4.1 a3)))))
noncomputable def FX2_bestAsked (I : tq_PI) (L : tq_PL) (a0 : Nat) : Option (Int32 × tq_PI) :=
  ((FX2_fitCount I L a0).bind fun p1 => ((tq_it (fun p : Int32 × Int32 × Int32 × tq_PI => FX2_bestAsked_s11 p.2.2.2 L a0 p.1 p.2.1 p.2.2.1) tq_N ((-1 : Int32), (p1 + (1 : Int32)), (0 : Int32), I)).bind fun p6 => some (p6.1, p6.2)))
set_option maxRecDepth 100000 in
set_option maxHeartbeats 4000000 in
theorem FX2_bestAsked_j40L11_x {S : Nat × (Nat → Int32)} {d : Nat} {I : tq_PI} {L : tq_PL} {a0 : Nat} {a1 : Int32} {a2 : Int32} {a3 : Int32} (h0 : tq_sh0 a0 = 2) {q0 : Option Value → tq_PI → tq_PL → Prop} {out : (Int32 × Int32 × Int32 × tq_PI) ⊕ (Int32 × tq_PI)} (hf : FX2_bestAsked_j40L11 I L a0 a1 a2 a3 = some out) (hk : Sum.elim (fun p : Int32 × Int32 × Int32 × tq_PI => tq_X S mX2_bestAsked (d + 5) tq_k0 11 ([.ref a0, .int p.1, .int p.2.1, .int p.2.2.1, tq_u]) [] (tq_st p.2.2.2 L) (tq_Q q0)) (fun p : Int32 × tq_PI => tq_X S mX2_bestAsked (d + 5) tq_k0 46 ([tq_u, .int p.1, tq_u, tq_u, tq_u]) [] (tq_st p.2 L) (tq_Q q0)) out) : tq_X S mX2_bestAsked (d + 5) tq_k0 40 ([.ref a0, .int a1, .int a2, .int a3, tq_u]) ([]) (tq_st I L) (tq_Q q0) := by
  unfold FX2_bestAsked_j40L11 at hf
  refine tq_iinc (a3 + 1) ([.ref a0, .int a1, .int a2, .int (a3 + 1), tq_u]) rX2_bestAsked_40 rfl (tq_inc (by decide)) (Nat.le_of_ble_eq_true rfl) rfl ?_
  refine tq_goto rX2_bestAsked_43 ?_
  have hf := Option.some.inj hf
  subst hf
  exact tq_forget _ (tq_le_s (tq_le_s (tq_le_s (tq_le_s (tq_le_u tq_le_n))))) hk

set_option maxRecDepth 100000 in
set_option maxHeartbeats 4000000 in
theorem FX2_bestAsked_s11_x {S : Nat × (Nat → Int32)} {d : Nat} {I : tq_PI} {L : tq_PL} {a0 : Nat} {a1 : Int32} {a2 : Int32} {a3 : Int32} (h0 : tq_sh0 a0 = 2) {q0 : Option Value → tq_PI → tq_PL → Prop} {out : (Int32 × Int32 × Int32 × tq_PI) ⊕ (Int32 × tq_PI)} (hf : FX2_bestAsked_s11 I L a0 a1 a2 a3 = some out) (hk : Sum.elim (fun p : Int32 × Int32 × Int32 × tq_PI => tq_X S mX2_bestAsked (d + 5) tq_k0 11 ([.ref a0, .int p.1, .int p.2.1, .int p.2.2.1, tq_u]) [] (tq_st p.2.2.2 L) (tq_Q q0)) (fun p : Int32 × tq_PI => tq_X S mX2_bestAsked (d + 5) tq_k0 46 ([tq_u, .int p.1, tq_u, tq_u, tq_u]) [] (tq_st p.2 L) (tq_Q q0)) out) : tq_X S mX2_bestAsked (d + 5) tq_k0 11 ([.ref a0, .int a1, .int a2, .int a3, tq_u]) [] (tq_st I L) (tq_Q q0) := by
  unfold FX2_bestAsked_s11 at hf
  refine tq_iload_n rX2_bestAsked_11 rfl ?_
  refine tq_bipush (48 : Int32) rX2_bestAsked_12 (by decide) ?_
  refine tq_icmp_ge rX2_bestAsked_14 (fun c2 => ?_) (fun c2 => ?_)
  · rw [if_pos c2] at hf
    have hf := Option.some.inj hf
    subst hf
    exact tq_forget _ (tq_le_u (tq_le_s (tq_le_u (tq_le_u (tq_le_u tq_le_n))))) hk
  · rw [if_neg c2] at hf
    refine tq_iload_n rX2_bestAsked_17 rfl ?_
    refine tq_iconst (1 : Int32) rX2_bestAsked_18 (by decide) ?_
    refine tq_icmp_le rX2_bestAsked_19 (fun c3 => ?_) (fun c3 => ?_)
    · rw [if_pos c3] at hf
      have hf := Option.some.inj hf
      subst hf
      exact tq_forget _ (tq_le_u (tq_le_s (tq_le_u (tq_le_u (tq_le_u tq_le_n))))) hk
    · rw [if_neg c3] at hf
      refine tq_aload_n rX2_bestAsked_22 rfl ?_
      refine tq_iload_n rX2_bestAsked_23 rfl ?_
      obtain ⟨p4, e4, hf⟩ := Option.bind_eq_some_iff.mp hf
      refine ty_callVI p4.1 ([.int a3]) ([]) rX2_bestAsked_24 l_X2_61 moX2_mostAlike mvX2_mostAlike h0 rfl rfl (Nat.le_of_ble_eq_true rfl) ⟨rfl, rfl⟩ (CX2_mostAlike h0 e4) ?_
      refine tq_istore ([.ref a0, .int a1, .int a2, .int a3, .int p4.1]) rX2_bestAsked_27 (Nat.le_of_ble_eq_true rfl) rfl ?_
      refine tq_iload rX2_bestAsked_29 rfl ?_
      refine tq_iload_n rX2_bestAsked_31 rfl ?_
      refine tq_icmp_ge rX2_bestAsked_32 (fun c5 => ?_) (fun c5 => ?_)
      · rw [if_pos c5] at hf
        exact tq_forget _ (tq_le_s (tq_le_s (tq_le_s (tq_le_s (tq_le_u tq_le_n))))) (FX2_bestAsked_j40L11_x  h0 hf hk)
      · rw [if_neg c5] at hf
        refine tq_iload rX2_bestAsked_35 rfl ?_
        refine tq_istore_n ([.ref a0, .int a1, .int p4.1, .int a3, .int p4.1]) rX2_bestAsked_37 (Nat.le_of_ble_eq_true rfl) rfl ?_
        refine tq_iload_n rX2_bestAsked_38 rfl ?_
        refine tq_istore_n ([.ref a0, .int a3, .int p4.1, .int a3, .int p4.1]) rX2_bestAsked_39 (Nat.le_of_ble_eq_true rfl) rfl ?_
        exact tq_forget _ (tq_le_s (tq_le_s (tq_le_s (tq_le_s (tq_le_u tq_le_n))))) (FX2_bestAsked_j40L11_x  h0 hf hk)

set_option maxRecDepth 100000 in
set_option maxHeartbeats 4000000 in
theorem CX2_bestAsked {S : Nat × (Nat → Int32)} {d : Nat} {I : tq_PI} {L : tq_PL} {a0 : Nat} (h0 : tq_sh0 a0 = 2) {out : Int32 × tq_PI} (hf : FX2_bestAsked I L a0 = some out) : tq_K S mX2_bestAsked (d + 5) [.ref a0] I L (tq_one2 (some (.int out.1)) out.2 L) := by
  unfold FX2_bestAsked at hf
  refine tq_K_of (by decide) (Nat.le_of_ble_eq_true rfl) (ls := [.ref a0, tq_u, tq_u, tq_u, tq_u]) rfl ?_
  refine tq_iconst (-1 : Int32) rX2_bestAsked_0 (by decide) ?_
  refine tq_istore_n ([.ref a0, .int (-1 : Int32), tq_u, tq_u, tq_u]) rX2_bestAsked_1 (Nat.le_of_ble_eq_true rfl) rfl ?_
  refine tq_aload_n rX2_bestAsked_2 rfl ?_
  obtain ⟨p1, e1, hf⟩ := Option.bind_eq_some_iff.mp hf
  refine ty_callVI p1 ([]) ([]) rX2_bestAsked_3 l_X2_57 moX2_fitCount mvX2_fitCount h0 rfl rfl (Nat.le_of_ble_eq_true rfl) ⟨rfl, rfl⟩ (CX2_fitCount h0 e1) ?_
  refine tq_iconst (1 : Int32) rX2_bestAsked_6 (by decide) ?_
  refine tq_iadd rX2_bestAsked_7 ?_
  refine tq_istore_n ([.ref a0, .int (-1 : Int32), .int (p1 + (1 : Int32)), tq_u, tq_u]) rX2_bestAsked_8 (Nat.le_of_ble_eq_true rfl) rfl ?_
  refine tq_iconst (0 : Int32) rX2_bestAsked_9 (by decide) ?_
  refine tq_istore_n ([.ref a0, .int (-1 : Int32), .int (p1 + (1 : Int32)), .int (0 : Int32), tq_u]) rX2_bestAsked_10 (Nat.le_of_ble_eq_true rfl) rfl ?_
  obtain ⟨p6, e6, hf⟩ := Option.bind_eq_some_iff.mp hf
  refine tq_forget _ (tq_le_s (tq_le_s (tq_le_s (tq_le_s (tq_le_u tq_le_n))))) ?_
  refine tq_it_elim (P := fun p : Int32 × Int32 × Int32 × tq_PI => tq_X S mX2_bestAsked (d + 5) tq_k0 11 ([.ref a0, .int p.1, .int p.2.1, .int p.2.2.1, tq_u]) [] (tq_st p.2.2.2 L) (tq_Q (tq_one2 (some (.int out.1)) out.2 L))) (R := fun p : Int32 × tq_PI => tq_X S mX2_bestAsked (d + 5) tq_k0 46 ([tq_u, .int p.1, tq_u, tq_u, tq_u]) [] (tq_st p.2 L) (tq_Q (tq_one2 (some (.int out.1)) out.2 L))) (fun p o hp hk => FX2_bestAsked_s11_x  h0 hp hk) _ (((-1 : Int32), (p1 + (1 : Int32)), (0 : Int32), I)) _ e6 ?_
  show tq_X _ _ _ _ _ _ _ _ _
  refine tq_iload_n rX2_bestAsked_46 rfl ?_
  refine ty_iret rX2_bestAsked_47 rfl rfl ?_
  have hf := Option.some.inj hf
  subst hf
  exact ⟨rfl, rfl, rfl⟩

abbrev mX2_faintestAt : tq_M := (yX2_faintestAt, cX2_faintestAt, 3, (Option.some Jvm.ClassFile.FieldType.int), 0, 0)
theorem rX2_faintestAt_0 : tq_D cX2_faintestAt 0 (.aload_n 0) 1 1 := ⟨by decide +kernel, rfl⟩
theorem rX2_faintestAt_1 : tq_D cX2_faintestAt 1 (.iload_n 1) 1 2 := ⟨by decide +kernel, rfl⟩
theorem rX2_faintestAt_2 : tq_D cX2_faintestAt 2 (.invokevirtual 64) 3 5 := ⟨by decide +kernel, rfl⟩
theorem rX2_faintestAt_5 : tq_D cX2_faintestAt 5 (.iconst 0) 1 6 := ⟨by decide +kernel, rfl⟩
theorem rX2_faintestAt_6 : tq_D cX2_faintestAt 6 (.istore_n 2) 1 7 := ⟨by decide +kernel, rfl⟩
theorem rX2_faintestAt_7 : tq_D cX2_faintestAt 7 (.iload_n 2) 1 8 := ⟨by decide +kernel, rfl⟩
theorem rX2_faintestAt_8 : tq_D cX2_faintestAt 8 (.aload_n 0) 1 9 := ⟨by decide +kernel, rfl⟩
theorem rX2_faintestAt_9 : tq_D cX2_faintestAt 9 (.getfield 15) 3 12 := ⟨by decide +kernel, rfl⟩
theorem rX2_faintestAt_12 : tq_D cX2_faintestAt 12 (.arraylength) 1 13 := ⟨by decide +kernel, rfl⟩
theorem rX2_faintestAt_13 : tq_J cX2_faintestAt 13 (.if_icmp .ge) 33 16 := ⟨20, by decide +kernel, by decide, rfl⟩
theorem rX2_faintestAt_16 : tq_D cX2_faintestAt 16 (.aload_n 0) 1 17 := ⟨by decide +kernel, rfl⟩
theorem rX2_faintestAt_17 : tq_D cX2_faintestAt 17 (.getfield 15) 3 20 := ⟨by decide +kernel, rfl⟩
theorem rX2_faintestAt_20 : tq_D cX2_faintestAt 20 (.iload_n 2) 1 21 := ⟨by decide +kernel, rfl⟩
theorem rX2_faintestAt_21 : tq_D cX2_faintestAt 21 (.iaload) 1 22 := ⟨by decide +kernel, rfl⟩
theorem rX2_faintestAt_22 : tq_J cX2_faintestAt 22 (.ifCond .le) 27 25 := ⟨5, by decide +kernel, by decide, rfl⟩
theorem rX2_faintestAt_25 : tq_D cX2_faintestAt 25 (.iload_n 2) 1 26 := ⟨by decide +kernel, rfl⟩
theorem rX2_faintestAt_26 : decode cX2_faintestAt 26 = .ok (.ireturn, 1) := by decide +kernel
theorem rX2_faintestAt_27 : tq_D cX2_faintestAt 27 (.iinc 2 1) 3 30 := ⟨by decide +kernel, rfl⟩
theorem rX2_faintestAt_30 : tq_J cX2_faintestAt 30 .goto 7 33 := ⟨(-23), by decide +kernel, by decide, rfl⟩
theorem rX2_faintestAt_33 : tq_D cX2_faintestAt 33 (.iconst (-1)) 1 34 := ⟨by decide +kernel, rfl⟩
theorem rX2_faintestAt_34 : decode cX2_faintestAt 34 = .ok (.ireturn, 1) := by decide +kernel
noncomputable def FX2_faintestAt_s7 (I : tq_PI) (L : tq_PL) (a0 : Nat) (a2 : Int32) : Option ((Int32) ⊕ ((Unit) ⊕ (Int32 × tq_PI))) :=
  (if (10 : Int32) ≤ a2 then some (.inr (.inl ())) else (if 0 ≤ a2 ∧ a2 < 10 then (if (I (tq_rg a0 1) a2.toNatClampNeg) ≤ 0 then some (.inl (a2 + 1)) else some (.inr (.inr (a2, I)))) else none))
noncomputable def FX2_faintestAt (I : tq_PI) (L : tq_PL) (a0 : Nat) (a1 : Int32) : Option (Int32 × tq_PI) :=
  ((FX2_listenAt I L a0 a1).bind fun p1 => ((tq_it (fun p : Int32 => FX2_faintestAt_s7 p1 L a0 p) tq_N (0 : Int32)).bind fun p5 => p5.elim (fun t6 => some ((-1 : Int32), p1)) (fun t6 => some t6)))
set_option maxRecDepth 100000 in
set_option maxHeartbeats 4000000 in
theorem FX2_faintestAt_s7_x {S : Nat × (Nat → Int32)} {d : Nat} {I : tq_PI} {L : tq_PL} {a0 : Nat} {a2 : Int32} (h0 : tq_sh0 a0 = 2) {q0 : Option Value → tq_PI → tq_PL → Prop} {out : (Int32) ⊕ ((Unit) ⊕ (Int32 × tq_PI))} (hf : FX2_faintestAt_s7 I L a0 a2 = some out) (hk : Sum.elim (fun p : Int32 => tq_X S mX2_faintestAt (d + 4) tq_k0 7 ([.ref a0, tq_u, .int p]) [] (tq_st I L) (tq_Q q0)) (Sum.elim (fun p : Unit => tq_X S mX2_faintestAt (d + 4) tq_k0 33 ([tq_u, tq_u, tq_u]) [] (tq_st I L) (tq_Q q0)) (fun p : Int32 × tq_PI => q0 (some (.int p.1)) p.2 L)) out) : tq_X S mX2_faintestAt (d + 4) tq_k0 7 ([.ref a0, tq_u, .int a2]) [] (tq_st I L) (tq_Q q0) := by
  unfold FX2_faintestAt_s7 at hf
  refine tq_iload_n rX2_faintestAt_7 rfl ?_
  refine tq_aload_n rX2_faintestAt_8 rfl ?_
  refine ty_getR rX2_faintestAt_9 f_X2_15 rfl h0 (hp_2_1 h0).1 ?_
  refine ty_alen (v := 10) rX2_faintestAt_12 (hp_2_1 h0).2.1 (by decide) (hp_2_1 h0).2.2 rfl ?_
  refine tq_icmp_ge rX2_faintestAt_13 (fun c2 => ?_) (fun c2 => ?_)
  · rw [if_pos c2] at hf
    have hf := Option.some.inj hf
    subst hf
    exact tq_forget _ (tq_le_u (tq_le_u (tq_le_u tq_le_n))) hk
  · rw [if_neg c2] at hf
    refine tq_aload_n rX2_faintestAt_16 rfl ?_
    refine ty_getR rX2_faintestAt_17 f_X2_15 rfl h0 (hp_2_1 h0).1 ?_
    refine tq_iload_n rX2_faintestAt_20 rfl ?_
    obtain ⟨g3, hf⟩ := tq_chk hf
    refine ty_iald (v := 10) rX2_faintestAt_21 (hp_2_1 h0).2.1 (hp_2_1 h0).2.2 rfl (by decide) g3 ?_
    refine tq_if_le rX2_faintestAt_22 (fun c4 => ?_) (fun c4 => ?_)
    · rw [if_pos c4] at hf
      refine tq_iinc (a2 + 1) ([.ref a0, tq_u, .int (a2 + 1)]) rX2_faintestAt_27 rfl (tq_inc (by decide)) (Nat.le_of_ble_eq_true rfl) rfl ?_
      refine tq_goto rX2_faintestAt_30 ?_
      have hf := Option.some.inj hf
      subst hf
      exact tq_forget _ (tq_le_s (tq_le_u (tq_le_s tq_le_n))) hk
    · rw [if_neg c4] at hf
      refine tq_iload_n rX2_faintestAt_25 rfl ?_
      refine ty_iret rX2_faintestAt_26 rfl rfl ?_
      have hf := Option.some.inj hf
      subst hf
      exact hk

set_option maxRecDepth 100000 in
set_option maxHeartbeats 4000000 in
theorem CX2_faintestAt {S : Nat × (Nat → Int32)} {d : Nat} {I : tq_PI} {L : tq_PL} {a0 : Nat} {a1 : Int32} (h0 : tq_sh0 a0 = 2) {out : Int32 × tq_PI} (hf : FX2_faintestAt I L a0 a1 = some out) : tq_K S mX2_faintestAt (d + 4) [.ref a0, .int a1] I L (tq_one2 (some (.int out.1)) out.2 L) := by
  unfold FX2_faintestAt at hf
  refine tq_K_of (by decide) (Nat.le_of_ble_eq_true rfl) (ls := [.ref a0, .int a1, tq_u]) rfl ?_
  refine tq_aload_n rX2_faintestAt_0 rfl ?_
  refine tq_iload_n rX2_faintestAt_1 rfl ?_
  obtain ⟨p1, e1, hf⟩ := Option.bind_eq_some_iff.mp hf
  refine ty_callVV ([.int a1]) ([]) rX2_faintestAt_2 l_X2_64 moX2_listenAt mvX2_listenAt h0 rfl rfl (Nat.le_of_ble_eq_true rfl) ⟨rfl, rfl⟩ (CX2_listenAt h0 e1) ?_
  refine tq_iconst (0 : Int32) rX2_faintestAt_5 (by decide) ?_
  refine tq_istore_n ([.ref a0, .int a1, .int (0 : Int32)]) rX2_faintestAt_6 (Nat.le_of_ble_eq_true rfl) rfl ?_
  obtain ⟨p5, e5, hf⟩ := Option.bind_eq_some_iff.mp hf
  refine tq_forget _ (tq_le_s (tq_le_u (tq_le_s tq_le_n))) ?_
  refine tq_it_elim (P := fun p : Int32 => tq_X S mX2_faintestAt (d + 4) tq_k0 7 ([.ref a0, tq_u, .int p]) [] (tq_st p1 L) (tq_Q (tq_one2 (some (.int out.1)) out.2 L))) (R := Sum.elim (fun p : Unit => tq_X S mX2_faintestAt (d + 4) tq_k0 33 ([tq_u, tq_u, tq_u]) [] (tq_st p1 L) (tq_Q (tq_one2 (some (.int out.1)) out.2 L))) (fun p : Int32 × tq_PI => (tq_one2 (some (.int out.1)) out.2 L) (some (.int p.1)) p.2 L)) (fun p o hp hk => FX2_faintestAt_s7_x  h0 hp hk) _ ((0 : Int32)) _ e5 ?_
  rcases tq_selim hf with ⟨t6, t6q, hf⟩ | ⟨t6, t6q, hf⟩
  · rw [t6q]
    show tq_X _ _ _ _ _ _ _ _ _
    refine tq_iconst (-1 : Int32) rX2_faintestAt_33 (by decide) ?_
    refine ty_iret rX2_faintestAt_34 rfl rfl ?_
    have hf := Option.some.inj hf
    subst hf
    exact ⟨rfl, rfl, rfl⟩
  · rw [t6q]
    have hf := Option.some.inj hf
    subst hf
    exact ⟨rfl, rfl, rfl⟩

abbrev mX2_loudestAt : tq_M := (yX2_loudestAt, cX2_loudestAt, 3, (Option.some Jvm.ClassFile.FieldType.int), 0, 0)
theorem rX2_loudestAt_0 : tq_D cX2_loudestAt 0 (.aload_n 0) 1 1 := ⟨by decide +kernel, rfl⟩
theorem rX2_loudestAt_1 : tq_D cX2_loudestAt 1 (.iload_n 1) 1 2 := ⟨by decide +kernel, rfl⟩
theorem rX2_loudestAt_2 : tq_D cX2_loudestAt 2 (.invokevirtual 64) 3 5 := ⟨by decide +kernel, rfl⟩
theorem rX2_loudestAt_5 : tq_D cX2_loudestAt 5 (.aload_n 0) 1 6 := ⟨by decide +kernel, rfl⟩
theorem rX2_loudestAt_6 : tq_D cX2_loudestAt 6 (.getfield 15) 3 9 := ⟨by decide +kernel, rfl⟩
theorem rX2_loudestAt_9 : tq_D cX2_loudestAt 9 (.arraylength) 1 10 := ⟨by decide +kernel, rfl⟩
theorem rX2_loudestAt_10 : tq_D cX2_loudestAt 10 (.iconst 1) 1 11 := ⟨by decide +kernel, rfl⟩
theorem rX2_loudestAt_11 : tq_D cX2_loudestAt 11 (.isub) 1 12 := ⟨by decide +kernel, rfl⟩
theorem rX2_loudestAt_12 : tq_D cX2_loudestAt 12 (.istore_n 2) 1 13 := ⟨by decide +kernel, rfl⟩
theorem rX2_loudestAt_13 : tq_D cX2_loudestAt 13 (.iload_n 2) 1 14 := ⟨by decide +kernel, rfl⟩
theorem rX2_loudestAt_14 : tq_J cX2_loudestAt 14 (.ifCond .lt) 34 17 := ⟨20, by decide +kernel, by decide, rfl⟩
theorem rX2_loudestAt_17 : tq_D cX2_loudestAt 17 (.aload_n 0) 1 18 := ⟨by decide +kernel, rfl⟩
theorem rX2_loudestAt_18 : tq_D cX2_loudestAt 18 (.getfield 15) 3 21 := ⟨by decide +kernel, rfl⟩
theorem rX2_loudestAt_21 : tq_D cX2_loudestAt 21 (.iload_n 2) 1 22 := ⟨by decide +kernel, rfl⟩
theorem rX2_loudestAt_22 : tq_D cX2_loudestAt 22 (.iaload) 1 23 := ⟨by decide +kernel, rfl⟩
theorem rX2_loudestAt_23 : tq_J cX2_loudestAt 23 (.ifCond .le) 28 26 := ⟨5, by decide +kernel, by decide, rfl⟩
theorem rX2_loudestAt_26 : tq_D cX2_loudestAt 26 (.iload_n 2) 1 27 := ⟨by decide +kernel, rfl⟩
theorem rX2_loudestAt_27 : decode cX2_loudestAt 27 = .ok (.ireturn, 1) := by decide +kernel
theorem rX2_loudestAt_28 : tq_D cX2_loudestAt 28 (.iinc 2 (-1)) 3 31 := ⟨by decide +kernel, rfl⟩
theorem rX2_loudestAt_31 : tq_J cX2_loudestAt 31 .goto 13 34 := ⟨(-18), by decide +kernel, by decide, rfl⟩
theorem rX2_loudestAt_34 : tq_D cX2_loudestAt 34 (.iconst (-1)) 1 35 := ⟨by decide +kernel, rfl⟩
theorem rX2_loudestAt_35 : decode cX2_loudestAt 35 = .ok (.ireturn, 1) := by decide +kernel
noncomputable def FX2_loudestAt_s13 (I : tq_PI) (L : tq_PL) (a0 : Nat) (a2 : Int32) : Option ((Int32) ⊕ ((Unit) ⊕ (Int32 × tq_PI))) :=
  (if a2 < 0 then some (.inr (.inl ())) else (if 0 ≤ a2 ∧ a2 < 10 then (if (I (tq_rg a0 1) a2.toNatClampNeg) ≤ 0 then some (.inl (a2 + (-1))) else some (.inr (.inr (a2, I)))) else none))
noncomputable def FX2_loudestAt (I : tq_PI) (L : tq_PL) (a0 : Nat) (a1 : Int32) : Option (Int32 × tq_PI) :=
  ((FX2_listenAt I L a0 a1).bind fun p1 => ((tq_it (fun p : Int32 => FX2_loudestAt_s13 p1 L a0 p) tq_N ((10 : Int32) - (1 : Int32))).bind fun p5 => p5.elim (fun t6 => some ((-1 : Int32), p1)) (fun t6 => some t6)))
set_option maxRecDepth 100000 in
set_option maxHeartbeats 4000000 in
theorem FX2_loudestAt_s13_x {S : Nat × (Nat → Int32)} {d : Nat} {I : tq_PI} {L : tq_PL} {a0 : Nat} {a2 : Int32} (h0 : tq_sh0 a0 = 2) {q0 : Option Value → tq_PI → tq_PL → Prop} {out : (Int32) ⊕ ((Unit) ⊕ (Int32 × tq_PI))} (hf : FX2_loudestAt_s13 I L a0 a2 = some out) (hk : Sum.elim (fun p : Int32 => tq_X S mX2_loudestAt (d + 4) tq_k0 13 ([.ref a0, tq_u, .int p]) [] (tq_st I L) (tq_Q q0)) (Sum.elim (fun p : Unit => tq_X S mX2_loudestAt (d + 4) tq_k0 34 ([tq_u, tq_u, tq_u]) [] (tq_st I L) (tq_Q q0)) (fun p : Int32 × tq_PI => q0 (some (.int p.1)) p.2 L)) out) : tq_X S mX2_loudestAt (d + 4) tq_k0 13 ([.ref a0, tq_u, .int a2]) [] (tq_st I L) (tq_Q q0) := by
  unfold FX2_loudestAt_s13 at hf
  refine tq_iload_n rX2_loudestAt_13 rfl ?_
  refine tq_if_lt rX2_loudestAt_14 (fun c2 => ?_) (fun c2 => ?_)
  · rw [if_pos c2] at hf
    have hf := Option.some.inj hf
    subst hf
    exact tq_forget _ (tq_le_u (tq_le_u (tq_le_u tq_le_n))) hk
  · rw [if_neg c2] at hf
    refine tq_aload_n rX2_loudestAt_17 rfl ?_
    refine ty_getR rX2_loudestAt_18 f_X2_15 rfl h0 (hp_2_1 h0).1 ?_
    refine tq_iload_n rX2_loudestAt_21 rfl ?_
    obtain ⟨g3, hf⟩ := tq_chk hf
    refine ty_iald (v := 10) rX2_loudestAt_22 (hp_2_1 h0).2.1 (hp_2_1 h0).2.2 rfl (by decide) g3 ?_
    refine tq_if_le rX2_loudestAt_23 (fun c4 => ?_) (fun c4 => ?_)
    · rw [if_pos c4] at hf
      refine tq_iinc (a2 + (-1)) ([.ref a0, tq_u, .int (a2 + (-1))]) rX2_loudestAt_28 rfl (tq_inc (by decide)) (Nat.le_of_ble_eq_true rfl) rfl ?_
      refine tq_goto rX2_loudestAt_31 ?_
      have hf := Option.some.inj hf
      subst hf
      exact tq_forget _ (tq_le_s (tq_le_u (tq_le_s tq_le_n))) hk
    · rw [if_neg c4] at hf
      refine tq_iload_n rX2_loudestAt_26 rfl ?_
      refine ty_iret rX2_loudestAt_27 rfl rfl ?_
      have hf := Option.some.inj hf
      subst hf
      exact hk

set_option maxRecDepth 100000 in
set_option maxHeartbeats 4000000 in
theorem CX2_loudestAt {S : Nat × (Nat → Int32)} {d : Nat} {I : tq_PI} {L : tq_PL} {a0 : Nat} {a1 : Int32} (h0 : tq_sh0 a0 = 2) {out : Int32 × tq_PI} (hf : FX2_loudestAt I L a0 a1 = some out) : tq_K S mX2_loudestAt (d + 4) [.ref a0, .int a1] I L (tq_one2 (some (.int out.1)) out.2 L) := by
  unfold FX2_loudestAt at hf
  refine tq_K_of (by decide) (Nat.le_of_ble_eq_true rfl) (ls := [.ref a0, .int a1, tq_u]) rfl ?_
  refine tq_aload_n rX2_loudestAt_0 rfl ?_
  refine tq_iload_n rX2_loudestAt_1 rfl ?_
  obtain ⟨p1, e1, hf⟩ := Option.bind_eq_some_iff.mp hf
  refine ty_callVV ([.int a1]) ([]) rX2_loudestAt_2 l_X2_64 moX2_listenAt mvX2_listenAt h0 rfl rfl (Nat.le_of_ble_eq_true rfl) ⟨rfl, rfl⟩ (CX2_listenAt h0 e1) ?_
  refine tq_aload_n rX2_loudestAt_5 rfl ?_
  refine ty_getR rX2_loudestAt_6 f_X2_15 rfl h0 (hp_2_1 h0).1 ?_
  refine ty_alen (v := 10) rX2_loudestAt_9 (hp_2_1 h0).2.1 (by decide) (hp_2_1 h0).2.2 rfl ?_
  refine tq_iconst (1 : Int32) rX2_loudestAt_10 (by decide) ?_
  refine tq_isub rX2_loudestAt_11 ?_
  refine tq_istore_n ([.ref a0, .int a1, .int ((10 : Int32) - (1 : Int32))]) rX2_loudestAt_12 (Nat.le_of_ble_eq_true rfl) rfl ?_
  obtain ⟨p5, e5, hf⟩ := Option.bind_eq_some_iff.mp hf
  refine tq_forget _ (tq_le_s (tq_le_u (tq_le_s tq_le_n))) ?_
  refine tq_it_elim (P := fun p : Int32 => tq_X S mX2_loudestAt (d + 4) tq_k0 13 ([.ref a0, tq_u, .int p]) [] (tq_st p1 L) (tq_Q (tq_one2 (some (.int out.1)) out.2 L))) (R := Sum.elim (fun p : Unit => tq_X S mX2_loudestAt (d + 4) tq_k0 34 ([tq_u, tq_u, tq_u]) [] (tq_st p1 L) (tq_Q (tq_one2 (some (.int out.1)) out.2 L))) (fun p : Int32 × tq_PI => (tq_one2 (some (.int out.1)) out.2 L) (some (.int p.1)) p.2 L)) (fun p o hp hk => FX2_loudestAt_s13_x  h0 hp hk) _ (((10 : Int32) - (1 : Int32))) _ e5 ?_
  rcases tq_selim hf with ⟨t6, t6q, hf⟩ | ⟨t6, t6q, hf⟩
  · rw [t6q]
    show tq_X _ _ _ _ _ _ _ _ _
    refine tq_iconst (-1 : Int32) rX2_loudestAt_34 (by decide) ?_
    refine ty_iret rX2_loudestAt_35 rfl rfl ?_
    have hf := Option.some.inj hf
    subst hf
    exact ⟨rfl, rfl, rfl⟩
  · rw [t6q]
    have hf := Option.some.inj hf
    subst hf
    exact ⟨rfl, rfl, rfl⟩

abbrev mX3_rowMask : tq_M := (yX3_rowMask, cX3_rowMask, 2, (Option.some Jvm.ClassFile.FieldType.long), 0, 0)
theorem rX3_rowMask_0 : tq_D cX3_rowMask 0 (.iload_n 1) 1 1 := ⟨by decide +kernel, rfl⟩
theorem rX3_rowMask_1 : tq_J cX3_rowMask 1 (.ifCond .lt) 10 4 := ⟨9, by decide +kernel, by decide, rfl⟩
theorem rX3_rowMask_4 : tq_D cX3_rowMask 4 (.iload_n 1) 1 5 := ⟨by decide +kernel, rfl⟩
theorem rX3_rowMask_5 : tq_D cX3_rowMask 5 (.bipush 6) 2 7 := ⟨by decide +kernel, rfl⟩
theorem rX3_rowMask_7 : tq_J cX3_rowMask 7 (.if_icmp .lt) 14 10 := ⟨7, by decide +kernel, by decide, rfl⟩
theorem rX3_rowMask_10 : tq_D cX3_rowMask 10 (.lconst 0) 1 11 := ⟨by decide +kernel, rfl⟩
theorem rX3_rowMask_11 : tq_J cX3_rowMask 11 .goto 27 14 := ⟨16, by decide +kernel, by decide, rfl⟩
theorem rX3_rowMask_14 : tq_D cX3_rowMask 14 (.lconst 1) 1 15 := ⟨by decide +kernel, rfl⟩
theorem rX3_rowMask_15 : tq_D cX3_rowMask 15 (.aload_n 0) 1 16 := ⟨by decide +kernel, rfl⟩
theorem rX3_rowMask_16 : tq_D cX3_rowMask 16 (.getfield 9) 3 19 := ⟨by decide +kernel, rfl⟩
theorem rX3_rowMask_19 : tq_D cX3_rowMask 19 (.lshl) 1 20 := ⟨by decide +kernel, rfl⟩
theorem rX3_rowMask_20 : tq_D cX3_rowMask 20 (.lconst 1) 1 21 := ⟨by decide +kernel, rfl⟩
theorem rX3_rowMask_21 : tq_D cX3_rowMask 21 (.lsub) 1 22 := ⟨by decide +kernel, rfl⟩
theorem rX3_rowMask_22 : tq_D cX3_rowMask 22 (.bipush 8) 2 24 := ⟨by decide +kernel, rfl⟩
theorem rX3_rowMask_24 : tq_D cX3_rowMask 24 (.iload_n 1) 1 25 := ⟨by decide +kernel, rfl⟩
theorem rX3_rowMask_25 : tq_D cX3_rowMask 25 (.imul) 1 26 := ⟨by decide +kernel, rfl⟩
theorem rX3_rowMask_26 : tq_D cX3_rowMask 26 (.lshl) 1 27 := ⟨by decide +kernel, rfl⟩
theorem rX3_rowMask_27 : decode cX3_rowMask 27 = .ok (.lreturn, 1) := by decide +kernel
noncomputable def FX3_rowMask_j10 (I : tq_PI) (L : tq_PL)  : Int64 :=
  (0 : Int64)
noncomputable def FX3_rowMask (I : tq_PI) (L : tq_PL) (a0 : Nat) (a1 : Int32) : Int64 :=
  (if a1 < 0 then (FX3_rowMask_j10 I L ) else (if a1 < (6 : Int32) then ((((1 : Int64) <<< (Int32.toInt64 (I a0 0) &&& 63)) - (1 : Int64)) <<< (Int32.toInt64 ((8 : Int32) * a1) &&& 63)) else (FX3_rowMask_j10 I L )))
set_option maxRecDepth 100000 in
set_option maxHeartbeats 4000000 in
theorem FX3_rowMask_j10_x {S : Nat × (Nat → Int32)} {d : Nat} {I : tq_PI} {L : tq_PL}   {q0 : Option Value → tq_PI → tq_PL → Prop} {out : Int64} (hf : FX3_rowMask_j10 I L = out) (hk : q0 (some (.long out)) I L) : tq_X S mX3_rowMask d tq_k0 10 ([tq_u, tq_u]) ([]) (tq_st I L) (tq_Q q0) := by
  unfold FX3_rowMask_j10 at hf
  refine tq_lconst (0 : Int64) rX3_rowMask_10 (by decide) ?_
  refine tq_goto rX3_rowMask_11 ?_
  refine ty_lret rX3_rowMask_27 rfl rfl ?_
  subst hf
  exact hk

set_option maxRecDepth 100000 in
set_option maxHeartbeats 4000000 in
theorem CX3_rowMask {S : Nat × (Nat → Int32)} {d : Nat} {I : tq_PI} {L : tq_PL} {a0 : Nat} {a1 : Int32} (h0 : tq_sh0 a0 = 3) {out : Int64} (hf : FX3_rowMask I L a0 a1 = out) : tq_K S mX3_rowMask d [.ref a0, .int a1] I L (tq_one2 (some (.long out)) I L) := by
  unfold FX3_rowMask at hf
  refine tq_K_of (by decide) (Nat.le_of_ble_eq_true rfl) (ls := [.ref a0, .int a1]) rfl ?_
  refine tq_iload_n rX3_rowMask_0 rfl ?_
  refine tq_if_lt rX3_rowMask_1 (fun c1 => ?_) (fun c1 => ?_)
  · rw [if_pos c1] at hf
    exact tq_forget _ (tq_le_u (tq_le_u tq_le_n)) (FX3_rowMask_j10_x   hf ⟨rfl, rfl, rfl⟩)
  · rw [if_neg c1] at hf
    refine tq_iload_n rX3_rowMask_4 rfl ?_
    refine tq_bipush (6 : Int32) rX3_rowMask_5 (by decide) ?_
    refine tq_icmp_lt rX3_rowMask_7 (fun c2 => ?_) (fun c2 => ?_)
    · rw [if_pos c2] at hf
      refine tq_lconst (1 : Int64) rX3_rowMask_14 (by decide) ?_
      refine tq_aload_n rX3_rowMask_15 rfl ?_
      refine ty_getI rX3_rowMask_16 f_X3_9 rfl h0 ?_
      refine tq_lshl rX3_rowMask_19 ?_
      refine tq_lconst (1 : Int64) rX3_rowMask_20 (by decide) ?_
      refine tq_lsub rX3_rowMask_21 ?_
      refine tq_bipush (8 : Int32) rX3_rowMask_22 (by decide) ?_
      refine tq_iload_n rX3_rowMask_24 rfl ?_
      refine tq_imul rX3_rowMask_25 ?_
      refine tq_lshl rX3_rowMask_26 ?_
      refine ty_lret rX3_rowMask_27 rfl rfl ?_
      subst hf
      exact ⟨rfl, rfl, rfl⟩
    · rw [if_neg c2] at hf
      exact tq_forget _ (tq_le_u (tq_le_u tq_le_n)) (FX3_rowMask_j10_x   hf ⟨rfl, rfl, rfl⟩)

abbrev mX3_size : tq_M := (yX3_size, cX3_size, 4, (Option.none : Option Jvm.ClassFile.FieldType), 0, 0)
theorem moX3_rowMask : tq_mok mX3_rowMask 1 := ⟨tq_sg1 _ (List.mem_of_getElem? (i := 3) rfl), tq_sg2 _ (List.mem_of_getElem? (i := 200) rfl), ⟨by decide, by decide, by decide +kernel⟩, by decide⟩
theorem mvX3_rowMask : 3 < 13 ∧ (tq_cl 3).1 = mX3_rowMask.1.cls ∧ Cond.instanceMethod mX3_rowMask.1 ∈ lw_tbl ∧ Cond.selects mX3_rowMask.1.cls mX3_rowMask.1 mX3_rowMask.1 ∈ lw_tbl := ⟨by decide, rfl, tq_sg2 _ (List.mem_of_getElem? (i := 198) rfl), tq_sg2 _ (List.mem_of_getElem? (i := 199) rfl)⟩
theorem k_X3_47 : Cond.constantLong RX3 47 (1103823438081) ∈ lw_tbl := tq_sg2 _ (List.mem_of_getElem? (i := 201) rfl)
theorem l_X3_43 : tq_lok RX3 43 mX3_rowMask.1 := Or.inl (tq_sg2 _ (List.mem_of_getElem? (i := 197) rfl))
theorem rX3_size_0 : tq_D cX3_size 0 (.aload_n 0) 1 1 := ⟨by decide +kernel, rfl⟩
theorem rX3_size_1 : tq_D cX3_size 1 (.iload_n 1) 1 2 := ⟨by decide +kernel, rfl⟩
theorem rX3_size_2 : tq_D cX3_size 2 (.putfield 9) 3 5 := ⟨by decide +kernel, rfl⟩
theorem rX3_size_5 : tq_D cX3_size 5 (.aload_n 0) 1 6 := ⟨by decide +kernel, rfl⟩
theorem rX3_size_6 : tq_D cX3_size 6 (.iload_n 2) 1 7 := ⟨by decide +kernel, rfl⟩
theorem rX3_size_7 : tq_D cX3_size 7 (.putfield 15) 3 10 := ⟨by decide +kernel, rfl⟩
theorem rX3_size_10 : tq_D cX3_size 10 (.aload_n 0) 1 11 := ⟨by decide +kernel, rfl⟩
theorem rX3_size_11 : tq_D cX3_size 11 (.lconst 0) 1 12 := ⟨by decide +kernel, rfl⟩
theorem rX3_size_12 : tq_D cX3_size 12 (.putfield 18) 3 15 := ⟨by decide +kernel, rfl⟩
theorem rX3_size_15 : tq_D cX3_size 15 (.iconst 0) 1 16 := ⟨by decide +kernel, rfl⟩
theorem rX3_size_16 : tq_D cX3_size 16 (.istore_n 3) 1 17 := ⟨by decide +kernel, rfl⟩
theorem rX3_size_17 : tq_D cX3_size 17 (.iload_n 3) 1 18 := ⟨by decide +kernel, rfl⟩
theorem rX3_size_18 : tq_D cX3_size 18 (.aload_n 0) 1 19 := ⟨by decide +kernel, rfl⟩
theorem rX3_size_19 : tq_D cX3_size 19 (.getfield 15) 3 22 := ⟨by decide +kernel, rfl⟩
theorem rX3_size_22 : tq_J cX3_size 22 (.if_icmp .ge) 51 25 := ⟨29, by decide +kernel, by decide, rfl⟩
theorem rX3_size_25 : tq_D cX3_size 25 (.iload_n 3) 1 26 := ⟨by decide +kernel, rfl⟩
theorem rX3_size_26 : tq_D cX3_size 26 (.bipush 6) 2 28 := ⟨by decide +kernel, rfl⟩
theorem rX3_size_28 : tq_J cX3_size 28 (.if_icmp .ge) 51 31 := ⟨23, by decide +kernel, by decide, rfl⟩
theorem rX3_size_31 : tq_D cX3_size 31 (.aload_n 0) 1 32 := ⟨by decide +kernel, rfl⟩
theorem rX3_size_32 : tq_D cX3_size 32 (.dup) 1 33 := ⟨by decide +kernel, rfl⟩
theorem rX3_size_33 : tq_D cX3_size 33 (.getfield 18) 3 36 := ⟨by decide +kernel, rfl⟩
theorem rX3_size_36 : tq_D cX3_size 36 (.aload_n 0) 1 37 := ⟨by decide +kernel, rfl⟩
theorem rX3_size_37 : tq_D cX3_size 37 (.iload_n 3) 1 38 := ⟨by decide +kernel, rfl⟩
theorem rX3_size_38 : tq_D cX3_size 38 (.invokevirtual 43) 3 41 := ⟨by decide +kernel, rfl⟩
theorem rX3_size_41 : tq_D cX3_size 41 (.lor) 1 42 := ⟨by decide +kernel, rfl⟩
theorem rX3_size_42 : tq_D cX3_size 42 (.putfield 18) 3 45 := ⟨by decide +kernel, rfl⟩
theorem rX3_size_45 : tq_D cX3_size 45 (.iinc 3 1) 3 48 := ⟨by decide +kernel, rfl⟩
theorem rX3_size_48 : tq_J cX3_size 48 .goto 17 51 := ⟨(-31), by decide +kernel, by decide, rfl⟩
theorem rX3_size_51 : tq_D cX3_size 51 (.aload_n 0) 1 52 := ⟨by decide +kernel, rfl⟩
theorem rX3_size_52 : tq_D cX3_size 52 (.ldc2_w 47) 3 55 := ⟨by decide +kernel, rfl⟩
theorem rX3_size_55 : tq_D cX3_size 55 (.aload_n 0) 1 56 := ⟨by decide +kernel, rfl⟩
theorem rX3_size_56 : tq_D cX3_size 56 (.getfield 18) 3 59 := ⟨by decide +kernel, rfl⟩
theorem rX3_size_59 : tq_D cX3_size 59 (.land) 1 60 := ⟨by decide +kernel, rfl⟩
theorem rX3_size_60 : tq_D cX3_size 60 (.putfield 22) 3 63 := ⟨by decide +kernel, rfl⟩
theorem rX3_size_63 : tq_D cX3_size 63 (.aload_n 0) 1 64 := ⟨by decide +kernel, rfl⟩
theorem rX3_size_64 : tq_D cX3_size 64 (.ldc2_w 47) 3 67 := ⟨by decide +kernel, rfl⟩
theorem rX3_size_67 : tq_D cX3_size 67 (.aload_n 0) 1 68 := ⟨by decide +kernel, rfl⟩
theorem rX3_size_68 : tq_D cX3_size 68 (.getfield 9) 3 71 := ⟨by decide +kernel, rfl⟩
theorem rX3_size_71 : tq_D cX3_size 71 (.iconst 1) 1 72 := ⟨by decide +kernel, rfl⟩
theorem rX3_size_72 : tq_D cX3_size 72 (.isub) 1 73 := ⟨by decide +kernel, rfl⟩
theorem rX3_size_73 : tq_D cX3_size 73 (.lshl) 1 74 := ⟨by decide +kernel, rfl⟩
theorem rX3_size_74 : tq_D cX3_size 74 (.aload_n 0) 1 75 := ⟨by decide +kernel, rfl⟩
theorem rX3_size_75 : tq_D cX3_size 75 (.getfield 18) 3 78 := ⟨by decide +kernel, rfl⟩
theorem rX3_size_78 : tq_D cX3_size 78 (.land) 1 79 := ⟨by decide +kernel, rfl⟩
theorem rX3_size_79 : tq_D cX3_size 79 (.putfield 25) 3 82 := ⟨by decide +kernel, rfl⟩
theorem rX3_size_82 : tq_D cX3_size 82 (.aload_n 0) 1 83 := ⟨by decide +kernel, rfl⟩
theorem rX3_size_83 : tq_D cX3_size 83 (.aload_n 0) 1 84 := ⟨by decide +kernel, rfl⟩
theorem rX3_size_84 : tq_D cX3_size 84 (.aload_n 0) 1 85 := ⟨by decide +kernel, rfl⟩
theorem rX3_size_85 : tq_D cX3_size 85 (.getfield 15) 3 88 := ⟨by decide +kernel, rfl⟩
theorem rX3_size_88 : tq_D cX3_size 88 (.iconst 1) 1 89 := ⟨by decide +kernel, rfl⟩
theorem rX3_size_89 : tq_D cX3_size 89 (.isub) 1 90 := ⟨by decide +kernel, rfl⟩
theorem rX3_size_90 : tq_D cX3_size 90 (.invokevirtual 43) 3 93 := ⟨by decide +kernel, rfl⟩
theorem rX3_size_93 : tq_D cX3_size 93 (.putfield 28) 3 96 := ⟨by decide +kernel, rfl⟩
theorem rX3_size_96 : decode cX3_size 96 = .ok (.return_, 1) := by decide +kernel
noncomputable def FX3_size_s17 (I : tq_PI) (L : tq_PL) (a0 : Nat) (a3 : Int32) : Option ((Int32 × tq_PL) ⊕ (tq_PL)) :=
  (if (I a0 1) ≤ a3 then some (.inr L) else (if (6 : Int32) ≤ a3 then some (.inr L) else (tq_let (FX3_rowMask I L a0 a3) fun p3 => some (.inl ((a3 + 1), (tq_up2 L a0 2 ((L a0 2) ||| p3)))))))
noncomputable def FX3_size (I : tq_PI) (L : tq_PL) (a0 : Nat) (a1 : Int32) (a2 : Int32) : Option (tq_PI × tq_PL) :=
  ((tq_it (fun p : Int32 × tq_PL => FX3_size_s17 ((tq_up2 (tq_up2 I a0 0 a1) a0 1 a2)) p.2 a0 p.1) tq_N ((0 : Int32), (tq_up2 L a0 2 (0 : Int64)))).bind fun p4 => (tq_let (FX3_rowMask ((tq_up2 (tq_up2 I a0 0 a1) a0 1 a2)) ((tq_up2 (tq_up2 p4 a0 3 ((1103823438081 : Int64) &&& (p4 a0 2))) a0 4 (((1103823438081 : Int64) <<< (Int32.toInt64 ((((tq_up2 (tq_up2 I a0 0 a1) a0 1 a2)) a0 0) - (1 : Int32)) &&& 63)) &&& (((tq_up2 p4 a0 3 ((1103823438081 : Int64) &&& (p4 a0 2)))) a0 2)))) a0 (((((tq_up2 (tq_up2 I a0 0 a1) a0 1 a2)) a0 1) - (1 : Int32)))) fun p5 => some ((tq_up2 (tq_up2 I a0 0 a1) a0 1 a2), (tq_up2 (tq_up2 (tq_up2 p4 a0 3 ((1103823438081 : Int64) &&& (p4 a0 2))) a0 4 (((1103823438081 : Int64) <<< (Int32.toInt64 ((((tq_up2 (tq_up2 I a0 0 a1) a0 1 a2)) a0 0) - (1 : Int32)) &&& 63)) &&& (((tq_up2 p4 a0 3 ((1103823438081 : Int64) &&& (p4 a0 2)))) a0 2))) a0 5 p5))))
set_option maxRecDepth 100000 in
set_option maxHeartbeats 4000000 in
theorem FX3_size_s17_x {S : Nat × (Nat → Int32)} {d : Nat} {I : tq_PI} {L : tq_PL} {a0 : Nat} {a3 : Int32} (h0 : tq_sh0 a0 = 3) {q0 : Option Value → tq_PI → tq_PL → Prop} {out : (Int32 × tq_PL) ⊕ (tq_PL)} (hf : FX3_size_s17 I L a0 a3 = some out) (hk : Sum.elim (fun p : Int32 × tq_PL => tq_X S mX3_size (d + 1) tq_k0 17 ([.ref a0, tq_u, tq_u, .int p.1]) [] (tq_st I p.2) (tq_Q q0)) (fun p : tq_PL => tq_X S mX3_size (d + 1) tq_k0 51 ([.ref a0, tq_u, tq_u, tq_u]) [] (tq_st I p) (tq_Q q0)) out) : tq_X S mX3_size (d + 1) tq_k0 17 ([.ref a0, tq_u, tq_u, .int a3]) [] (tq_st I L) (tq_Q q0) := by
  unfold FX3_size_s17 at hf
  refine tq_iload_n rX3_size_17 rfl ?_
  refine tq_aload_n rX3_size_18 rfl ?_
  refine ty_getI rX3_size_19 f_X3_15 rfl h0 ?_
  refine tq_icmp_ge rX3_size_22 (fun c1 => ?_) (fun c1 => ?_)
  · rw [if_pos c1] at hf
    have hf := Option.some.inj hf
    subst hf
    exact tq_forget _ (tq_le_s (tq_le_u (tq_le_u (tq_le_u tq_le_n)))) hk
  · rw [if_neg c1] at hf
    refine tq_iload_n rX3_size_25 rfl ?_
    refine tq_bipush (6 : Int32) rX3_size_26 (by decide) ?_
    refine tq_icmp_ge rX3_size_28 (fun c2 => ?_) (fun c2 => ?_)
    · rw [if_pos c2] at hf
      have hf := Option.some.inj hf
      subst hf
      exact tq_forget _ (tq_le_s (tq_le_u (tq_le_u (tq_le_u tq_le_n)))) hk
    · rw [if_neg c2] at hf
      refine tq_aload_n rX3_size_31 rfl ?_
      refine tq_dup rX3_size_32 rfl ?_
      refine ty_getL rX3_size_33 f_X3_18 rfl h0 ?_
      refine tq_aload_n rX3_size_36 rfl ?_
      refine tq_iload_n rX3_size_37 rfl ?_
      obtain ⟨p3, e3, hf⟩ := tq_let_elim hf
      refine ty_callVJ p3 ([.int a3]) ([.long (L a0 2), .ref a0]) rX3_size_38 l_X3_43 moX3_rowMask mvX3_rowMask h0 rfl rfl (Nat.le_of_ble_eq_true rfl) ⟨rfl, rfl⟩ (CX3_rowMask h0 e3) ?_
      refine tq_lor rX3_size_41 ?_
      refine ty_putL rX3_size_42 f_X3_18 rfl h0 rfl ?_
      refine tq_iinc (a3 + 1) ([.ref a0, tq_u, tq_u, .int (a3 + 1)]) rX3_size_45 rfl (tq_inc (by decide)) (Nat.le_of_ble_eq_true rfl) rfl ?_
      refine tq_goto rX3_size_48 ?_
      have hf := Option.some.inj hf
      subst hf
      exact tq_forget _ (tq_le_s (tq_le_u (tq_le_u (tq_le_s tq_le_n)))) hk

set_option maxRecDepth 100000 in
set_option maxHeartbeats 4000000 in
theorem CX3_size {S : Nat × (Nat → Int32)} {d : Nat} {I : tq_PI} {L : tq_PL} {a0 : Nat} {a1 : Int32} {a2 : Int32} (h0 : tq_sh0 a0 = 3) {out : tq_PI × tq_PL} (hf : FX3_size I L a0 a1 a2 = some out) : tq_K S mX3_size (d + 1) [.ref a0, .int a1, .int a2] I L (tq_one2 (none) out.1 out.2) := by
  unfold FX3_size at hf
  refine tq_K_of (by decide) (Nat.le_of_ble_eq_true rfl) (ls := [.ref a0, .int a1, .int a2, tq_u]) rfl ?_
  refine tq_aload_n rX3_size_0 rfl ?_
  refine tq_iload_n rX3_size_1 rfl ?_
  refine ty_putI rX3_size_2 f_X3_9 rfl h0 rfl ?_
  refine tq_aload_n rX3_size_5 rfl ?_
  refine tq_iload_n rX3_size_6 rfl ?_
  refine ty_putI rX3_size_7 f_X3_15 rfl h0 rfl ?_
  refine tq_aload_n rX3_size_10 rfl ?_
  refine tq_lconst (0 : Int64) rX3_size_11 (by decide) ?_
  refine ty_putL rX3_size_12 f_X3_18 rfl h0 rfl ?_
  refine tq_iconst (0 : Int32) rX3_size_15 (by decide) ?_
  refine tq_istore_n ([.ref a0, .int a1, .int a2, .int (0 : Int32)]) rX3_size_16 (Nat.le_of_ble_eq_true rfl) rfl ?_
  obtain ⟨p4, e4, hf⟩ := Option.bind_eq_some_iff.mp hf
  refine tq_forget _ (tq_le_s (tq_le_u (tq_le_u (tq_le_s tq_le_n)))) ?_
  refine tq_it_elim (P := fun p : Int32 × tq_PL => tq_X S mX3_size (d + 1) tq_k0 17 ([.ref a0, tq_u, tq_u, .int p.1]) [] (tq_st (tq_up2 (tq_up2 I a0 0 a1) a0 1 a2) p.2) (tq_Q (tq_one2 (none) out.1 out.2))) (R := fun p : tq_PL => tq_X S mX3_size (d + 1) tq_k0 51 ([.ref a0, tq_u, tq_u, tq_u]) [] (tq_st (tq_up2 (tq_up2 I a0 0 a1) a0 1 a2) p) (tq_Q (tq_one2 (none) out.1 out.2))) (fun p o hp hk => FX3_size_s17_x  h0 hp hk) _ (((0 : Int32), (tq_up2 L a0 2 (0 : Int64)))) _ e4 ?_
  show tq_X _ _ _ _ _ _ _ _ _
  refine tq_aload_n rX3_size_51 rfl ?_
  refine tq_ldc2 rX3_size_52 (k_X3_47) ?_
  refine tq_aload_n rX3_size_55 rfl ?_
  refine ty_getL rX3_size_56 f_X3_18 rfl h0 ?_
  refine tq_land rX3_size_59 ?_
  refine ty_putL rX3_size_60 f_X3_22 rfl h0 rfl ?_
  refine tq_aload_n rX3_size_63 rfl ?_
  refine tq_ldc2 rX3_size_64 (k_X3_47) ?_
  refine tq_aload_n rX3_size_67 rfl ?_
  refine ty_getI rX3_size_68 f_X3_9 rfl h0 ?_
  refine tq_iconst (1 : Int32) rX3_size_71 (by decide) ?_
  refine tq_isub rX3_size_72 ?_
  refine tq_lshl rX3_size_73 ?_
  refine tq_aload_n rX3_size_74 rfl ?_
  refine ty_getL rX3_size_75 f_X3_18 rfl h0 ?_
  refine tq_land rX3_size_78 ?_
  refine ty_putL rX3_size_79 f_X3_25 rfl h0 rfl ?_
  refine tq_aload_n rX3_size_82 rfl ?_
  refine tq_aload_n rX3_size_83 rfl ?_
  refine tq_aload_n rX3_size_84 rfl ?_
  refine ty_getI rX3_size_85 f_X3_15 rfl h0 ?_
  refine tq_iconst (1 : Int32) rX3_size_88 (by decide) ?_
  refine tq_isub rX3_size_89 ?_
  obtain ⟨p5, e5, hf⟩ := tq_let_elim hf
  refine ty_callVJ p5 ([.int ((((tq_up2 (tq_up2 I a0 0 a1) a0 1 a2)) a0 1) - (1 : Int32))]) ([.ref a0]) rX3_size_90 l_X3_43 moX3_rowMask mvX3_rowMask h0 rfl rfl (Nat.le_of_ble_eq_true rfl) ⟨rfl, rfl⟩ (CX3_rowMask h0 e5) ?_
  refine ty_putL rX3_size_93 f_X3_28 rfl h0 rfl ?_
  refine ty_vret rX3_size_96 rfl rfl ?_
  have hf := Option.some.inj hf
  subst hf
  exact ⟨rfl, rfl, rfl⟩

abbrev mX3_clear : tq_M := (yX3_clear, cX3_clear, 1, (Option.none : Option Jvm.ClassFile.FieldType), 0, 0)
theorem rX3_clear_0 : tq_D cX3_clear 0 (.aload_n 0) 1 1 := ⟨by decide +kernel, rfl⟩
theorem rX3_clear_1 : tq_D cX3_clear 1 (.lconst 0) 1 2 := ⟨by decide +kernel, rfl⟩
theorem rX3_clear_2 : tq_D cX3_clear 2 (.putfield 31) 3 5 := ⟨by decide +kernel, rfl⟩
theorem rX3_clear_5 : tq_D cX3_clear 5 (.aload_n 0) 1 6 := ⟨by decide +kernel, rfl⟩
theorem rX3_clear_6 : tq_D cX3_clear 6 (.lconst 0) 1 7 := ⟨by decide +kernel, rfl⟩
theorem rX3_clear_7 : tq_D cX3_clear 7 (.putfield 34) 3 10 := ⟨by decide +kernel, rfl⟩
theorem rX3_clear_10 : tq_D cX3_clear 10 (.aload_n 0) 1 11 := ⟨by decide +kernel, rfl⟩
theorem rX3_clear_11 : tq_D cX3_clear 11 (.lconst 0) 1 12 := ⟨by decide +kernel, rfl⟩
theorem rX3_clear_12 : tq_D cX3_clear 12 (.putfield 37) 3 15 := ⟨by decide +kernel, rfl⟩
theorem rX3_clear_15 : tq_D cX3_clear 15 (.aload_n 0) 1 16 := ⟨by decide +kernel, rfl⟩
theorem rX3_clear_16 : tq_D cX3_clear 16 (.lconst 0) 1 17 := ⟨by decide +kernel, rfl⟩
theorem rX3_clear_17 : tq_D cX3_clear 17 (.putfield 40) 3 20 := ⟨by decide +kernel, rfl⟩
theorem rX3_clear_20 : decode cX3_clear 20 = .ok (.return_, 1) := by decide +kernel
noncomputable def FX3_clear (I : tq_PI) (L : tq_PL) (a0 : Nat) : tq_PL :=
  (tq_up2 (tq_up2 (tq_up2 (tq_up2 L a0 6 (0 : Int64)) a0 7 (0 : Int64)) a0 8 (0 : Int64)) a0 9 (0 : Int64))
set_option maxRecDepth 100000 in
set_option maxHeartbeats 4000000 in
theorem CX3_clear {S : Nat × (Nat → Int32)} {d : Nat} {I : tq_PI} {L : tq_PL} {a0 : Nat} (h0 : tq_sh0 a0 = 3) {out : tq_PL} (hf : FX3_clear I L a0 = out) : tq_K S mX3_clear d [.ref a0] I L (tq_one2 (none) I out) := by
  unfold FX3_clear at hf
  refine tq_K_of (by decide) (Nat.le_of_ble_eq_true rfl) (ls := [.ref a0]) rfl ?_
  refine tq_aload_n rX3_clear_0 rfl ?_
  refine tq_lconst (0 : Int64) rX3_clear_1 (by decide) ?_
  refine ty_putL rX3_clear_2 f_X3_31 rfl h0 rfl ?_
  refine tq_aload_n rX3_clear_5 rfl ?_
  refine tq_lconst (0 : Int64) rX3_clear_6 (by decide) ?_
  refine ty_putL rX3_clear_7 f_X3_34 rfl h0 rfl ?_
  refine tq_aload_n rX3_clear_10 rfl ?_
  refine tq_lconst (0 : Int64) rX3_clear_11 (by decide) ?_
  refine ty_putL rX3_clear_12 f_X3_37 rfl h0 rfl ?_
  refine tq_aload_n rX3_clear_15 rfl ?_
  refine tq_lconst (0 : Int64) rX3_clear_16 (by decide) ?_
  refine ty_putL rX3_clear_17 f_X3_40 rfl h0 rfl ?_
  refine ty_vret rX3_clear_20 rfl rfl ?_
  subst hf
  exact ⟨rfl, rfl, rfl⟩

abbrev mX3_keepOnly : tq_M := (yX3_keepOnly, cX3_keepOnly, 3, (Option.none : Option Jvm.ClassFile.FieldType), 0, 0)
theorem rX3_keepOnly_0 : tq_D cX3_keepOnly 0 (.aload_n 0) 1 1 := ⟨by decide +kernel, rfl⟩
theorem rX3_keepOnly_1 : tq_D cX3_keepOnly 1 (.dup) 1 2 := ⟨by decide +kernel, rfl⟩
theorem rX3_keepOnly_2 : tq_D cX3_keepOnly 2 (.getfield 31) 3 5 := ⟨by decide +kernel, rfl⟩
theorem rX3_keepOnly_5 : tq_D cX3_keepOnly 5 (.lload_n 1) 1 6 := ⟨by decide +kernel, rfl⟩
theorem rX3_keepOnly_6 : tq_D cX3_keepOnly 6 (.land) 1 7 := ⟨by decide +kernel, rfl⟩
theorem rX3_keepOnly_7 : tq_D cX3_keepOnly 7 (.putfield 31) 3 10 := ⟨by decide +kernel, rfl⟩
theorem rX3_keepOnly_10 : tq_D cX3_keepOnly 10 (.aload_n 0) 1 11 := ⟨by decide +kernel, rfl⟩
theorem rX3_keepOnly_11 : tq_D cX3_keepOnly 11 (.dup) 1 12 := ⟨by decide +kernel, rfl⟩
theorem rX3_keepOnly_12 : tq_D cX3_keepOnly 12 (.getfield 34) 3 15 := ⟨by decide +kernel, rfl⟩
theorem rX3_keepOnly_15 : tq_D cX3_keepOnly 15 (.lload_n 1) 1 16 := ⟨by decide +kernel, rfl⟩
theorem rX3_keepOnly_16 : tq_D cX3_keepOnly 16 (.land) 1 17 := ⟨by decide +kernel, rfl⟩
theorem rX3_keepOnly_17 : tq_D cX3_keepOnly 17 (.putfield 34) 3 20 := ⟨by decide +kernel, rfl⟩
theorem rX3_keepOnly_20 : tq_D cX3_keepOnly 20 (.aload_n 0) 1 21 := ⟨by decide +kernel, rfl⟩
theorem rX3_keepOnly_21 : tq_D cX3_keepOnly 21 (.dup) 1 22 := ⟨by decide +kernel, rfl⟩
theorem rX3_keepOnly_22 : tq_D cX3_keepOnly 22 (.getfield 37) 3 25 := ⟨by decide +kernel, rfl⟩
theorem rX3_keepOnly_25 : tq_D cX3_keepOnly 25 (.lload_n 1) 1 26 := ⟨by decide +kernel, rfl⟩
theorem rX3_keepOnly_26 : tq_D cX3_keepOnly 26 (.land) 1 27 := ⟨by decide +kernel, rfl⟩
theorem rX3_keepOnly_27 : tq_D cX3_keepOnly 27 (.putfield 37) 3 30 := ⟨by decide +kernel, rfl⟩
theorem rX3_keepOnly_30 : tq_D cX3_keepOnly 30 (.aload_n 0) 1 31 := ⟨by decide +kernel, rfl⟩
theorem rX3_keepOnly_31 : tq_D cX3_keepOnly 31 (.dup) 1 32 := ⟨by decide +kernel, rfl⟩
theorem rX3_keepOnly_32 : tq_D cX3_keepOnly 32 (.getfield 40) 3 35 := ⟨by decide +kernel, rfl⟩
theorem rX3_keepOnly_35 : tq_D cX3_keepOnly 35 (.lload_n 1) 1 36 := ⟨by decide +kernel, rfl⟩
theorem rX3_keepOnly_36 : tq_D cX3_keepOnly 36 (.land) 1 37 := ⟨by decide +kernel, rfl⟩
theorem rX3_keepOnly_37 : tq_D cX3_keepOnly 37 (.putfield 40) 3 40 := ⟨by decide +kernel, rfl⟩
theorem rX3_keepOnly_40 : decode cX3_keepOnly 40 = .ok (.return_, 1) := by decide +kernel
noncomputable def FX3_keepOnly (I : tq_PI) (L : tq_PL) (a0 : Nat) (a1 : Int64) : tq_PL :=
  (tq_up2 (tq_up2 (tq_up2 (tq_up2 L a0 6 ((L a0 6) &&& a1)) a0 7 ((((tq_up2 L a0 6 ((L a0 6) &&& a1))) a0 7) &&& a1)) a0 8 ((((tq_up2 (tq_up2 L a0 6 ((L a0 6) &&& a1)) a0 7 ((((tq_up2 L a0 6 ((L a0 6) &&& a1))) a0 7) &&& a1))) a0 8) &&& a1)) a0 9 ((((tq_up2 (tq_up2 (tq_up2 L a0 6 ((L a0 6) &&& a1)) a0 7 ((((tq_up2 L a0 6 ((L a0 6) &&& a1))) a0 7) &&& a1)) a0 8 ((((tq_up2 (tq_up2 L a0 6 ((L a0 6) &&& a1)) a0 7 ((((tq_up2 L a0 6 ((L a0 6) &&& a1))) a0 7) &&& a1))) a0 8) &&& a1))) a0 9) &&& a1))
set_option maxRecDepth 100000 in
set_option maxHeartbeats 4000000 in
theorem CX3_keepOnly {S : Nat × (Nat → Int32)} {d : Nat} {I : tq_PI} {L : tq_PL} {a0 : Nat} {a1 : Int64} (h0 : tq_sh0 a0 = 3) {out : tq_PL} (hf : FX3_keepOnly I L a0 a1 = out) : tq_K S mX3_keepOnly d [.ref a0, .long a1] I L (tq_one2 (none) I out) := by
  unfold FX3_keepOnly at hf
  refine tq_K_of (by decide) (Nat.le_of_ble_eq_true rfl) (ls := [.ref a0, .long a1, tq_u]) rfl ?_
  refine tq_aload_n rX3_keepOnly_0 rfl ?_
  refine tq_dup rX3_keepOnly_1 rfl ?_
  refine ty_getL rX3_keepOnly_2 f_X3_31 rfl h0 ?_
  refine tq_lload_n rX3_keepOnly_5 rfl ?_
  refine tq_land rX3_keepOnly_6 ?_
  refine ty_putL rX3_keepOnly_7 f_X3_31 rfl h0 rfl ?_
  refine tq_aload_n rX3_keepOnly_10 rfl ?_
  refine tq_dup rX3_keepOnly_11 rfl ?_
  refine ty_getL rX3_keepOnly_12 f_X3_34 rfl h0 ?_
  refine tq_lload_n rX3_keepOnly_15 rfl ?_
  refine tq_land rX3_keepOnly_16 ?_
  refine ty_putL rX3_keepOnly_17 f_X3_34 rfl h0 rfl ?_
  refine tq_aload_n rX3_keepOnly_20 rfl ?_
  refine tq_dup rX3_keepOnly_21 rfl ?_
  refine ty_getL rX3_keepOnly_22 f_X3_37 rfl h0 ?_
  refine tq_lload_n rX3_keepOnly_25 rfl ?_
  refine tq_land rX3_keepOnly_26 ?_
  refine ty_putL rX3_keepOnly_27 f_X3_37 rfl h0 rfl ?_
  refine tq_aload_n rX3_keepOnly_30 rfl ?_
  refine tq_dup rX3_keepOnly_31 rfl ?_
  refine ty_getL rX3_keepOnly_32 f_X3_40 rfl h0 ?_
  refine tq_lload_n rX3_keepOnly_35 rfl ?_
  refine tq_land rX3_keepOnly_36 ?_
  refine ty_putL rX3_keepOnly_37 f_X3_40 rfl h0 rfl ?_
  refine ty_vret rX3_keepOnly_40 rfl rfl ?_
  subst hf
  exact ⟨rfl, rfl, rfl⟩

abbrev mX3_put : tq_M := (yX3_put, cX3_put, 4, (Option.none : Option Jvm.ClassFile.FieldType), 0, 0)
theorem moX3_keepOnly : tq_mok mX3_keepOnly 1 := ⟨tq_sg1 _ (List.mem_of_getElem? (i := 3) rfl), tq_sg3 _ (List.mem_of_getElem? (i := 93) rfl), ⟨by decide, by decide, by decide +kernel⟩, by decide⟩
theorem mvX3_keepOnly : 3 < 13 ∧ (tq_cl 3).1 = mX3_keepOnly.1.cls ∧ Cond.instanceMethod mX3_keepOnly.1 ∈ lw_tbl ∧ Cond.selects mX3_keepOnly.1.cls mX3_keepOnly.1 mX3_keepOnly.1 ∈ lw_tbl := ⟨by decide, rfl, tq_sg3 _ (List.mem_of_getElem? (i := 91) rfl), tq_sg3 _ (List.mem_of_getElem? (i := 92) rfl)⟩
theorem k_X3_49 : Cond.constantLong RX3 49 (-1) ∈ lw_tbl := tq_sg3 _ (List.mem_of_getElem? (i := 89) rfl)
theorem l_X3_51 : tq_lok RX3 51 mX3_keepOnly.1 := Or.inl (tq_sg3 _ (List.mem_of_getElem? (i := 90) rfl))
theorem rX3_put_0 : tq_D cX3_put 0 (.aload_n 0) 1 1 := ⟨by decide +kernel, rfl⟩
theorem rX3_put_1 : tq_D cX3_put 1 (.lload_n 2) 1 2 := ⟨by decide +kernel, rfl⟩
theorem rX3_put_2 : tq_D cX3_put 2 (.ldc2_w 49) 3 5 := ⟨by decide +kernel, rfl⟩
theorem rX3_put_5 : tq_D cX3_put 5 (.lxor) 1 6 := ⟨by decide +kernel, rfl⟩
theorem rX3_put_6 : tq_D cX3_put 6 (.invokevirtual 51) 3 9 := ⟨by decide +kernel, rfl⟩
theorem rX3_put_9 : tq_D cX3_put 9 (.iload_n 1) 1 10 := ⟨by decide +kernel, rfl⟩
theorem rX3_put_10 : decode cX3_put 10 = .ok (.tableswitch 82 1 4 #[30, 43, 56, 69], 30) := by decide +kernel
theorem rX3_put_40 : tq_D cX3_put 40 (.aload_n 0) 1 41 := ⟨by decide +kernel, rfl⟩
theorem rX3_put_41 : tq_D cX3_put 41 (.dup) 1 42 := ⟨by decide +kernel, rfl⟩
theorem rX3_put_42 : tq_D cX3_put 42 (.getfield 31) 3 45 := ⟨by decide +kernel, rfl⟩
theorem rX3_put_45 : tq_D cX3_put 45 (.lload_n 2) 1 46 := ⟨by decide +kernel, rfl⟩
theorem rX3_put_46 : tq_D cX3_put 46 (.lor) 1 47 := ⟨by decide +kernel, rfl⟩
theorem rX3_put_47 : tq_D cX3_put 47 (.putfield 31) 3 50 := ⟨by decide +kernel, rfl⟩
theorem rX3_put_50 : tq_J cX3_put 50 .goto 92 53 := ⟨42, by decide +kernel, by decide, rfl⟩
theorem rX3_put_53 : tq_D cX3_put 53 (.aload_n 0) 1 54 := ⟨by decide +kernel, rfl⟩
theorem rX3_put_54 : tq_D cX3_put 54 (.dup) 1 55 := ⟨by decide +kernel, rfl⟩
theorem rX3_put_55 : tq_D cX3_put 55 (.getfield 34) 3 58 := ⟨by decide +kernel, rfl⟩
theorem rX3_put_58 : tq_D cX3_put 58 (.lload_n 2) 1 59 := ⟨by decide +kernel, rfl⟩
theorem rX3_put_59 : tq_D cX3_put 59 (.lor) 1 60 := ⟨by decide +kernel, rfl⟩
theorem rX3_put_60 : tq_D cX3_put 60 (.putfield 34) 3 63 := ⟨by decide +kernel, rfl⟩
theorem rX3_put_63 : tq_J cX3_put 63 .goto 92 66 := ⟨29, by decide +kernel, by decide, rfl⟩
theorem rX3_put_66 : tq_D cX3_put 66 (.aload_n 0) 1 67 := ⟨by decide +kernel, rfl⟩
theorem rX3_put_67 : tq_D cX3_put 67 (.dup) 1 68 := ⟨by decide +kernel, rfl⟩
theorem rX3_put_68 : tq_D cX3_put 68 (.getfield 37) 3 71 := ⟨by decide +kernel, rfl⟩
theorem rX3_put_71 : tq_D cX3_put 71 (.lload_n 2) 1 72 := ⟨by decide +kernel, rfl⟩
theorem rX3_put_72 : tq_D cX3_put 72 (.lor) 1 73 := ⟨by decide +kernel, rfl⟩
theorem rX3_put_73 : tq_D cX3_put 73 (.putfield 37) 3 76 := ⟨by decide +kernel, rfl⟩
theorem rX3_put_76 : tq_J cX3_put 76 .goto 92 79 := ⟨16, by decide +kernel, by decide, rfl⟩
theorem rX3_put_79 : tq_D cX3_put 79 (.aload_n 0) 1 80 := ⟨by decide +kernel, rfl⟩
theorem rX3_put_80 : tq_D cX3_put 80 (.dup) 1 81 := ⟨by decide +kernel, rfl⟩
theorem rX3_put_81 : tq_D cX3_put 81 (.getfield 40) 3 84 := ⟨by decide +kernel, rfl⟩
theorem rX3_put_84 : tq_D cX3_put 84 (.lload_n 2) 1 85 := ⟨by decide +kernel, rfl⟩
theorem rX3_put_85 : tq_D cX3_put 85 (.lor) 1 86 := ⟨by decide +kernel, rfl⟩
theorem rX3_put_86 : tq_D cX3_put 86 (.putfield 40) 3 89 := ⟨by decide +kernel, rfl⟩
theorem rX3_put_89 : tq_J cX3_put 89 .goto 92 92 := ⟨3, by decide +kernel, by decide, rfl⟩
theorem rX3_put_92 : decode cX3_put 92 = .ok (.return_, 1) := by decide +kernel
noncomputable def FX3_put (I : tq_PI) (L : tq_PL) (a0 : Nat) (a1 : Int32) (a2 : Int64) : tq_PL :=
  (tq_let (FX3_keepOnly I L a0 ((a2 ^^^ (-1 : Int64)))) fun p1 => (if a1 = 1 then (tq_up2 p1 a0 6 ((p1 a0 6) ||| a2)) else (if a1 = 2 then (tq_up2 p1 a0 7 ((p1 a0 7) ||| a2)) else (if a1 = 3 then (tq_up2 p1 a0 8 ((p1 a0 8) ||| a2)) else (if a1 = 4 then (tq_up2 p1 a0 9 ((p1 a0 9) ||| a2)) else p1)))))
set_option maxRecDepth 100000 in
set_option maxHeartbeats 4000000 in
theorem CX3_put {S : Nat × (Nat → Int32)} {d : Nat} {I : tq_PI} {L : tq_PL} {a0 : Nat} {a1 : Int32} {a2 : Int64} (h0 : tq_sh0 a0 = 3) {out : tq_PL} (hf : FX3_put I L a0 a1 a2 = out) : tq_K S mX3_put (d + 1) [.ref a0, .int a1, .long a2] I L (tq_one2 (none) I out) := by
  unfold FX3_put at hf
  refine tq_K_of (by decide) (Nat.le_of_ble_eq_true rfl) (ls := [.ref a0, .int a1, .long a2, tq_u]) rfl ?_
  refine tq_aload_n rX3_put_0 rfl ?_
  refine tq_lload_n rX3_put_1 rfl ?_
  refine tq_ldc2 rX3_put_2 (k_X3_49) ?_
  refine tq_lxor rX3_put_5 ?_
  obtain ⟨p1, e1, hf⟩ := tq_let_elim hf
  refine ty_callVV ([.long (a2 ^^^ (-1 : Int64))]) ([]) rX3_put_6 l_X3_51 moX3_keepOnly mvX3_keepOnly h0 rfl rfl (Nat.le_of_ble_eq_true rfl) ⟨rfl, rfl⟩ (CX3_keepOnly h0 e1) ?_
  refine tq_iload_n rX3_put_9 rfl ?_
  by_cases c2 : a1 = 1
  · rw [if_pos c2] at hf
    refine tq_swIn (tgt := 40) 30 rX3_put_10 (by rw [c2]; decide) (by rw [c2]; decide) (by rw [c2]; rfl) (by decide) ?_
    refine tq_aload_n rX3_put_40 rfl ?_
    refine tq_dup rX3_put_41 rfl ?_
    refine ty_getL rX3_put_42 f_X3_31 rfl h0 ?_
    refine tq_lload_n rX3_put_45 rfl ?_
    refine tq_lor rX3_put_46 ?_
    refine ty_putL rX3_put_47 f_X3_31 rfl h0 rfl ?_
    refine tq_goto rX3_put_50 ?_
    refine ty_vret rX3_put_92 rfl rfl ?_
    subst hf
    exact ⟨rfl, rfl, rfl⟩
  · rw [if_neg c2] at hf
    by_cases c3 : a1 = 2
    · rw [if_pos c3] at hf
      refine tq_swIn (tgt := 53) 43 rX3_put_10 (by rw [c3]; decide) (by rw [c3]; decide) (by rw [c3]; rfl) (by decide) ?_
      refine tq_aload_n rX3_put_53 rfl ?_
      refine tq_dup rX3_put_54 rfl ?_
      refine ty_getL rX3_put_55 f_X3_34 rfl h0 ?_
      refine tq_lload_n rX3_put_58 rfl ?_
      refine tq_lor rX3_put_59 ?_
      refine ty_putL rX3_put_60 f_X3_34 rfl h0 rfl ?_
      refine tq_goto rX3_put_63 ?_
      refine ty_vret rX3_put_92 rfl rfl ?_
      subst hf
      exact ⟨rfl, rfl, rfl⟩
    · rw [if_neg c3] at hf
      by_cases c4 : a1 = 3
      · rw [if_pos c4] at hf
        refine tq_swIn (tgt := 66) 56 rX3_put_10 (by rw [c4]; decide) (by rw [c4]; decide) (by rw [c4]; rfl) (by decide) ?_
        refine tq_aload_n rX3_put_66 rfl ?_
        refine tq_dup rX3_put_67 rfl ?_
        refine ty_getL rX3_put_68 f_X3_37 rfl h0 ?_
        refine tq_lload_n rX3_put_71 rfl ?_
        refine tq_lor rX3_put_72 ?_
        refine ty_putL rX3_put_73 f_X3_37 rfl h0 rfl ?_
        refine tq_goto rX3_put_76 ?_
        refine ty_vret rX3_put_92 rfl rfl ?_
        subst hf
        exact ⟨rfl, rfl, rfl⟩
      · rw [if_neg c4] at hf
        by_cases c5 : a1 = 4
        · rw [if_pos c5] at hf
          refine tq_swIn (tgt := 79) 69 rX3_put_10 (by rw [c5]; decide) (by rw [c5]; decide) (by rw [c5]; rfl) (by decide) ?_
          refine tq_aload_n rX3_put_79 rfl ?_
          refine tq_dup rX3_put_80 rfl ?_
          refine ty_getL rX3_put_81 f_X3_40 rfl h0 ?_
          refine tq_lload_n rX3_put_84 rfl ?_
          refine tq_lor rX3_put_85 ?_
          refine ty_putL rX3_put_86 f_X3_40 rfl h0 rfl ?_
          refine tq_goto rX3_put_89 ?_
          refine ty_vret rX3_put_92 rfl rfl ?_
          subst hf
          exact ⟨rfl, rfl, rfl⟩
        · rw [if_neg c5] at hf
          have c2o := tq_ni (c := 1) c2 (by decide)
          have c3o := tq_ni (c := 2) c3 (by decide)
          have c4o := tq_ni (c := 3) c4 (by decide)
          have c5o := tq_ni (c := 4) c5 (by decide)
          refine tq_swOut (tgt := 92) rX3_put_10 (by omega) (by decide) ?_
          refine ty_vret rX3_put_92 rfl rfl ?_
          subst hf
          exact ⟨rfl, rfl, rfl⟩

abbrev mX3_stones : tq_M := (yX3_stones, cX3_stones, 1, (Option.some Jvm.ClassFile.FieldType.long), 0, 0)
theorem rX3_stones_0 : tq_D cX3_stones 0 (.aload_n 0) 1 1 := ⟨by decide +kernel, rfl⟩
theorem rX3_stones_1 : tq_D cX3_stones 1 (.getfield 31) 3 4 := ⟨by decide +kernel, rfl⟩
theorem rX3_stones_4 : tq_D cX3_stones 4 (.aload_n 0) 1 5 := ⟨by decide +kernel, rfl⟩
theorem rX3_stones_5 : tq_D cX3_stones 5 (.getfield 34) 3 8 := ⟨by decide +kernel, rfl⟩
theorem rX3_stones_8 : tq_D cX3_stones 8 (.lor) 1 9 := ⟨by decide +kernel, rfl⟩
theorem rX3_stones_9 : tq_D cX3_stones 9 (.aload_n 0) 1 10 := ⟨by decide +kernel, rfl⟩
theorem rX3_stones_10 : tq_D cX3_stones 10 (.getfield 37) 3 13 := ⟨by decide +kernel, rfl⟩
theorem rX3_stones_13 : tq_D cX3_stones 13 (.lor) 1 14 := ⟨by decide +kernel, rfl⟩
theorem rX3_stones_14 : decode cX3_stones 14 = .ok (.lreturn, 1) := by decide +kernel
noncomputable def FX3_stones (I : tq_PI) (L : tq_PL) (a0 : Nat) : Int64 :=
  (((L a0 6) ||| (L a0 7)) ||| (L a0 8))
set_option maxRecDepth 100000 in
set_option maxHeartbeats 4000000 in
theorem CX3_stones {S : Nat × (Nat → Int32)} {d : Nat} {I : tq_PI} {L : tq_PL} {a0 : Nat} (h0 : tq_sh0 a0 = 3) {out : Int64} (hf : FX3_stones I L a0 = out) : tq_K S mX3_stones d [.ref a0] I L (tq_one2 (some (.long out)) I L) := by
  unfold FX3_stones at hf
  refine tq_K_of (by decide) (Nat.le_of_ble_eq_true rfl) (ls := [.ref a0]) rfl ?_
  refine tq_aload_n rX3_stones_0 rfl ?_
  refine ty_getL rX3_stones_1 f_X3_31 rfl h0 ?_
  refine tq_aload_n rX3_stones_4 rfl ?_
  refine ty_getL rX3_stones_5 f_X3_34 rfl h0 ?_
  refine tq_lor rX3_stones_8 ?_
  refine tq_aload_n rX3_stones_9 rfl ?_
  refine ty_getL rX3_stones_10 f_X3_37 rfl h0 ?_
  refine tq_lor rX3_stones_13 ?_
  refine ty_lret rX3_stones_14 rfl rfl ?_
  subst hf
  exact ⟨rfl, rfl, rfl⟩

abbrev mX3_solid : tq_M := (yX3_solid, cX3_solid, 1, (Option.some Jvm.ClassFile.FieldType.long), 0, 0)
theorem moX3_stones : tq_mok mX3_stones 0 := ⟨tq_sg1 _ (List.mem_of_getElem? (i := 3) rfl), tq_sg3 _ (List.mem_of_getElem? (i := 118) rfl), ⟨by decide, by decide, by decide +kernel⟩, by decide⟩
theorem mvX3_stones : 3 < 13 ∧ (tq_cl 3).1 = mX3_stones.1.cls ∧ Cond.instanceMethod mX3_stones.1 ∈ lw_tbl ∧ Cond.selects mX3_stones.1.cls mX3_stones.1 mX3_stones.1 ∈ lw_tbl := ⟨by decide, rfl, tq_sg3 _ (List.mem_of_getElem? (i := 116) rfl), tq_sg3 _ (List.mem_of_getElem? (i := 117) rfl)⟩
theorem l_X3_55 : tq_lok RX3 55 mX3_stones.1 := Or.inl (tq_sg3 _ (List.mem_of_getElem? (i := 115) rfl))
theorem rX3_solid_0 : tq_D cX3_solid 0 (.aload_n 0) 1 1 := ⟨by decide +kernel, rfl⟩
theorem rX3_solid_1 : tq_D cX3_solid 1 (.invokevirtual 55) 3 4 := ⟨by decide +kernel, rfl⟩
theorem rX3_solid_4 : tq_D cX3_solid 4 (.aload_n 0) 1 5 := ⟨by decide +kernel, rfl⟩
theorem rX3_solid_5 : tq_D cX3_solid 5 (.getfield 40) 3 8 := ⟨by decide +kernel, rfl⟩
theorem rX3_solid_8 : tq_D cX3_solid 8 (.lor) 1 9 := ⟨by decide +kernel, rfl⟩
theorem rX3_solid_9 : decode cX3_solid 9 = .ok (.lreturn, 1) := by decide +kernel
noncomputable def FX3_solid (I : tq_PI) (L : tq_PL) (a0 : Nat) : Int64 :=
  (tq_let (FX3_stones I L a0) fun p1 => (p1 ||| (L a0 9)))
set_option maxRecDepth 100000 in
set_option maxHeartbeats 4000000 in
theorem CX3_solid {S : Nat × (Nat → Int32)} {d : Nat} {I : tq_PI} {L : tq_PL} {a0 : Nat} (h0 : tq_sh0 a0 = 3) {out : Int64} (hf : FX3_solid I L a0 = out) : tq_K S mX3_solid (d + 1) [.ref a0] I L (tq_one2 (some (.long out)) I L) := by
  unfold FX3_solid at hf
  refine tq_K_of (by decide) (Nat.le_of_ble_eq_true rfl) (ls := [.ref a0]) rfl ?_
  refine tq_aload_n rX3_solid_0 rfl ?_
  obtain ⟨p1, e1, hf⟩ := tq_let_elim hf
  refine ty_callVJ p1 ([]) ([]) rX3_solid_1 l_X3_55 moX3_stones mvX3_stones h0 rfl rfl (Nat.le_of_ble_eq_true rfl) ⟨rfl, rfl⟩ (CX3_stones h0 e1) ?_
  refine tq_aload_n rX3_solid_4 rfl ?_
  refine ty_getL rX3_solid_5 f_X3_40 rfl h0 ?_
  refine tq_lor rX3_solid_8 ?_
  refine ty_lret rX3_solid_9 rfl rfl ?_
  subst hf
  exact ⟨rfl, rfl, rfl⟩

abbrev mX3_air : tq_M := (yX3_air, cX3_air, 1, (Option.some Jvm.ClassFile.FieldType.long), 0, 0)
theorem moX3_solid : tq_mok mX3_solid 0 := ⟨tq_sg1 _ (List.mem_of_getElem? (i := 3) rfl), tq_sg3 _ (List.mem_of_getElem? (i := 114) rfl), ⟨by decide, by decide, by decide +kernel⟩, by decide⟩
theorem mvX3_solid : 3 < 13 ∧ (tq_cl 3).1 = mX3_solid.1.cls ∧ Cond.instanceMethod mX3_solid.1 ∈ lw_tbl ∧ Cond.selects mX3_solid.1.cls mX3_solid.1 mX3_solid.1 ∈ lw_tbl := ⟨by decide, rfl, tq_sg3 _ (List.mem_of_getElem? (i := 112) rfl), tq_sg3 _ (List.mem_of_getElem? (i := 113) rfl)⟩
theorem l_X3_59 : tq_lok RX3 59 mX3_solid.1 := Or.inl (tq_sg4 _ (List.mem_of_getElem? (i := 25) rfl))
theorem rX3_air_0 : tq_D cX3_air 0 (.aload_n 0) 1 1 := ⟨by decide +kernel, rfl⟩
theorem rX3_air_1 : tq_D cX3_air 1 (.getfield 18) 3 4 := ⟨by decide +kernel, rfl⟩
theorem rX3_air_4 : tq_D cX3_air 4 (.aload_n 0) 1 5 := ⟨by decide +kernel, rfl⟩
theorem rX3_air_5 : tq_D cX3_air 5 (.invokevirtual 59) 3 8 := ⟨by decide +kernel, rfl⟩
theorem rX3_air_8 : tq_D cX3_air 8 (.ldc2_w 49) 3 11 := ⟨by decide +kernel, rfl⟩
theorem rX3_air_11 : tq_D cX3_air 11 (.lxor) 1 12 := ⟨by decide +kernel, rfl⟩
theorem rX3_air_12 : tq_D cX3_air 12 (.land) 1 13 := ⟨by decide +kernel, rfl⟩
theorem rX3_air_13 : decode cX3_air 13 = .ok (.lreturn, 1) := by decide +kernel
noncomputable def FX3_air (I : tq_PI) (L : tq_PL) (a0 : Nat) : Int64 :=
  (tq_let (FX3_solid I L a0) fun p1 => ((L a0 2) &&& (p1 ^^^ (-1 : Int64))))
set_option maxRecDepth 100000 in
set_option maxHeartbeats 4000000 in
theorem CX3_air {S : Nat × (Nat → Int32)} {d : Nat} {I : tq_PI} {L : tq_PL} {a0 : Nat} (h0 : tq_sh0 a0 = 3) {out : Int64} (hf : FX3_air I L a0 = out) : tq_K S mX3_air (d + 2) [.ref a0] I L (tq_one2 (some (.long out)) I L) := by
  unfold FX3_air at hf
  refine tq_K_of (by decide) (Nat.le_of_ble_eq_true rfl) (ls := [.ref a0]) rfl ?_
  refine tq_aload_n rX3_air_0 rfl ?_
  refine ty_getL rX3_air_1 f_X3_18 rfl h0 ?_
  refine tq_aload_n rX3_air_4 rfl ?_
  obtain ⟨p1, e1, hf⟩ := tq_let_elim hf
  refine ty_callVJ p1 ([]) ([.long (L a0 2)]) rX3_air_5 l_X3_59 moX3_solid mvX3_solid h0 rfl rfl (Nat.le_of_ble_eq_true rfl) ⟨rfl, rfl⟩ (CX3_solid h0 e1) ?_
  refine tq_ldc2 rX3_air_8 (k_X3_49) ?_
  refine tq_lxor rX3_air_11 ?_
  refine tq_land rX3_air_12 ?_
  refine ty_lret rX3_air_13 rfl rfl ?_
  subst hf
  exact ⟨rfl, rfl, rfl⟩

abbrev mX3_bitAt : tq_M := (yX3_bitAt, cX3_bitAt, 3, (Option.some Jvm.ClassFile.FieldType.long), 0, 0)
theorem rX3_bitAt_0 : tq_D cX3_bitAt 0 (.iload_n 1) 1 1 := ⟨by decide +kernel, rfl⟩
theorem rX3_bitAt_1 : tq_J cX3_bitAt 1 (.ifCond .lt) 24 4 := ⟨23, by decide +kernel, by decide, rfl⟩
theorem rX3_bitAt_4 : tq_D cX3_bitAt 4 (.iload_n 1) 1 5 := ⟨by decide +kernel, rfl⟩
theorem rX3_bitAt_5 : tq_D cX3_bitAt 5 (.aload_n 0) 1 6 := ⟨by decide +kernel, rfl⟩
theorem rX3_bitAt_6 : tq_D cX3_bitAt 6 (.getfield 9) 3 9 := ⟨by decide +kernel, rfl⟩
theorem rX3_bitAt_9 : tq_J cX3_bitAt 9 (.if_icmp .ge) 24 12 := ⟨15, by decide +kernel, by decide, rfl⟩
theorem rX3_bitAt_12 : tq_D cX3_bitAt 12 (.iload_n 2) 1 13 := ⟨by decide +kernel, rfl⟩
theorem rX3_bitAt_13 : tq_J cX3_bitAt 13 (.ifCond .lt) 24 16 := ⟨11, by decide +kernel, by decide, rfl⟩
theorem rX3_bitAt_16 : tq_D cX3_bitAt 16 (.iload_n 2) 1 17 := ⟨by decide +kernel, rfl⟩
theorem rX3_bitAt_17 : tq_D cX3_bitAt 17 (.aload_n 0) 1 18 := ⟨by decide +kernel, rfl⟩
theorem rX3_bitAt_18 : tq_D cX3_bitAt 18 (.getfield 15) 3 21 := ⟨by decide +kernel, rfl⟩
theorem rX3_bitAt_21 : tq_J cX3_bitAt 21 (.if_icmp .lt) 26 24 := ⟨5, by decide +kernel, by decide, rfl⟩
theorem rX3_bitAt_24 : tq_D cX3_bitAt 24 (.lconst 0) 1 25 := ⟨by decide +kernel, rfl⟩
theorem rX3_bitAt_25 : decode cX3_bitAt 25 = .ok (.lreturn, 1) := by decide +kernel
theorem rX3_bitAt_26 : tq_D cX3_bitAt 26 (.lconst 1) 1 27 := ⟨by decide +kernel, rfl⟩
theorem rX3_bitAt_27 : tq_D cX3_bitAt 27 (.bipush 8) 2 29 := ⟨by decide +kernel, rfl⟩
theorem rX3_bitAt_29 : tq_D cX3_bitAt 29 (.iload_n 2) 1 30 := ⟨by decide +kernel, rfl⟩
theorem rX3_bitAt_30 : tq_D cX3_bitAt 30 (.imul) 1 31 := ⟨by decide +kernel, rfl⟩
theorem rX3_bitAt_31 : tq_D cX3_bitAt 31 (.iload_n 1) 1 32 := ⟨by decide +kernel, rfl⟩
theorem rX3_bitAt_32 : tq_D cX3_bitAt 32 (.iadd) 1 33 := ⟨by decide +kernel, rfl⟩
theorem rX3_bitAt_33 : tq_D cX3_bitAt 33 (.lshl) 1 34 := ⟨by decide +kernel, rfl⟩
theorem rX3_bitAt_34 : decode cX3_bitAt 34 = .ok (.lreturn, 1) := by decide +kernel
noncomputable def FX3_bitAt_j24 (I : tq_PI) (L : tq_PL)  : Int64 :=
  (0 : Int64)
noncomputable def FX3_bitAt (I : tq_PI) (L : tq_PL) (a0 : Nat) (a1 : Int32) (a2 : Int32) : Int64 :=
  (if a1 < 0 then (FX3_bitAt_j24 I L ) else (if (I a0 0) ≤ a1 then (FX3_bitAt_j24 I L ) else (if a2 < 0 then (FX3_bitAt_j24 I L ) else (if a2 < (I a0 1) then ((1 : Int64) <<< (Int32.toInt64 (((8 : Int32) * a2) + a1) &&& 63)) else (FX3_bitAt_j24 I L )))))
set_option maxRecDepth 100000 in
set_option maxHeartbeats 4000000 in
theorem FX3_bitAt_j24_x {S : Nat × (Nat → Int32)} {d : Nat} {I : tq_PI} {L : tq_PL}   {q0 : Option Value → tq_PI → tq_PL → Prop} {out : Int64} (hf : FX3_bitAt_j24 I L = out) (hk : q0 (some (.long out)) I L) : tq_X S mX3_bitAt d tq_k0 24 ([tq_u, tq_u, tq_u]) ([]) (tq_st I L) (tq_Q q0) := by
  unfold FX3_bitAt_j24 at hf
  refine tq_lconst (0 : Int64) rX3_bitAt_24 (by decide) ?_
  refine ty_lret rX3_bitAt_25 rfl rfl ?_
  subst hf
  exact hk

set_option maxRecDepth 100000 in
set_option maxHeartbeats 4000000 in
theorem CX3_bitAt {S : Nat × (Nat → Int32)} {d : Nat} {I : tq_PI} {L : tq_PL} {a0 : Nat} {a1 : Int32} {a2 : Int32} (h0 : tq_sh0 a0 = 3) {out : Int64} (hf : FX3_bitAt I L a0 a1 a2 = out) : tq_K S mX3_bitAt d [.ref a0, .int a1, .int a2] I L (tq_one2 (some (.long out)) I L) := by
  unfold FX3_bitAt at hf
  refine tq_K_of (by decide) (Nat.le_of_ble_eq_true rfl) (ls := [.ref a0, .int a1, .int a2]) rfl ?_
  refine tq_iload_n rX3_bitAt_0 rfl ?_
  refine tq_if_lt rX3_bitAt_1 (fun c1 => ?_) (fun c1 => ?_)
  · rw [if_pos c1] at hf
    exact tq_forget _ (tq_le_u (tq_le_u (tq_le_u tq_le_n))) (FX3_bitAt_j24_x   hf ⟨rfl, rfl, rfl⟩)
  · rw [if_neg c1] at hf
    refine tq_iload_n rX3_bitAt_4 rfl ?_
    refine tq_aload_n rX3_bitAt_5 rfl ?_
    refine ty_getI rX3_bitAt_6 f_X3_9 rfl h0 ?_
    refine tq_icmp_ge rX3_bitAt_9 (fun c2 => ?_) (fun c2 => ?_)
    · rw [if_pos c2] at hf
      exact tq_forget _ (tq_le_u (tq_le_u (tq_le_u tq_le_n))) (FX3_bitAt_j24_x   hf ⟨rfl, rfl, rfl⟩)
    · rw [if_neg c2] at hf
      refine tq_iload_n rX3_bitAt_12 rfl ?_
      refine tq_if_lt rX3_bitAt_13 (fun c3 => ?_) (fun c3 => ?_)
      · rw [if_pos c3] at hf
        exact tq_forget _ (tq_le_u (tq_le_u (tq_le_u tq_le_n))) (FX3_bitAt_j24_x   hf ⟨rfl, rfl, rfl⟩)
      · rw [if_neg c3] at hf
        refine tq_iload_n rX3_bitAt_16 rfl ?_
        refine tq_aload_n rX3_bitAt_17 rfl ?_
        refine ty_getI rX3_bitAt_18 f_X3_15 rfl h0 ?_
        refine tq_icmp_lt rX3_bitAt_21 (fun c4 => ?_) (fun c4 => ?_)
        · rw [if_pos c4] at hf
          refine tq_lconst (1 : Int64) rX3_bitAt_26 (by decide) ?_
          refine tq_bipush (8 : Int32) rX3_bitAt_27 (by decide) ?_
          refine tq_iload_n rX3_bitAt_29 rfl ?_
          refine tq_imul rX3_bitAt_30 ?_
          refine tq_iload_n rX3_bitAt_31 rfl ?_
          refine tq_iadd rX3_bitAt_32 ?_
          refine tq_lshl rX3_bitAt_33 ?_
          refine ty_lret rX3_bitAt_34 rfl rfl ?_
          subst hf
          exact ⟨rfl, rfl, rfl⟩
        · rw [if_neg c4] at hf
          exact tq_forget _ (tq_le_u (tq_le_u (tq_le_u tq_le_n))) (FX3_bitAt_j24_x   hf ⟨rfl, rfl, rfl⟩)

abbrev mX3_cellCount : tq_M := (yX3_cellCount, cX3_cellCount, 1, (Option.some Jvm.ClassFile.FieldType.int), 0, 0)
theorem rX3_cellCount_0 : tq_D cX3_cellCount 0 (.aload_n 0) 1 1 := ⟨by decide +kernel, rfl⟩
theorem rX3_cellCount_1 : tq_D cX3_cellCount 1 (.getfield 9) 3 4 := ⟨by decide +kernel, rfl⟩
theorem rX3_cellCount_4 : tq_D cX3_cellCount 4 (.aload_n 0) 1 5 := ⟨by decide +kernel, rfl⟩
theorem rX3_cellCount_5 : tq_D cX3_cellCount 5 (.getfield 15) 3 8 := ⟨by decide +kernel, rfl⟩
theorem rX3_cellCount_8 : tq_D cX3_cellCount 8 (.imul) 1 9 := ⟨by decide +kernel, rfl⟩
theorem rX3_cellCount_9 : decode cX3_cellCount 9 = .ok (.ireturn, 1) := by decide +kernel
noncomputable def FX3_cellCount (I : tq_PI) (L : tq_PL) (a0 : Nat) : Int32 :=
  ((I a0 0) * (I a0 1))
set_option maxRecDepth 100000 in
set_option maxHeartbeats 4000000 in
theorem CX3_cellCount {S : Nat × (Nat → Int32)} {d : Nat} {I : tq_PI} {L : tq_PL} {a0 : Nat} (h0 : tq_sh0 a0 = 3) {out : Int32} (hf : FX3_cellCount I L a0 = out) : tq_K S mX3_cellCount d [.ref a0] I L (tq_one2 (some (.int out)) I L) := by
  unfold FX3_cellCount at hf
  refine tq_K_of (by decide) (Nat.le_of_ble_eq_true rfl) (ls := [.ref a0]) rfl ?_
  refine tq_aload_n rX3_cellCount_0 rfl ?_
  refine ty_getI rX3_cellCount_1 f_X3_9 rfl h0 ?_
  refine tq_aload_n rX3_cellCount_4 rfl ?_
  refine ty_getI rX3_cellCount_5 f_X3_15 rfl h0 ?_
  refine tq_imul rX3_cellCount_8 ?_
  refine ty_iret rX3_cellCount_9 rfl rfl ?_
  subst hf
  exact ⟨rfl, rfl, rfl⟩

abbrev mX3_bitOf : tq_M := (yX3_bitOf, cX3_bitOf, 2, (Option.some Jvm.ClassFile.FieldType.long), 0, 0)
theorem moX3_bitAt : tq_mok mX3_bitAt 2 := ⟨tq_sg1 _ (List.mem_of_getElem? (i := 3) rfl), tq_sg3 _ (List.mem_of_getElem? (i := 217) rfl), ⟨by decide, by decide, by decide +kernel⟩, by decide⟩
theorem mvX3_bitAt : 3 < 13 ∧ (tq_cl 3).1 = mX3_bitAt.1.cls ∧ Cond.instanceMethod mX3_bitAt.1 ∈ lw_tbl ∧ Cond.selects mX3_bitAt.1.cls mX3_bitAt.1 mX3_bitAt.1 ∈ lw_tbl := ⟨by decide, rfl, tq_sg3 _ (List.mem_of_getElem? (i := 215) rfl), tq_sg3 _ (List.mem_of_getElem? (i := 216) rfl)⟩
theorem moX3_cellCount : tq_mok mX3_cellCount 0 := ⟨tq_sg1 _ (List.mem_of_getElem? (i := 3) rfl), tq_sg3 _ (List.mem_of_getElem? (i := 213) rfl), ⟨by decide, by decide, by decide +kernel⟩, by decide⟩
theorem mvX3_cellCount : 3 < 13 ∧ (tq_cl 3).1 = mX3_cellCount.1.cls ∧ Cond.instanceMethod mX3_cellCount.1 ∈ lw_tbl ∧ Cond.selects mX3_cellCount.1.cls mX3_cellCount.1 mX3_cellCount.1 ∈ lw_tbl := ⟨by decide, rfl, tq_sg3 _ (List.mem_of_getElem? (i := 211) rfl), tq_sg3 _ (List.mem_of_getElem? (i := 212) rfl)⟩
theorem l_X3_62 : tq_lok RX3 62 mX3_cellCount.1 := Or.inl (tq_sg3 _ (List.mem_of_getElem? (i := 210) rfl))
theorem l_X3_66 : tq_lok RX3 66 mX3_bitAt.1 := Or.inl (tq_sg3 _ (List.mem_of_getElem? (i := 214) rfl))
theorem rX3_bitOf_0 : tq_D cX3_bitOf 0 (.aload_n 0) 1 1 := ⟨by decide +kernel, rfl⟩
theorem rX3_bitOf_1 : tq_D cX3_bitOf 1 (.getfield 9) 3 4 := ⟨by decide +kernel, rfl⟩
theorem rX3_bitOf_4 : tq_D cX3_bitOf 4 (.iconst 1) 1 5 := ⟨by decide +kernel, rfl⟩
theorem rX3_bitOf_5 : tq_J cX3_bitOf 5 (.if_icmp .lt) 20 8 := ⟨15, by decide +kernel, by decide, rfl⟩
theorem rX3_bitOf_8 : tq_D cX3_bitOf 8 (.iload_n 1) 1 9 := ⟨by decide +kernel, rfl⟩
theorem rX3_bitOf_9 : tq_J cX3_bitOf 9 (.ifCond .lt) 20 12 := ⟨11, by decide +kernel, by decide, rfl⟩
theorem rX3_bitOf_12 : tq_D cX3_bitOf 12 (.iload_n 1) 1 13 := ⟨by decide +kernel, rfl⟩
theorem rX3_bitOf_13 : tq_D cX3_bitOf 13 (.aload_n 0) 1 14 := ⟨by decide +kernel, rfl⟩
theorem rX3_bitOf_14 : tq_D cX3_bitOf 14 (.invokevirtual 62) 3 17 := ⟨by decide +kernel, rfl⟩
theorem rX3_bitOf_17 : tq_J cX3_bitOf 17 (.if_icmp .lt) 22 20 := ⟨5, by decide +kernel, by decide, rfl⟩
theorem rX3_bitOf_20 : tq_D cX3_bitOf 20 (.lconst 0) 1 21 := ⟨by decide +kernel, rfl⟩
theorem rX3_bitOf_21 : decode cX3_bitOf 21 = .ok (.lreturn, 1) := by decide +kernel
theorem rX3_bitOf_22 : tq_D cX3_bitOf 22 (.aload_n 0) 1 23 := ⟨by decide +kernel, rfl⟩
theorem rX3_bitOf_23 : tq_D cX3_bitOf 23 (.iload_n 1) 1 24 := ⟨by decide +kernel, rfl⟩
theorem rX3_bitOf_24 : tq_D cX3_bitOf 24 (.aload_n 0) 1 25 := ⟨by decide +kernel, rfl⟩
theorem rX3_bitOf_25 : tq_D cX3_bitOf 25 (.getfield 9) 3 28 := ⟨by decide +kernel, rfl⟩
theorem rX3_bitOf_28 : tq_D cX3_bitOf 28 (.irem) 1 29 := ⟨by decide +kernel, rfl⟩
theorem rX3_bitOf_29 : tq_D cX3_bitOf 29 (.iload_n 1) 1 30 := ⟨by decide +kernel, rfl⟩
theorem rX3_bitOf_30 : tq_D cX3_bitOf 30 (.aload_n 0) 1 31 := ⟨by decide +kernel, rfl⟩
theorem rX3_bitOf_31 : tq_D cX3_bitOf 31 (.getfield 9) 3 34 := ⟨by decide +kernel, rfl⟩
theorem rX3_bitOf_34 : tq_D cX3_bitOf 34 (.idiv) 1 35 := ⟨by decide +kernel, rfl⟩
theorem rX3_bitOf_35 : tq_D cX3_bitOf 35 (.invokevirtual 66) 3 38 := ⟨by decide +kernel, rfl⟩
theorem rX3_bitOf_38 : decode cX3_bitOf 38 = .ok (.lreturn, 1) := by decide +kernel
noncomputable def FX3_bitOf_j20 (I : tq_PI) (L : tq_PL)  : Option (Int64) :=
  some (0 : Int64)
noncomputable def FX3_bitOf (I : tq_PI) (L : tq_PL) (a0 : Nat) (a1 : Int32) : Option (Int64) :=
  (if (I a0 0) < (1 : Int32) then (FX3_bitOf_j20 I L ) else (if a1 < 0 then (FX3_bitOf_j20 I L ) else (tq_let (FX3_cellCount I L a0) fun p3 => (if a1 < p3 then (if ¬ (I a0 0) = 0 then (if ¬ (I a0 0) = 0 then (tq_let (FX3_bitAt I L a0 ((a1 - a1 / (I a0 0) * (I a0 0))) ((a1 / (I a0 0)))) fun p7 => some p7) else none) else none) else (FX3_bitOf_j20 I L )))))
set_option maxRecDepth 100000 in
set_option maxHeartbeats 4000000 in
theorem FX3_bitOf_j20_x {S : Nat × (Nat → Int32)} {d : Nat} {I : tq_PI} {L : tq_PL}   {q0 : Option Value → tq_PI → tq_PL → Prop} {out : Int64} (hf : FX3_bitOf_j20 I L = some out) (hk : q0 (some (.long out)) I L) : tq_X S mX3_bitOf (d + 1) tq_k0 20 ([tq_u, tq_u]) ([]) (tq_st I L) (tq_Q q0) := by
  unfold FX3_bitOf_j20 at hf
  refine tq_lconst (0 : Int64) rX3_bitOf_20 (by decide) ?_
  refine ty_lret rX3_bitOf_21 rfl rfl ?_
  have hf := Option.some.inj hf
  subst hf
  exact hk

set_option maxRecDepth 100000 in
set_option maxHeartbeats 4000000 in
theorem CX3_bitOf {S : Nat × (Nat → Int32)} {d : Nat} {I : tq_PI} {L : tq_PL} {a0 : Nat} {a1 : Int32} (h0 : tq_sh0 a0 = 3) {out : Int64} (hf : FX3_bitOf I L a0 a1 = some out) : tq_K S mX3_bitOf (d + 1) [.ref a0, .int a1] I L (tq_one2 (some (.long out)) I L) := by
  unfold FX3_bitOf at hf
  refine tq_K_of (by decide) (Nat.le_of_ble_eq_true rfl) (ls := [.ref a0, .int a1]) rfl ?_
  refine tq_aload_n rX3_bitOf_0 rfl ?_
  refine ty_getI rX3_bitOf_1 f_X3_9 rfl h0 ?_
  refine tq_iconst (1 : Int32) rX3_bitOf_4 (by decide) ?_
  refine tq_icmp_lt rX3_bitOf_5 (fun c1 => ?_) (fun c1 => ?_)
  · rw [if_pos c1] at hf
    exact tq_forget _ (tq_le_u (tq_le_u tq_le_n)) (FX3_bitOf_j20_x   hf ⟨rfl, rfl, rfl⟩)
  · rw [if_neg c1] at hf
    refine tq_iload_n rX3_bitOf_8 rfl ?_
    refine tq_if_lt rX3_bitOf_9 (fun c2 => ?_) (fun c2 => ?_)
    · rw [if_pos c2] at hf
      exact tq_forget _ (tq_le_u (tq_le_u tq_le_n)) (FX3_bitOf_j20_x   hf ⟨rfl, rfl, rfl⟩)
    · rw [if_neg c2] at hf
      refine tq_iload_n rX3_bitOf_12 rfl ?_
      refine tq_aload_n rX3_bitOf_13 rfl ?_
      obtain ⟨p3, e3, hf⟩ := tq_let_elim hf
      refine ty_callVI p3 ([]) ([.int a1]) rX3_bitOf_14 l_X3_62 moX3_cellCount mvX3_cellCount h0 rfl rfl (Nat.le_of_ble_eq_true rfl) ⟨rfl, rfl⟩ (CX3_cellCount h0 e3) ?_
      refine tq_icmp_lt rX3_bitOf_17 (fun c4 => ?_) (fun c4 => ?_)
      · rw [if_pos c4] at hf
        refine tq_aload_n rX3_bitOf_22 rfl ?_
        refine tq_iload_n rX3_bitOf_23 rfl ?_
        refine tq_aload_n rX3_bitOf_24 rfl ?_
        refine ty_getI rX3_bitOf_25 f_X3_9 rfl h0 ?_
        obtain ⟨g5, hf⟩ := tq_chk hf
        refine tq_irem rX3_bitOf_28 g5 ?_
        refine tq_iload_n rX3_bitOf_29 rfl ?_
        refine tq_aload_n rX3_bitOf_30 rfl ?_
        refine ty_getI rX3_bitOf_31 f_X3_9 rfl h0 ?_
        obtain ⟨g6, hf⟩ := tq_chk hf
        refine tq_idiv rX3_bitOf_34 g6 ?_
        obtain ⟨p7, e7, hf⟩ := tq_let_elim hf
        refine ty_callVJ p7 ([.int (a1 - a1 / (I a0 0) * (I a0 0)), .int (a1 / (I a0 0))]) ([]) rX3_bitOf_35 l_X3_66 moX3_bitAt mvX3_bitAt h0 rfl rfl (Nat.le_of_ble_eq_true rfl) ⟨rfl, rfl⟩ (CX3_bitAt h0 e7) ?_
        refine ty_lret rX3_bitOf_38 rfl rfl ?_
        have hf := Option.some.inj hf
        subst hf
        exact ⟨rfl, rfl, rfl⟩
      · rw [if_neg c4] at hf
        exact tq_forget _ (tq_le_u (tq_le_u tq_le_n)) (FX3_bitOf_j20_x   hf ⟨rfl, rfl, rfl⟩)

abbrev mX3_numberOf : tq_M := (yX3_numberOf, cX3_numberOf, 4, (Option.some Jvm.ClassFile.FieldType.int), 0, 0)
theorem l_X3_70 : tq_lok RX3 70 mJ13_bitCount_95d88.1 := Or.inl (tq_sg3 _ (List.mem_of_getElem? (i := 201) rfl))
theorem rX3_numberOf_0 : tq_D cX3_numberOf 0 (.lload_n 1) 1 1 := ⟨by decide +kernel, rfl⟩
theorem rX3_numberOf_1 : tq_D cX3_numberOf 1 (.lconst 1) 1 2 := ⟨by decide +kernel, rfl⟩
theorem rX3_numberOf_2 : tq_D cX3_numberOf 2 (.lsub) 1 3 := ⟨by decide +kernel, rfl⟩
theorem rX3_numberOf_3 : tq_D cX3_numberOf 3 (.invokestatic 70) 3 6 := ⟨by decide +kernel, rfl⟩
theorem rX3_numberOf_6 : tq_D cX3_numberOf 6 (.istore_n 3) 1 7 := ⟨by decide +kernel, rfl⟩
theorem rX3_numberOf_7 : tq_D cX3_numberOf 7 (.aload_n 0) 1 8 := ⟨by decide +kernel, rfl⟩
theorem rX3_numberOf_8 : tq_D cX3_numberOf 8 (.getfield 9) 3 11 := ⟨by decide +kernel, rfl⟩
theorem rX3_numberOf_11 : tq_D cX3_numberOf 11 (.iload_n 3) 1 12 := ⟨by decide +kernel, rfl⟩
theorem rX3_numberOf_12 : tq_D cX3_numberOf 12 (.bipush 8) 2 14 := ⟨by decide +kernel, rfl⟩
theorem rX3_numberOf_14 : tq_D cX3_numberOf 14 (.idiv) 1 15 := ⟨by decide +kernel, rfl⟩
theorem rX3_numberOf_15 : tq_D cX3_numberOf 15 (.imul) 1 16 := ⟨by decide +kernel, rfl⟩
theorem rX3_numberOf_16 : tq_D cX3_numberOf 16 (.iload_n 3) 1 17 := ⟨by decide +kernel, rfl⟩
theorem rX3_numberOf_17 : tq_D cX3_numberOf 17 (.bipush 8) 2 19 := ⟨by decide +kernel, rfl⟩
theorem rX3_numberOf_19 : tq_D cX3_numberOf 19 (.irem) 1 20 := ⟨by decide +kernel, rfl⟩
theorem rX3_numberOf_20 : tq_D cX3_numberOf 20 (.iadd) 1 21 := ⟨by decide +kernel, rfl⟩
theorem rX3_numberOf_21 : decode cX3_numberOf 21 = .ok (.ireturn, 1) := by decide +kernel
noncomputable def FX3_numberOf (I : tq_PI) (L : tq_PL) (a0 : Nat) (a1 : Int64) : Option (Int32) :=
  (tq_let (FJ13_bitCount_95d88 I L ((a1 - (1 : Int64)))) fun p1 => (if ¬ (8 : Int32) = 0 then (if ¬ (8 : Int32) = 0 then some (((I a0 0) * (p1 / (8 : Int32))) + (p1 - p1 / (8 : Int32) * (8 : Int32))) else none) else none))
set_option maxRecDepth 100000 in
set_option maxHeartbeats 4000000 in
theorem CX3_numberOf {S : Nat × (Nat → Int32)} {d : Nat} {I : tq_PI} {L : tq_PL} {a0 : Nat} {a1 : Int64} (h0 : tq_sh0 a0 = 3) {out : Int32} (hf : FX3_numberOf I L a0 a1 = some out) : tq_K S mX3_numberOf (d + 1) [.ref a0, .long a1] I L (tq_one2 (some (.int out)) I L) := by
  unfold FX3_numberOf at hf
  refine tq_K_of (by decide) (Nat.le_of_ble_eq_true rfl) (ls := [.ref a0, .long a1, tq_u, tq_u]) rfl ?_
  refine tq_lload_n rX3_numberOf_0 rfl ?_
  refine tq_lconst (1 : Int64) rX3_numberOf_1 (by decide) ?_
  refine tq_lsub rX3_numberOf_2 ?_
  obtain ⟨p1, e1, hf⟩ := tq_let_elim hf
  refine ty_callSI p1 ([.long (a1 - (1 : Int64))]) ([]) rX3_numberOf_3 l_X3_70 moJ13_bitCount_95d88 msJ13_bitCount_95d88 rfl rfl (Nat.le_of_ble_eq_true rfl) ⟨rfl, rfl⟩ (CJ13_bitCount_95d88  e1) ?_
  refine tq_istore_n ([.ref a0, .long a1, tq_u, .int p1]) rX3_numberOf_6 (Nat.le_of_ble_eq_true rfl) rfl ?_
  refine tq_aload_n rX3_numberOf_7 rfl ?_
  refine ty_getI rX3_numberOf_8 f_X3_9 rfl h0 ?_
  refine tq_iload_n rX3_numberOf_11 rfl ?_
  refine tq_bipush (8 : Int32) rX3_numberOf_12 (by decide) ?_
  obtain ⟨g2, hf⟩ := tq_chk hf
  refine tq_idiv rX3_numberOf_14 g2 ?_
  refine tq_imul rX3_numberOf_15 ?_
  refine tq_iload_n rX3_numberOf_16 rfl ?_
  refine tq_bipush (8 : Int32) rX3_numberOf_17 (by decide) ?_
  obtain ⟨g3, hf⟩ := tq_chk hf
  refine tq_irem rX3_numberOf_19 g3 ?_
  refine tq_iadd rX3_numberOf_20 ?_
  refine ty_iret rX3_numberOf_21 rfl rfl ?_
  have hf := Option.some.inj hf
  subst hf
  exact ⟨rfl, rfl, rfl⟩

abbrev mX11_lowest : tq_M := (yX11_lowest, cX11_lowest, 2, (Option.some Jvm.ClassFile.FieldType.long), 0, 0)
theorem rX11_lowest_0 : tq_D cX11_lowest 0 (.lload_n 0) 1 1 := ⟨by decide +kernel, rfl⟩
theorem rX11_lowest_1 : tq_D cX11_lowest 1 (.lload_n 0) 1 2 := ⟨by decide +kernel, rfl⟩
theorem rX11_lowest_2 : tq_D cX11_lowest 2 (.lneg) 1 3 := ⟨by decide +kernel, rfl⟩
theorem rX11_lowest_3 : tq_D cX11_lowest 3 (.land) 1 4 := ⟨by decide +kernel, rfl⟩
theorem rX11_lowest_4 : decode cX11_lowest 4 = .ok (.lreturn, 1) := by decide +kernel
noncomputable def FX11_lowest (I : tq_PI) (L : tq_PL) (a0 : Int64) : Int64 :=
  (a0 &&& (-a0))
set_option maxRecDepth 100000 in
set_option maxHeartbeats 4000000 in
theorem CX11_lowest {S : Nat × (Nat → Int32)} {d : Nat} {I : tq_PI} {L : tq_PL} {a0 : Int64}  {out : Int64} (hf : FX11_lowest I L a0 = out) : tq_K S mX11_lowest d [.long a0] I L (tq_one2 (some (.long out)) I L) := by
  unfold FX11_lowest at hf
  refine tq_K_of (by decide) (Nat.le_of_ble_eq_true rfl) (ls := [.long a0, tq_u]) rfl ?_
  refine tq_lload_n rX11_lowest_0 rfl ?_
  refine tq_lload_n rX11_lowest_1 rfl ?_
  refine tq_lneg rX11_lowest_2 ?_
  refine tq_land rX11_lowest_3 ?_
  refine ty_lret rX11_lowest_4 rfl rfl ?_
  subst hf
  exact ⟨rfl, rfl, rfl⟩

abbrev mX3_pick : tq_M := (yX3_pick, cX3_pick, 7, (Option.some Jvm.ClassFile.FieldType.int), 0, 0)
theorem moX3_numberOf : tq_mok mX3_numberOf 1 := ⟨tq_sg1 _ (List.mem_of_getElem? (i := 3) rfl), tq_sg4 _ (List.mem_of_getElem? (i := 138) rfl), ⟨by decide, by decide, by decide +kernel⟩, by decide⟩
theorem mvX3_numberOf : 3 < 13 ∧ (tq_cl 3).1 = mX3_numberOf.1.cls ∧ Cond.instanceMethod mX3_numberOf.1 ∈ lw_tbl ∧ Cond.selects mX3_numberOf.1.cls mX3_numberOf.1 mX3_numberOf.1 ∈ lw_tbl := ⟨by decide, rfl, tq_sg4 _ (List.mem_of_getElem? (i := 136) rfl), tq_sg4 _ (List.mem_of_getElem? (i := 137) rfl)⟩
theorem moX11_lowest : tq_mok mX11_lowest 1 := ⟨tq_sg1 _ (List.mem_of_getElem? (i := 1) rfl), tq_sg4 _ (List.mem_of_getElem? (i := 134) rfl), ⟨by decide, by decide, by decide +kernel⟩, by decide⟩
theorem msX11_lowest : Cond.static mX11_lowest.1 ∈ lw_tbl := tq_sg4 _ (List.mem_of_getElem? (i := 133) rfl)
theorem l_X3_76 : tq_lok RX3 76 mX11_lowest.1 := Or.inr ⟨_, tq_sg4 _ (List.mem_of_getElem? (i := 132) rfl)⟩
theorem l_X3_80 : tq_lok RX3 80 mX3_numberOf.1 := Or.inl (tq_sg4 _ (List.mem_of_getElem? (i := 135) rfl))
theorem rX3_pick_0 : tq_D cX3_pick 0 (.iload_n 3) 1 1 := ⟨by decide +kernel, rfl⟩
theorem rX3_pick_1 : tq_J cX3_pick 1 (.ifCond .lt) 12 4 := ⟨11, by decide +kernel, by decide, rfl⟩
theorem rX3_pick_4 : tq_D cX3_pick 4 (.iload_n 3) 1 5 := ⟨by decide +kernel, rfl⟩
theorem rX3_pick_5 : tq_D cX3_pick 5 (.lload_n 1) 1 6 := ⟨by decide +kernel, rfl⟩
theorem rX3_pick_6 : tq_D cX3_pick 6 (.invokestatic 70) 3 9 := ⟨by decide +kernel, rfl⟩
theorem rX3_pick_9 : tq_J cX3_pick 9 (.if_icmp .lt) 14 12 := ⟨5, by decide +kernel, by decide, rfl⟩
theorem rX3_pick_12 : tq_D cX3_pick 12 (.iconst (-1)) 1 13 := ⟨by decide +kernel, rfl⟩
theorem rX3_pick_13 : decode cX3_pick 13 = .ok (.ireturn, 1) := by decide +kernel
theorem rX3_pick_14 : tq_D cX3_pick 14 (.lload_n 1) 1 15 := ⟨by decide +kernel, rfl⟩
theorem rX3_pick_15 : tq_D cX3_pick 15 (.lstore 4) 2 17 := ⟨by decide +kernel, rfl⟩
theorem rX3_pick_17 : tq_D cX3_pick 17 (.iconst 0) 1 18 := ⟨by decide +kernel, rfl⟩
theorem rX3_pick_18 : tq_D cX3_pick 18 (.istore 6) 2 20 := ⟨by decide +kernel, rfl⟩
theorem rX3_pick_20 : tq_D cX3_pick 20 (.iload 6) 2 22 := ⟨by decide +kernel, rfl⟩
theorem rX3_pick_22 : tq_D cX3_pick 22 (.iload_n 3) 1 23 := ⟨by decide +kernel, rfl⟩
theorem rX3_pick_23 : tq_J cX3_pick 23 (.if_icmp .ge) 41 26 := ⟨18, by decide +kernel, by decide, rfl⟩
theorem rX3_pick_26 : tq_D cX3_pick 26 (.lload 4) 2 28 := ⟨by decide +kernel, rfl⟩
theorem rX3_pick_28 : tq_D cX3_pick 28 (.lload 4) 2 30 := ⟨by decide +kernel, rfl⟩
theorem rX3_pick_30 : tq_D cX3_pick 30 (.lconst 1) 1 31 := ⟨by decide +kernel, rfl⟩
theorem rX3_pick_31 : tq_D cX3_pick 31 (.lsub) 1 32 := ⟨by decide +kernel, rfl⟩
theorem rX3_pick_32 : tq_D cX3_pick 32 (.land) 1 33 := ⟨by decide +kernel, rfl⟩
theorem rX3_pick_33 : tq_D cX3_pick 33 (.lstore 4) 2 35 := ⟨by decide +kernel, rfl⟩
theorem rX3_pick_35 : tq_D cX3_pick 35 (.iinc 6 1) 3 38 := ⟨by decide +kernel, rfl⟩
theorem rX3_pick_38 : tq_J cX3_pick 38 .goto 20 41 := ⟨(-18), by decide +kernel, by decide, rfl⟩
theorem rX3_pick_41 : tq_D cX3_pick 41 (.aload_n 0) 1 42 := ⟨by decide +kernel, rfl⟩
theorem rX3_pick_42 : tq_D cX3_pick 42 (.lload 4) 2 44 := ⟨by decide +kernel, rfl⟩
theorem rX3_pick_44 : tq_D cX3_pick 44 (.invokestatic 76) 3 47 := ⟨by decide +kernel, rfl⟩
theorem rX3_pick_47 : tq_D cX3_pick 47 (.invokevirtual 80) 3 50 := ⟨by decide +kernel, rfl⟩
theorem rX3_pick_50 : decode cX3_pick 50 = .ok (.ireturn, 1) := by decide +kernel
noncomputable def FX3_pick_j12 (I : tq_PI) (L : tq_PL)  : Option (Int32) :=
  some (-1 : Int32)
noncomputable def FX3_pick_s20 (I : tq_PI) (L : tq_PL) (a0 : Nat) (a3 : Int32) (a4 : Int64) (a6 : Int32) : Option ((Int64 × Int32) ⊕ (Int64)) :=
  (if a3 ≤ a6 then some (.inr a4) else some (.inl ((a4 &&& (a4 - (1 : Int64))), (a6 + 1))))
noncomputable def FX3_pick (I : tq_PI) (L : tq_PL) (a0 : Nat) (a1 : Int64) (a3 : Int32) : Option (Int32) :=
  (if a3 < 0 then (FX3_pick_j12 I L ) else (tq_let (FJ13_bitCount_95d88 I L a1) fun p2 => (if a3 < p2 then ((tq_it (fun p : Int64 × Int32 => FX3_pick_s20 I L a0 a3 p.1 p.2) tq_N (a1, (0 : Int32))).bind fun p5 => (tq_let (FX11_lowest I L p5) fun p6 => ((FX3_numberOf I L a0 p6).bind fun p7 => some p7))) else (FX3_pick_j12 I L ))))
set_option maxRecDepth 100000 in
set_option maxHeartbeats 4000000 in
theorem FX3_pick_j12_x {S : Nat × (Nat → Int32)} {d : Nat} {I : tq_PI} {L : tq_PL}   {q0 : Option Value → tq_PI → tq_PL → Prop} {out : Int32} (hf : FX3_pick_j12 I L = some out) (hk : q0 (some (.int out)) I L) : tq_X S mX3_pick (d + 2) tq_k0 12 ([tq_u, tq_u, tq_u, tq_u, tq_u, tq_u, tq_u]) ([]) (tq_st I L) (tq_Q q0) := by
  unfold FX3_pick_j12 at hf
  refine tq_iconst (-1 : Int32) rX3_pick_12 (by decide) ?_
  refine ty_iret rX3_pick_13 rfl rfl ?_
  have hf := Option.some.inj hf
  subst hf
  exact hk

set_option maxRecDepth 100000 in
set_option maxHeartbeats 4000000 in
theorem FX3_pick_s20_x {S : Nat × (Nat → Int32)} {d : Nat} {I : tq_PI} {L : tq_PL} {a0 : Nat} {a3 : Int32} {a4 : Int64} {a6 : Int32} (h0 : tq_sh0 a0 = 3) {q0 : Option Value → tq_PI → tq_PL → Prop} {out : (Int64 × Int32) ⊕ (Int64)} (hf : FX3_pick_s20 I L a0 a3 a4 a6 = some out) (hk : Sum.elim (fun p : Int64 × Int32 => tq_X S mX3_pick (d + 2) tq_k0 20 ([.ref a0, tq_u, tq_u, .int a3, .long p.1, tq_u, .int p.2]) [] (tq_st I L) (tq_Q q0)) (fun p : Int64 => tq_X S mX3_pick (d + 2) tq_k0 41 ([.ref a0, tq_u, tq_u, tq_u, .long p, tq_u, tq_u]) [] (tq_st I L) (tq_Q q0)) out) : tq_X S mX3_pick (d + 2) tq_k0 20 ([.ref a0, tq_u, tq_u, .int a3, .long a4, tq_u, .int a6]) [] (tq_st I L) (tq_Q q0) := by
  unfold FX3_pick_s20 at hf
  refine tq_iload rX3_pick_20 rfl ?_
  refine tq_iload_n rX3_pick_22 rfl ?_
  refine tq_icmp_ge rX3_pick_23 (fun c4 => ?_) (fun c4 => ?_)
  · rw [if_pos c4] at hf
    have hf := Option.some.inj hf
    subst hf
    exact tq_forget _ (tq_le_s (tq_le_u (tq_le_u (tq_le_u (tq_le_s (tq_le_u (tq_le_u tq_le_n))))))) hk
  · rw [if_neg c4] at hf
    refine tq_lload rX3_pick_26 rfl ?_
    refine tq_lload rX3_pick_28 rfl ?_
    refine tq_lconst (1 : Int64) rX3_pick_30 (by decide) ?_
    refine tq_lsub rX3_pick_31 ?_
    refine tq_land rX3_pick_32 ?_
    refine tq_lstore ([.ref a0, tq_u, tq_u, .int a3, .long (a4 &&& (a4 - (1 : Int64))), tq_u, .int a6]) rX3_pick_33 (Nat.le_of_ble_eq_true rfl) rfl ?_
    refine tq_iinc (a6 + 1) ([.ref a0, tq_u, tq_u, .int a3, .long (a4 &&& (a4 - (1 : Int64))), tq_u, .int (a6 + 1)]) rX3_pick_35 rfl (tq_inc (by decide)) (Nat.le_of_ble_eq_true rfl) rfl ?_
    refine tq_goto rX3_pick_38 ?_
    have hf := Option.some.inj hf
    subst hf
    exact tq_forget _ (tq_le_s (tq_le_u (tq_le_u (tq_le_s (tq_le_s (tq_le_u (tq_le_s tq_le_n))))))) hk

set_option maxRecDepth 100000 in
set_option maxHeartbeats 4000000 in
theorem CX3_pick {S : Nat × (Nat → Int32)} {d : Nat} {I : tq_PI} {L : tq_PL} {a0 : Nat} {a1 : Int64} {a3 : Int32} (h0 : tq_sh0 a0 = 3) {out : Int32} (hf : FX3_pick I L a0 a1 a3 = some out) : tq_K S mX3_pick (d + 2) [.ref a0, .long a1, .int a3] I L (tq_one2 (some (.int out)) I L) := by
  unfold FX3_pick at hf
  refine tq_K_of (by decide) (Nat.le_of_ble_eq_true rfl) (ls := [.ref a0, .long a1, tq_u, .int a3, tq_u, tq_u, tq_u]) rfl ?_
  refine tq_iload_n rX3_pick_0 rfl ?_
  refine tq_if_lt rX3_pick_1 (fun c1 => ?_) (fun c1 => ?_)
  · rw [if_pos c1] at hf
    exact tq_forget _ (tq_le_u (tq_le_u (tq_le_u (tq_le_u (tq_le_u (tq_le_u (tq_le_u tq_le_n))))))) (FX3_pick_j12_x   hf ⟨rfl, rfl, rfl⟩)
  · rw [if_neg c1] at hf
    refine tq_iload_n rX3_pick_4 rfl ?_
    refine tq_lload_n rX3_pick_5 rfl ?_
    obtain ⟨p2, e2, hf⟩ := tq_let_elim hf
    refine ty_callSI p2 ([.long a1]) ([.int a3]) rX3_pick_6 l_X3_70 moJ13_bitCount_95d88 msJ13_bitCount_95d88 rfl rfl (Nat.le_of_ble_eq_true rfl) ⟨rfl, rfl⟩ (CJ13_bitCount_95d88  e2) ?_
    refine tq_icmp_lt rX3_pick_9 (fun c3 => ?_) (fun c3 => ?_)
    · rw [if_pos c3] at hf
      refine tq_lload_n rX3_pick_14 rfl ?_
      refine tq_lstore ([.ref a0, .long a1, tq_u, .int a3, .long a1, tq_u, tq_u]) rX3_pick_15 (Nat.le_of_ble_eq_true rfl) rfl ?_
      refine tq_iconst (0 : Int32) rX3_pick_17 (by decide) ?_
      refine tq_istore ([.ref a0, .long a1, tq_u, .int a3, .long a1, tq_u, .int (0 : Int32)]) rX3_pick_18 (Nat.le_of_ble_eq_true rfl) rfl ?_
      obtain ⟨p5, e5, hf⟩ := Option.bind_eq_some_iff.mp hf
      refine tq_forget _ (tq_le_s (tq_le_u (tq_le_u (tq_le_s (tq_le_s (tq_le_u (tq_le_s tq_le_n))))))) ?_
      refine tq_it_elim (P := fun p : Int64 × Int32 => tq_X S mX3_pick (d + 2) tq_k0 20 ([.ref a0, tq_u, tq_u, .int a3, .long p.1, tq_u, .int p.2]) [] (tq_st I L) (tq_Q (tq_one2 (some (.int out)) I L))) (R := fun p : Int64 => tq_X S mX3_pick (d + 2) tq_k0 41 ([.ref a0, tq_u, tq_u, tq_u, .long p, tq_u, tq_u]) [] (tq_st I L) (tq_Q (tq_one2 (some (.int out)) I L))) (fun p o hp hk => FX3_pick_s20_x  h0 hp hk) _ ((a1, (0 : Int32))) _ e5 ?_
      show tq_X _ _ _ _ _ _ _ _ _
      refine tq_aload_n rX3_pick_41 rfl ?_
      refine tq_lload rX3_pick_42 rfl ?_
      obtain ⟨p6, e6, hf⟩ := tq_let_elim hf
      refine ty_callSJ p6 ([.long p5]) ([.ref a0]) rX3_pick_44 l_X3_76 moX11_lowest msX11_lowest rfl rfl (Nat.le_of_ble_eq_true rfl) ⟨rfl, rfl⟩ (CX11_lowest  e6) ?_
      obtain ⟨p7, e7, hf⟩ := Option.bind_eq_some_iff.mp hf
      refine ty_callVI p7 ([.long p6]) ([]) rX3_pick_47 l_X3_80 moX3_numberOf mvX3_numberOf h0 rfl rfl (Nat.le_of_ble_eq_true rfl) ⟨rfl, rfl⟩ (CX3_numberOf h0 e7) ?_
      refine ty_iret rX3_pick_50 rfl rfl ?_
      have hf := Option.some.inj hf
      subst hf
      exact ⟨rfl, rfl, rfl⟩
    · rw [if_neg c3] at hf
      exact tq_forget _ (tq_le_u (tq_le_u (tq_le_u (tq_le_u (tq_le_u (tq_le_u (tq_le_u tq_le_n))))))) (FX3_pick_j12_x   hf ⟨rfl, rfl, rfl⟩)

abbrev mX3_kindOfBit : tq_M := (yX3_kindOfBit, cX3_kindOfBit, 3, (Option.some Jvm.ClassFile.FieldType.int), 0, 0)
theorem rX3_kindOfBit_0 : tq_D cX3_kindOfBit 0 (.aload_n 0) 1 1 := ⟨by decide +kernel, rfl⟩
theorem rX3_kindOfBit_1 : tq_D cX3_kindOfBit 1 (.getfield 31) 3 4 := ⟨by decide +kernel, rfl⟩
theorem rX3_kindOfBit_4 : tq_D cX3_kindOfBit 4 (.lload_n 1) 1 5 := ⟨by decide +kernel, rfl⟩
theorem rX3_kindOfBit_5 : tq_D cX3_kindOfBit 5 (.land) 1 6 := ⟨by decide +kernel, rfl⟩
theorem rX3_kindOfBit_6 : tq_D cX3_kindOfBit 6 (.lconst 0) 1 7 := ⟨by decide +kernel, rfl⟩
theorem rX3_kindOfBit_7 : tq_D cX3_kindOfBit 7 (.lcmp) 1 8 := ⟨by decide +kernel, rfl⟩
theorem rX3_kindOfBit_8 : tq_J cX3_kindOfBit 8 (.ifCond .eq) 13 11 := ⟨5, by decide +kernel, by decide, rfl⟩
theorem rX3_kindOfBit_11 : tq_D cX3_kindOfBit 11 (.iconst 1) 1 12 := ⟨by decide +kernel, rfl⟩
theorem rX3_kindOfBit_12 : decode cX3_kindOfBit 12 = .ok (.ireturn, 1) := by decide +kernel
theorem rX3_kindOfBit_13 : tq_D cX3_kindOfBit 13 (.aload_n 0) 1 14 := ⟨by decide +kernel, rfl⟩
theorem rX3_kindOfBit_14 : tq_D cX3_kindOfBit 14 (.getfield 34) 3 17 := ⟨by decide +kernel, rfl⟩
theorem rX3_kindOfBit_17 : tq_D cX3_kindOfBit 17 (.lload_n 1) 1 18 := ⟨by decide +kernel, rfl⟩
theorem rX3_kindOfBit_18 : tq_D cX3_kindOfBit 18 (.land) 1 19 := ⟨by decide +kernel, rfl⟩
theorem rX3_kindOfBit_19 : tq_D cX3_kindOfBit 19 (.lconst 0) 1 20 := ⟨by decide +kernel, rfl⟩
theorem rX3_kindOfBit_20 : tq_D cX3_kindOfBit 20 (.lcmp) 1 21 := ⟨by decide +kernel, rfl⟩
theorem rX3_kindOfBit_21 : tq_J cX3_kindOfBit 21 (.ifCond .eq) 26 24 := ⟨5, by decide +kernel, by decide, rfl⟩
theorem rX3_kindOfBit_24 : tq_D cX3_kindOfBit 24 (.iconst 2) 1 25 := ⟨by decide +kernel, rfl⟩
theorem rX3_kindOfBit_25 : decode cX3_kindOfBit 25 = .ok (.ireturn, 1) := by decide +kernel
theorem rX3_kindOfBit_26 : tq_D cX3_kindOfBit 26 (.aload_n 0) 1 27 := ⟨by decide +kernel, rfl⟩
theorem rX3_kindOfBit_27 : tq_D cX3_kindOfBit 27 (.getfield 37) 3 30 := ⟨by decide +kernel, rfl⟩
theorem rX3_kindOfBit_30 : tq_D cX3_kindOfBit 30 (.lload_n 1) 1 31 := ⟨by decide +kernel, rfl⟩
theorem rX3_kindOfBit_31 : tq_D cX3_kindOfBit 31 (.land) 1 32 := ⟨by decide +kernel, rfl⟩
theorem rX3_kindOfBit_32 : tq_D cX3_kindOfBit 32 (.lconst 0) 1 33 := ⟨by decide +kernel, rfl⟩
theorem rX3_kindOfBit_33 : tq_D cX3_kindOfBit 33 (.lcmp) 1 34 := ⟨by decide +kernel, rfl⟩
theorem rX3_kindOfBit_34 : tq_J cX3_kindOfBit 34 (.ifCond .eq) 39 37 := ⟨5, by decide +kernel, by decide, rfl⟩
theorem rX3_kindOfBit_37 : tq_D cX3_kindOfBit 37 (.iconst 3) 1 38 := ⟨by decide +kernel, rfl⟩
theorem rX3_kindOfBit_38 : decode cX3_kindOfBit 38 = .ok (.ireturn, 1) := by decide +kernel
theorem rX3_kindOfBit_39 : tq_D cX3_kindOfBit 39 (.aload_n 0) 1 40 := ⟨by decide +kernel, rfl⟩
theorem rX3_kindOfBit_40 : tq_D cX3_kindOfBit 40 (.getfield 40) 3 43 := ⟨by decide +kernel, rfl⟩
theorem rX3_kindOfBit_43 : tq_D cX3_kindOfBit 43 (.lload_n 1) 1 44 := ⟨by decide +kernel, rfl⟩
theorem rX3_kindOfBit_44 : tq_D cX3_kindOfBit 44 (.land) 1 45 := ⟨by decide +kernel, rfl⟩
theorem rX3_kindOfBit_45 : tq_D cX3_kindOfBit 45 (.lconst 0) 1 46 := ⟨by decide +kernel, rfl⟩
theorem rX3_kindOfBit_46 : tq_D cX3_kindOfBit 46 (.lcmp) 1 47 := ⟨by decide +kernel, rfl⟩
theorem rX3_kindOfBit_47 : tq_J cX3_kindOfBit 47 (.ifCond .eq) 54 50 := ⟨7, by decide +kernel, by decide, rfl⟩
theorem rX3_kindOfBit_50 : tq_D cX3_kindOfBit 50 (.iconst 4) 1 51 := ⟨by decide +kernel, rfl⟩
theorem rX3_kindOfBit_51 : tq_J cX3_kindOfBit 51 .goto 55 54 := ⟨4, by decide +kernel, by decide, rfl⟩
theorem rX3_kindOfBit_54 : tq_D cX3_kindOfBit 54 (.iconst 0) 1 55 := ⟨by decide +kernel, rfl⟩
theorem rX3_kindOfBit_55 : decode cX3_kindOfBit 55 = .ok (.ireturn, 1) := by decide +kernel
noncomputable def FX3_kindOfBit (I : tq_PI) (L : tq_PL) (a0 : Nat) (a1 : Int64) : Int32 :=
  (if (lg_cmp ((L a0 6) &&& a1) (0 : Int64)) = 0 then (if (lg_cmp ((L a0 7) &&& a1) (0 : Int64)) = 0 then (if (lg_cmp ((L a0 8) &&& a1) (0 : Int64)) = 0 then (if (lg_cmp ((L a0 9) &&& a1) (0 : Int64)) = 0 then (0 : Int32) else (4 : Int32)) else (3 : Int32)) else (2 : Int32)) else (1 : Int32))
set_option maxRecDepth 100000 in
set_option maxHeartbeats 4000000 in
theorem CX3_kindOfBit {S : Nat × (Nat → Int32)} {d : Nat} {I : tq_PI} {L : tq_PL} {a0 : Nat} {a1 : Int64} (h0 : tq_sh0 a0 = 3) {out : Int32} (hf : FX3_kindOfBit I L a0 a1 = out) : tq_K S mX3_kindOfBit d [.ref a0, .long a1] I L (tq_one2 (some (.int out)) I L) := by
  unfold FX3_kindOfBit at hf
  refine tq_K_of (by decide) (Nat.le_of_ble_eq_true rfl) (ls := [.ref a0, .long a1, tq_u]) rfl ?_
  refine tq_aload_n rX3_kindOfBit_0 rfl ?_
  refine ty_getL rX3_kindOfBit_1 f_X3_31 rfl h0 ?_
  refine tq_lload_n rX3_kindOfBit_4 rfl ?_
  refine tq_land rX3_kindOfBit_5 ?_
  refine tq_lconst (0 : Int64) rX3_kindOfBit_6 (by decide) ?_
  refine tq_lcmp rX3_kindOfBit_7 ?_
  refine tq_if_eq rX3_kindOfBit_8 (fun c1 => ?_) (fun c1 => ?_)
  · rw [if_pos c1] at hf
    refine tq_aload_n rX3_kindOfBit_13 rfl ?_
    refine ty_getL rX3_kindOfBit_14 f_X3_34 rfl h0 ?_
    refine tq_lload_n rX3_kindOfBit_17 rfl ?_
    refine tq_land rX3_kindOfBit_18 ?_
    refine tq_lconst (0 : Int64) rX3_kindOfBit_19 (by decide) ?_
    refine tq_lcmp rX3_kindOfBit_20 ?_
    refine tq_if_eq rX3_kindOfBit_21 (fun c2 => ?_) (fun c2 => ?_)
    · rw [if_pos c2] at hf
      refine tq_aload_n rX3_kindOfBit_26 rfl ?_
      refine ty_getL rX3_kindOfBit_27 f_X3_37 rfl h0 ?_
      refine tq_lload_n rX3_kindOfBit_30 rfl ?_
      refine tq_land rX3_kindOfBit_31 ?_
      refine tq_lconst (0 : Int64) rX3_kindOfBit_32 (by decide) ?_
      refine tq_lcmp rX3_kindOfBit_33 ?_
      refine tq_if_eq rX3_kindOfBit_34 (fun c3 => ?_) (fun c3 => ?_)
      · rw [if_pos c3] at hf
        refine tq_aload_n rX3_kindOfBit_39 rfl ?_
        refine ty_getL rX3_kindOfBit_40 f_X3_40 rfl h0 ?_
        refine tq_lload_n rX3_kindOfBit_43 rfl ?_
        refine tq_land rX3_kindOfBit_44 ?_
        refine tq_lconst (0 : Int64) rX3_kindOfBit_45 (by decide) ?_
        refine tq_lcmp rX3_kindOfBit_46 ?_
        refine tq_if_eq rX3_kindOfBit_47 (fun c4 => ?_) (fun c4 => ?_)
        · rw [if_pos c4] at hf
          refine tq_iconst (0 : Int32) rX3_kindOfBit_54 (by decide) ?_
          refine ty_iret rX3_kindOfBit_55 rfl rfl ?_
          subst hf
          exact ⟨rfl, rfl, rfl⟩
        · rw [if_neg c4] at hf
          refine tq_iconst (4 : Int32) rX3_kindOfBit_50 (by decide) ?_
          refine tq_goto rX3_kindOfBit_51 ?_
          refine ty_iret rX3_kindOfBit_55 rfl rfl ?_
          subst hf
          exact ⟨rfl, rfl, rfl⟩
      · rw [if_neg c3] at hf
        refine tq_iconst (3 : Int32) rX3_kindOfBit_37 (by decide) ?_
        refine ty_iret rX3_kindOfBit_38 rfl rfl ?_
        subst hf
        exact ⟨rfl, rfl, rfl⟩
    · rw [if_neg c2] at hf
      refine tq_iconst (2 : Int32) rX3_kindOfBit_24 (by decide) ?_
      refine ty_iret rX3_kindOfBit_25 rfl rfl ?_
      subst hf
      exact ⟨rfl, rfl, rfl⟩
  · rw [if_neg c1] at hf
    refine tq_iconst (1 : Int32) rX3_kindOfBit_11 (by decide) ?_
    refine ty_iret rX3_kindOfBit_12 rfl rfl ?_
    subst hf
    exact ⟨rfl, rfl, rfl⟩

abbrev mX3_kindOf : tq_M := (yX3_kindOf, cX3_kindOf, 4, (Option.some Jvm.ClassFile.FieldType.int), 0, 0)
theorem moX3_bitOf : tq_mok mX3_bitOf 1 := ⟨tq_sg1 _ (List.mem_of_getElem? (i := 3) rfl), tq_sg3 _ (List.mem_of_getElem? (i := 209) rfl), ⟨by decide, by decide, by decide +kernel⟩, by decide⟩
theorem mvX3_bitOf : 3 < 13 ∧ (tq_cl 3).1 = mX3_bitOf.1.cls ∧ Cond.instanceMethod mX3_bitOf.1 ∈ lw_tbl ∧ Cond.selects mX3_bitOf.1.cls mX3_bitOf.1 mX3_bitOf.1 ∈ lw_tbl := ⟨by decide, rfl, tq_sg3 _ (List.mem_of_getElem? (i := 207) rfl), tq_sg3 _ (List.mem_of_getElem? (i := 208) rfl)⟩
theorem moX3_kindOfBit : tq_mok mX3_kindOfBit 1 := ⟨tq_sg1 _ (List.mem_of_getElem? (i := 3) rfl), tq_sg3 _ (List.mem_of_getElem? (i := 221) rfl), ⟨by decide, by decide, by decide +kernel⟩, by decide⟩
theorem mvX3_kindOfBit : 3 < 13 ∧ (tq_cl 3).1 = mX3_kindOfBit.1.cls ∧ Cond.instanceMethod mX3_kindOfBit.1 ∈ lw_tbl ∧ Cond.selects mX3_kindOfBit.1.cls mX3_kindOfBit.1 mX3_kindOfBit.1 ∈ lw_tbl := ⟨by decide, rfl, tq_sg3 _ (List.mem_of_getElem? (i := 220) rfl), List.mem_append_left _ (List.mem_map.mpr ⟨_, List.mem_of_getElem? (i := 19) rfl, rfl⟩)⟩
theorem l_X3_83 : tq_lok RX3 83 mX3_bitOf.1 := Or.inl (tq_sg3 _ (List.mem_of_getElem? (i := 206) rfl))
theorem l_X3_86 : tq_lok RX3 86 mX3_kindOfBit.1 := Or.inl (tq_sg3 _ (List.mem_of_getElem? (i := 218) rfl))
theorem rX3_kindOf_0 : tq_D cX3_kindOf 0 (.aload_n 0) 1 1 := ⟨by decide +kernel, rfl⟩
theorem rX3_kindOf_1 : tq_D cX3_kindOf 1 (.iload_n 1) 1 2 := ⟨by decide +kernel, rfl⟩
theorem rX3_kindOf_2 : tq_D cX3_kindOf 2 (.invokevirtual 83) 3 5 := ⟨by decide +kernel, rfl⟩
theorem rX3_kindOf_5 : tq_D cX3_kindOf 5 (.lstore_n 2) 1 6 := ⟨by decide +kernel, rfl⟩
theorem rX3_kindOf_6 : tq_D cX3_kindOf 6 (.lload_n 2) 1 7 := ⟨by decide +kernel, rfl⟩
theorem rX3_kindOf_7 : tq_D cX3_kindOf 7 (.lconst 0) 1 8 := ⟨by decide +kernel, rfl⟩
theorem rX3_kindOf_8 : tq_D cX3_kindOf 8 (.lcmp) 1 9 := ⟨by decide +kernel, rfl⟩
theorem rX3_kindOf_9 : tq_J cX3_kindOf 9 (.ifCond .ne) 16 12 := ⟨7, by decide +kernel, by decide, rfl⟩
theorem rX3_kindOf_12 : tq_D cX3_kindOf 12 (.iconst (-1)) 1 13 := ⟨by decide +kernel, rfl⟩
theorem rX3_kindOf_13 : tq_J cX3_kindOf 13 .goto 21 16 := ⟨8, by decide +kernel, by decide, rfl⟩
theorem rX3_kindOf_16 : tq_D cX3_kindOf 16 (.aload_n 0) 1 17 := ⟨by decide +kernel, rfl⟩
theorem rX3_kindOf_17 : tq_D cX3_kindOf 17 (.lload_n 2) 1 18 := ⟨by decide +kernel, rfl⟩
theorem rX3_kindOf_18 : tq_D cX3_kindOf 18 (.invokevirtual 86) 3 21 := ⟨by decide +kernel, rfl⟩
theorem rX3_kindOf_21 : decode cX3_kindOf 21 = .ok (.ireturn, 1) := by decide +kernel
noncomputable def FX3_kindOf (I : tq_PI) (L : tq_PL) (a0 : Nat) (a1 : Int32) : Option (Int32) :=
  ((FX3_bitOf I L a0 a1).bind fun p1 => (if (lg_cmp p1 (0 : Int64)) = 0 then some (-1 : Int32) else (tq_let (FX3_kindOfBit I L a0 p1) fun p3 => some p3)))
set_option maxRecDepth 100000 in
set_option maxHeartbeats 4000000 in
theorem CX3_kindOf {S : Nat × (Nat → Int32)} {d : Nat} {I : tq_PI} {L : tq_PL} {a0 : Nat} {a1 : Int32} (h0 : tq_sh0 a0 = 3) {out : Int32} (hf : FX3_kindOf I L a0 a1 = some out) : tq_K S mX3_kindOf (d + 2) [.ref a0, .int a1] I L (tq_one2 (some (.int out)) I L) := by
  unfold FX3_kindOf at hf
  refine tq_K_of (by decide) (Nat.le_of_ble_eq_true rfl) (ls := [.ref a0, .int a1, tq_u, tq_u]) rfl ?_
  refine tq_aload_n rX3_kindOf_0 rfl ?_
  refine tq_iload_n rX3_kindOf_1 rfl ?_
  obtain ⟨p1, e1, hf⟩ := Option.bind_eq_some_iff.mp hf
  refine ty_callVJ p1 ([.int a1]) ([]) rX3_kindOf_2 l_X3_83 moX3_bitOf mvX3_bitOf h0 rfl rfl (Nat.le_of_ble_eq_true rfl) ⟨rfl, rfl⟩ (CX3_bitOf h0 e1) ?_
  refine tq_lstore_n ([.ref a0, .int a1, .long p1, tq_u]) rX3_kindOf_5 (Nat.le_of_ble_eq_true rfl) rfl ?_
  refine tq_lload_n rX3_kindOf_6 rfl ?_
  refine tq_lconst (0 : Int64) rX3_kindOf_7 (by decide) ?_
  refine tq_lcmp rX3_kindOf_8 ?_
  refine tq_if_ne rX3_kindOf_9 (fun c2 => ?_) (fun c2 => ?_)
  · rw [if_neg c2] at hf
    refine tq_aload_n rX3_kindOf_16 rfl ?_
    refine tq_lload_n rX3_kindOf_17 rfl ?_
    obtain ⟨p3, e3, hf⟩ := tq_let_elim hf
    refine ty_callVI p3 ([.long p1]) ([]) rX3_kindOf_18 l_X3_86 moX3_kindOfBit mvX3_kindOfBit h0 rfl rfl (Nat.le_of_ble_eq_true rfl) ⟨rfl, rfl⟩ (CX3_kindOfBit h0 e3) ?_
    refine ty_iret rX3_kindOf_21 rfl rfl ?_
    have hf := Option.some.inj hf
    subst hf
    exact ⟨rfl, rfl, rfl⟩
  · rw [if_pos c2] at hf
    refine tq_iconst (-1 : Int32) rX3_kindOf_12 (by decide) ?_
    refine tq_goto rX3_kindOf_13 ?_
    refine ty_iret rX3_kindOf_21 rfl rfl ?_
    have hf := Option.some.inj hf
    subst hf
    exact ⟨rfl, rfl, rfl⟩

abbrev mX3_worthOf : tq_M := (yX3_worthOf, cX3_worthOf, 3, (Option.some Jvm.ClassFile.FieldType.int), 0, 0)
theorem rX3_worthOf_0 : tq_D cX3_worthOf 0 (.aload_n 0) 1 1 := ⟨by decide +kernel, rfl⟩
theorem rX3_worthOf_1 : tq_D cX3_worthOf 1 (.getfield 31) 3 4 := ⟨by decide +kernel, rfl⟩
theorem rX3_worthOf_4 : tq_D cX3_worthOf 4 (.lload_n 1) 1 5 := ⟨by decide +kernel, rfl⟩
theorem rX3_worthOf_5 : tq_D cX3_worthOf 5 (.land) 1 6 := ⟨by decide +kernel, rfl⟩
theorem rX3_worthOf_6 : tq_D cX3_worthOf 6 (.invokestatic 70) 3 9 := ⟨by decide +kernel, rfl⟩
theorem rX3_worthOf_9 : tq_D cX3_worthOf 9 (.iconst 4) 1 10 := ⟨by decide +kernel, rfl⟩
theorem rX3_worthOf_10 : tq_D cX3_worthOf 10 (.aload_n 0) 1 11 := ⟨by decide +kernel, rfl⟩
theorem rX3_worthOf_11 : tq_D cX3_worthOf 11 (.getfield 34) 3 14 := ⟨by decide +kernel, rfl⟩
theorem rX3_worthOf_14 : tq_D cX3_worthOf 14 (.lload_n 1) 1 15 := ⟨by decide +kernel, rfl⟩
theorem rX3_worthOf_15 : tq_D cX3_worthOf 15 (.land) 1 16 := ⟨by decide +kernel, rfl⟩
theorem rX3_worthOf_16 : tq_D cX3_worthOf 16 (.invokestatic 70) 3 19 := ⟨by decide +kernel, rfl⟩
theorem rX3_worthOf_19 : tq_D cX3_worthOf 19 (.imul) 1 20 := ⟨by decide +kernel, rfl⟩
theorem rX3_worthOf_20 : tq_D cX3_worthOf 20 (.iadd) 1 21 := ⟨by decide +kernel, rfl⟩
theorem rX3_worthOf_21 : tq_D cX3_worthOf 21 (.iconst 2) 1 22 := ⟨by decide +kernel, rfl⟩
theorem rX3_worthOf_22 : tq_D cX3_worthOf 22 (.aload_n 0) 1 23 := ⟨by decide +kernel, rfl⟩
theorem rX3_worthOf_23 : tq_D cX3_worthOf 23 (.getfield 37) 3 26 := ⟨by decide +kernel, rfl⟩
theorem rX3_worthOf_26 : tq_D cX3_worthOf 26 (.lload_n 1) 1 27 := ⟨by decide +kernel, rfl⟩
theorem rX3_worthOf_27 : tq_D cX3_worthOf 27 (.land) 1 28 := ⟨by decide +kernel, rfl⟩
theorem rX3_worthOf_28 : tq_D cX3_worthOf 28 (.invokestatic 70) 3 31 := ⟨by decide +kernel, rfl⟩
theorem rX3_worthOf_31 : tq_D cX3_worthOf 31 (.imul) 1 32 := ⟨by decide +kernel, rfl⟩
theorem rX3_worthOf_32 : tq_D cX3_worthOf 32 (.iadd) 1 33 := ⟨by decide +kernel, rfl⟩
theorem rX3_worthOf_33 : decode cX3_worthOf 33 = .ok (.ireturn, 1) := by decide +kernel
noncomputable def FX3_worthOf (I : tq_PI) (L : tq_PL) (a0 : Nat) (a1 : Int64) : Int32 :=
  (tq_let (FJ13_bitCount_95d88 I L (((L a0 6) &&& a1))) fun p1 => (tq_let (FJ13_bitCount_95d88 I L (((L a0 7) &&& a1))) fun p2 => (tq_let (FJ13_bitCount_95d88 I L (((L a0 8) &&& a1))) fun p3 => ((p1 + ((4 : Int32) * p2)) + ((2 : Int32) * p3)))))
set_option maxRecDepth 100000 in
set_option maxHeartbeats 4000000 in
theorem CX3_worthOf {S : Nat × (Nat → Int32)} {d : Nat} {I : tq_PI} {L : tq_PL} {a0 : Nat} {a1 : Int64} (h0 : tq_sh0 a0 = 3) {out : Int32} (hf : FX3_worthOf I L a0 a1 = out) : tq_K S mX3_worthOf (d + 1) [.ref a0, .long a1] I L (tq_one2 (some (.int out)) I L) := by
  unfold FX3_worthOf at hf
  refine tq_K_of (by decide) (Nat.le_of_ble_eq_true rfl) (ls := [.ref a0, .long a1, tq_u]) rfl ?_
  refine tq_aload_n rX3_worthOf_0 rfl ?_
  refine ty_getL rX3_worthOf_1 f_X3_31 rfl h0 ?_
  refine tq_lload_n rX3_worthOf_4 rfl ?_
  refine tq_land rX3_worthOf_5 ?_
  obtain ⟨p1, e1, hf⟩ := tq_let_elim hf
  refine ty_callSI p1 ([.long ((L a0 6) &&& a1)]) ([]) rX3_worthOf_6 l_X3_70 moJ13_bitCount_95d88 msJ13_bitCount_95d88 rfl rfl (Nat.le_of_ble_eq_true rfl) ⟨rfl, rfl⟩ (CJ13_bitCount_95d88  e1) ?_
  refine tq_iconst (4 : Int32) rX3_worthOf_9 (by decide) ?_
  refine tq_aload_n rX3_worthOf_10 rfl ?_
  refine ty_getL rX3_worthOf_11 f_X3_34 rfl h0 ?_
  refine tq_lload_n rX3_worthOf_14 rfl ?_
  refine tq_land rX3_worthOf_15 ?_
  obtain ⟨p2, e2, hf⟩ := tq_let_elim hf
  refine ty_callSI p2 ([.long ((L a0 7) &&& a1)]) ([.int (4 : Int32), .int p1]) rX3_worthOf_16 l_X3_70 moJ13_bitCount_95d88 msJ13_bitCount_95d88 rfl rfl (Nat.le_of_ble_eq_true rfl) ⟨rfl, rfl⟩ (CJ13_bitCount_95d88  e2) ?_
  refine tq_imul rX3_worthOf_19 ?_
  refine tq_iadd rX3_worthOf_20 ?_
  refine tq_iconst (2 : Int32) rX3_worthOf_21 (by decide) ?_
  refine tq_aload_n rX3_worthOf_22 rfl ?_
  refine ty_getL rX3_worthOf_23 f_X3_37 rfl h0 ?_
  refine tq_lload_n rX3_worthOf_26 rfl ?_
  refine tq_land rX3_worthOf_27 ?_
  obtain ⟨p3, e3, hf⟩ := tq_let_elim hf
  refine ty_callSI p3 ([.long ((L a0 8) &&& a1)]) ([.int (2 : Int32), .int (p1 + ((4 : Int32) * p2))]) rX3_worthOf_28 l_X3_70 moJ13_bitCount_95d88 msJ13_bitCount_95d88 rfl rfl (Nat.le_of_ble_eq_true rfl) ⟨rfl, rfl⟩ (CJ13_bitCount_95d88  e3) ?_
  refine tq_imul rX3_worthOf_31 ?_
  refine tq_iadd rX3_worthOf_32 ?_
  refine ty_iret rX3_worthOf_33 rfl rfl ?_
  subst hf
  exact ⟨rfl, rfl, rfl⟩

abbrev mX3_blowsOf : tq_M := (yX3_blowsOf, cX3_blowsOf, 3, (Option.some Jvm.ClassFile.FieldType.int), 0, 0)
theorem rX3_blowsOf_0 : tq_D cX3_blowsOf 0 (.aload_n 0) 1 1 := ⟨by decide +kernel, rfl⟩
theorem rX3_blowsOf_1 : tq_D cX3_blowsOf 1 (.getfield 31) 3 4 := ⟨by decide +kernel, rfl⟩
theorem rX3_blowsOf_4 : tq_D cX3_blowsOf 4 (.lload_n 1) 1 5 := ⟨by decide +kernel, rfl⟩
theorem rX3_blowsOf_5 : tq_D cX3_blowsOf 5 (.land) 1 6 := ⟨by decide +kernel, rfl⟩
theorem rX3_blowsOf_6 : tq_D cX3_blowsOf 6 (.invokestatic 70) 3 9 := ⟨by decide +kernel, rfl⟩
theorem rX3_blowsOf_9 : tq_D cX3_blowsOf 9 (.iconst 2) 1 10 := ⟨by decide +kernel, rfl⟩
theorem rX3_blowsOf_10 : tq_D cX3_blowsOf 10 (.aload_n 0) 1 11 := ⟨by decide +kernel, rfl⟩
theorem rX3_blowsOf_11 : tq_D cX3_blowsOf 11 (.getfield 34) 3 14 := ⟨by decide +kernel, rfl⟩
theorem rX3_blowsOf_14 : tq_D cX3_blowsOf 14 (.lload_n 1) 1 15 := ⟨by decide +kernel, rfl⟩
theorem rX3_blowsOf_15 : tq_D cX3_blowsOf 15 (.land) 1 16 := ⟨by decide +kernel, rfl⟩
theorem rX3_blowsOf_16 : tq_D cX3_blowsOf 16 (.invokestatic 70) 3 19 := ⟨by decide +kernel, rfl⟩
theorem rX3_blowsOf_19 : tq_D cX3_blowsOf 19 (.imul) 1 20 := ⟨by decide +kernel, rfl⟩
theorem rX3_blowsOf_20 : tq_D cX3_blowsOf 20 (.iadd) 1 21 := ⟨by decide +kernel, rfl⟩
theorem rX3_blowsOf_21 : tq_D cX3_blowsOf 21 (.iconst 3) 1 22 := ⟨by decide +kernel, rfl⟩
theorem rX3_blowsOf_22 : tq_D cX3_blowsOf 22 (.aload_n 0) 1 23 := ⟨by decide +kernel, rfl⟩
theorem rX3_blowsOf_23 : tq_D cX3_blowsOf 23 (.getfield 37) 3 26 := ⟨by decide +kernel, rfl⟩
theorem rX3_blowsOf_26 : tq_D cX3_blowsOf 26 (.lload_n 1) 1 27 := ⟨by decide +kernel, rfl⟩
theorem rX3_blowsOf_27 : tq_D cX3_blowsOf 27 (.land) 1 28 := ⟨by decide +kernel, rfl⟩
theorem rX3_blowsOf_28 : tq_D cX3_blowsOf 28 (.invokestatic 70) 3 31 := ⟨by decide +kernel, rfl⟩
theorem rX3_blowsOf_31 : tq_D cX3_blowsOf 31 (.imul) 1 32 := ⟨by decide +kernel, rfl⟩
theorem rX3_blowsOf_32 : tq_D cX3_blowsOf 32 (.iadd) 1 33 := ⟨by decide +kernel, rfl⟩
theorem rX3_blowsOf_33 : decode cX3_blowsOf 33 = .ok (.ireturn, 1) := by decide +kernel
noncomputable def FX3_blowsOf (I : tq_PI) (L : tq_PL) (a0 : Nat) (a1 : Int64) : Int32 :=
  (tq_let (FJ13_bitCount_95d88 I L (((L a0 6) &&& a1))) fun p1 => (tq_let (FJ13_bitCount_95d88 I L (((L a0 7) &&& a1))) fun p2 => (tq_let (FJ13_bitCount_95d88 I L (((L a0 8) &&& a1))) fun p3 => ((p1 + ((2 : Int32) * p2)) + ((3 : Int32) * p3)))))
set_option maxRecDepth 100000 in
set_option maxHeartbeats 4000000 in
theorem CX3_blowsOf {S : Nat × (Nat → Int32)} {d : Nat} {I : tq_PI} {L : tq_PL} {a0 : Nat} {a1 : Int64} (h0 : tq_sh0 a0 = 3) {out : Int32} (hf : FX3_blowsOf I L a0 a1 = out) : tq_K S mX3_blowsOf (d + 1) [.ref a0, .long a1] I L (tq_one2 (some (.int out)) I L) := by
  unfold FX3_blowsOf at hf
  refine tq_K_of (by decide) (Nat.le_of_ble_eq_true rfl) (ls := [.ref a0, .long a1, tq_u]) rfl ?_
  refine tq_aload_n rX3_blowsOf_0 rfl ?_
  refine ty_getL rX3_blowsOf_1 f_X3_31 rfl h0 ?_
  refine tq_lload_n rX3_blowsOf_4 rfl ?_
  refine tq_land rX3_blowsOf_5 ?_
  obtain ⟨p1, e1, hf⟩ := tq_let_elim hf
  refine ty_callSI p1 ([.long ((L a0 6) &&& a1)]) ([]) rX3_blowsOf_6 l_X3_70 moJ13_bitCount_95d88 msJ13_bitCount_95d88 rfl rfl (Nat.le_of_ble_eq_true rfl) ⟨rfl, rfl⟩ (CJ13_bitCount_95d88  e1) ?_
  refine tq_iconst (2 : Int32) rX3_blowsOf_9 (by decide) ?_
  refine tq_aload_n rX3_blowsOf_10 rfl ?_
  refine ty_getL rX3_blowsOf_11 f_X3_34 rfl h0 ?_
  refine tq_lload_n rX3_blowsOf_14 rfl ?_
  refine tq_land rX3_blowsOf_15 ?_
  obtain ⟨p2, e2, hf⟩ := tq_let_elim hf
  refine ty_callSI p2 ([.long ((L a0 7) &&& a1)]) ([.int (2 : Int32), .int p1]) rX3_blowsOf_16 l_X3_70 moJ13_bitCount_95d88 msJ13_bitCount_95d88 rfl rfl (Nat.le_of_ble_eq_true rfl) ⟨rfl, rfl⟩ (CJ13_bitCount_95d88  e2) ?_
  refine tq_imul rX3_blowsOf_19 ?_
  refine tq_iadd rX3_blowsOf_20 ?_
  refine tq_iconst (3 : Int32) rX3_blowsOf_21 (by decide) ?_
  refine tq_aload_n rX3_blowsOf_22 rfl ?_
  refine ty_getL rX3_blowsOf_23 f_X3_37 rfl h0 ?_
  refine tq_lload_n rX3_blowsOf_26 rfl ?_
  refine tq_land rX3_blowsOf_27 ?_
  obtain ⟨p3, e3, hf⟩ := tq_let_elim hf
  refine ty_callSI p3 ([.long ((L a0 8) &&& a1)]) ([.int (3 : Int32), .int (p1 + ((2 : Int32) * p2))]) rX3_blowsOf_28 l_X3_70 moJ13_bitCount_95d88 msJ13_bitCount_95d88 rfl rfl (Nat.le_of_ble_eq_true rfl) ⟨rfl, rfl⟩ (CJ13_bitCount_95d88  e3) ?_
  refine tq_imul rX3_blowsOf_31 ?_
  refine tq_iadd rX3_blowsOf_32 ?_
  refine ty_iret rX3_blowsOf_33 rfl rfl ?_
  subst hf
  exact ⟨rfl, rfl, rfl⟩

abbrev mX3_dearest : tq_M := (yX3_dearest, cX3_dearest, 3, (Option.some Jvm.ClassFile.FieldType.long), 0, 0)
theorem rX3_dearest_0 : tq_D cX3_dearest 0 (.lload_n 1) 1 1 := ⟨by decide +kernel, rfl⟩
theorem rX3_dearest_1 : tq_D cX3_dearest 1 (.aload_n 0) 1 2 := ⟨by decide +kernel, rfl⟩
theorem rX3_dearest_2 : tq_D cX3_dearest 2 (.getfield 34) 3 5 := ⟨by decide +kernel, rfl⟩
theorem rX3_dearest_5 : tq_D cX3_dearest 5 (.land) 1 6 := ⟨by decide +kernel, rfl⟩
theorem rX3_dearest_6 : tq_D cX3_dearest 6 (.lconst 0) 1 7 := ⟨by decide +kernel, rfl⟩
theorem rX3_dearest_7 : tq_D cX3_dearest 7 (.lcmp) 1 8 := ⟨by decide +kernel, rfl⟩
theorem rX3_dearest_8 : tq_J cX3_dearest 8 (.ifCond .eq) 21 11 := ⟨13, by decide +kernel, by decide, rfl⟩
theorem rX3_dearest_11 : tq_D cX3_dearest 11 (.lload_n 1) 1 12 := ⟨by decide +kernel, rfl⟩
theorem rX3_dearest_12 : tq_D cX3_dearest 12 (.aload_n 0) 1 13 := ⟨by decide +kernel, rfl⟩
theorem rX3_dearest_13 : tq_D cX3_dearest 13 (.getfield 34) 3 16 := ⟨by decide +kernel, rfl⟩
theorem rX3_dearest_16 : tq_D cX3_dearest 16 (.land) 1 17 := ⟨by decide +kernel, rfl⟩
theorem rX3_dearest_17 : tq_D cX3_dearest 17 (.invokestatic 76) 3 20 := ⟨by decide +kernel, rfl⟩
theorem rX3_dearest_20 : decode cX3_dearest 20 = .ok (.lreturn, 1) := by decide +kernel
theorem rX3_dearest_21 : tq_D cX3_dearest 21 (.lload_n 1) 1 22 := ⟨by decide +kernel, rfl⟩
theorem rX3_dearest_22 : tq_D cX3_dearest 22 (.aload_n 0) 1 23 := ⟨by decide +kernel, rfl⟩
theorem rX3_dearest_23 : tq_D cX3_dearest 23 (.getfield 37) 3 26 := ⟨by decide +kernel, rfl⟩
theorem rX3_dearest_26 : tq_D cX3_dearest 26 (.land) 1 27 := ⟨by decide +kernel, rfl⟩
theorem rX3_dearest_27 : tq_D cX3_dearest 27 (.lconst 0) 1 28 := ⟨by decide +kernel, rfl⟩
theorem rX3_dearest_28 : tq_D cX3_dearest 28 (.lcmp) 1 29 := ⟨by decide +kernel, rfl⟩
theorem rX3_dearest_29 : tq_J cX3_dearest 29 (.ifCond .eq) 41 32 := ⟨12, by decide +kernel, by decide, rfl⟩
theorem rX3_dearest_32 : tq_D cX3_dearest 32 (.lload_n 1) 1 33 := ⟨by decide +kernel, rfl⟩
theorem rX3_dearest_33 : tq_D cX3_dearest 33 (.aload_n 0) 1 34 := ⟨by decide +kernel, rfl⟩
theorem rX3_dearest_34 : tq_D cX3_dearest 34 (.getfield 37) 3 37 := ⟨by decide +kernel, rfl⟩
theorem rX3_dearest_37 : tq_D cX3_dearest 37 (.land) 1 38 := ⟨by decide +kernel, rfl⟩
theorem rX3_dearest_38 : tq_J cX3_dearest 38 .goto 47 41 := ⟨9, by decide +kernel, by decide, rfl⟩
theorem rX3_dearest_41 : tq_D cX3_dearest 41 (.lload_n 1) 1 42 := ⟨by decide +kernel, rfl⟩
theorem rX3_dearest_42 : tq_D cX3_dearest 42 (.aload_n 0) 1 43 := ⟨by decide +kernel, rfl⟩
theorem rX3_dearest_43 : tq_D cX3_dearest 43 (.getfield 31) 3 46 := ⟨by decide +kernel, rfl⟩
theorem rX3_dearest_46 : tq_D cX3_dearest 46 (.land) 1 47 := ⟨by decide +kernel, rfl⟩
theorem rX3_dearest_47 : tq_D cX3_dearest 47 (.invokestatic 76) 3 50 := ⟨by decide +kernel, rfl⟩
theorem rX3_dearest_50 : decode cX3_dearest 50 = .ok (.lreturn, 1) := by decide +kernel
noncomputable def FX3_dearest_j47 (I : tq_PI) (L : tq_PL) (b0 : Int64) : Int64 :=
  (tq_let (FX11_lowest I L b0) fun p3 => p3)
noncomputable def FX3_dearest (I : tq_PI) (L : tq_PL) (a0 : Nat) (a1 : Int64) : Int64 :=
  (if (lg_cmp (a1 &&& (L a0 7)) (0 : Int64)) = 0 then (if (lg_cmp (a1 &&& (L a0 8)) (0 : Int64)) = 0 then (FX3_dearest_j47 I L ((a1 &&& (L a0 6)))) else (FX3_dearest_j47 I L ((a1 &&& (L a0 8))))) else (tq_let (FX11_lowest I L ((a1 &&& (L a0 7)))) fun p4 => p4))
set_option maxRecDepth 100000 in
set_option maxHeartbeats 4000000 in
theorem FX3_dearest_j47_x {S : Nat × (Nat → Int32)} {d : Nat} {I : tq_PI} {L : tq_PL} {b0 : Int64}  {q0 : Option Value → tq_PI → tq_PL → Prop} {out : Int64} (hf : FX3_dearest_j47 I L b0 = out) (hk : q0 (some (.long out)) I L) : tq_X S mX3_dearest (d + 1) tq_k0 47 ([tq_u, tq_u, tq_u]) ([.long b0]) (tq_st I L) (tq_Q q0) := by
  unfold FX3_dearest_j47 at hf
  obtain ⟨p3, e3, hf⟩ := tq_let_elim hf
  refine ty_callSJ p3 ([.long b0]) ([]) rX3_dearest_47 l_X3_76 moX11_lowest msX11_lowest rfl rfl (Nat.le_of_ble_eq_true rfl) ⟨rfl, rfl⟩ (CX11_lowest  e3) ?_
  refine ty_lret rX3_dearest_50 rfl rfl ?_
  subst hf
  exact hk

set_option maxRecDepth 100000 in
set_option maxHeartbeats 4000000 in
theorem CX3_dearest {S : Nat × (Nat → Int32)} {d : Nat} {I : tq_PI} {L : tq_PL} {a0 : Nat} {a1 : Int64} (h0 : tq_sh0 a0 = 3) {out : Int64} (hf : FX3_dearest I L a0 a1 = out) : tq_K S mX3_dearest (d + 1) [.ref a0, .long a1] I L (tq_one2 (some (.long out)) I L) := by
  unfold FX3_dearest at hf
  refine tq_K_of (by decide) (Nat.le_of_ble_eq_true rfl) (ls := [.ref a0, .long a1, tq_u]) rfl ?_
  refine tq_lload_n rX3_dearest_0 rfl ?_
  refine tq_aload_n rX3_dearest_1 rfl ?_
  refine ty_getL rX3_dearest_2 f_X3_34 rfl h0 ?_
  refine tq_land rX3_dearest_5 ?_
  refine tq_lconst (0 : Int64) rX3_dearest_6 (by decide) ?_
  refine tq_lcmp rX3_dearest_7 ?_
  refine tq_if_eq rX3_dearest_8 (fun c1 => ?_) (fun c1 => ?_)
  · rw [if_pos c1] at hf
    refine tq_lload_n rX3_dearest_21 rfl ?_
    refine tq_aload_n rX3_dearest_22 rfl ?_
    refine ty_getL rX3_dearest_23 f_X3_37 rfl h0 ?_
    refine tq_land rX3_dearest_26 ?_
    refine tq_lconst (0 : Int64) rX3_dearest_27 (by decide) ?_
    refine tq_lcmp rX3_dearest_28 ?_
    refine tq_if_eq rX3_dearest_29 (fun c2 => ?_) (fun c2 => ?_)
    · rw [if_pos c2] at hf
      refine tq_lload_n rX3_dearest_41 rfl ?_
      refine tq_aload_n rX3_dearest_42 rfl ?_
      refine ty_getL rX3_dearest_43 f_X3_31 rfl h0 ?_
      refine tq_land rX3_dearest_46 ?_
      exact tq_forget _ (tq_le_u (tq_le_u (tq_le_u tq_le_n))) (FX3_dearest_j47_x   hf ⟨rfl, rfl, rfl⟩)
    · rw [if_neg c2] at hf
      refine tq_lload_n rX3_dearest_32 rfl ?_
      refine tq_aload_n rX3_dearest_33 rfl ?_
      refine ty_getL rX3_dearest_34 f_X3_37 rfl h0 ?_
      refine tq_land rX3_dearest_37 ?_
      refine tq_goto rX3_dearest_38 ?_
      exact tq_forget _ (tq_le_u (tq_le_u (tq_le_u tq_le_n))) (FX3_dearest_j47_x   hf ⟨rfl, rfl, rfl⟩)
  · rw [if_neg c1] at hf
    refine tq_lload_n rX3_dearest_11 rfl ?_
    refine tq_aload_n rX3_dearest_12 rfl ?_
    refine ty_getL rX3_dearest_13 f_X3_34 rfl h0 ?_
    refine tq_land rX3_dearest_16 ?_
    obtain ⟨p4, e4, hf⟩ := tq_let_elim hf
    refine ty_callSJ p4 ([.long (a1 &&& (L a0 7))]) ([]) rX3_dearest_17 l_X3_76 moX11_lowest msX11_lowest rfl rfl (Nat.le_of_ble_eq_true rfl) ⟨rfl, rfl⟩ (CX11_lowest  e4) ?_
    refine ty_lret rX3_dearest_20 rfl rfl ?_
    subst hf
    exact ⟨rfl, rfl, rfl⟩

abbrev mX3_carried : tq_M := (yX3_carried, cX3_carried, 3, (Option.some Jvm.ClassFile.FieldType.long), 0, 0)
theorem rX3_carried_0 : tq_D cX3_carried 0 (.lload_n 1) 1 1 := ⟨by decide +kernel, rfl⟩
theorem rX3_carried_1 : tq_D cX3_carried 1 (.aload_n 0) 1 2 := ⟨by decide +kernel, rfl⟩
theorem rX3_carried_2 : tq_D cX3_carried 2 (.getfield 28) 3 5 := ⟨by decide +kernel, rfl⟩
theorem rX3_carried_5 : tq_D cX3_carried 5 (.lload_n 1) 1 6 := ⟨by decide +kernel, rfl⟩
theorem rX3_carried_6 : tq_D cX3_carried 6 (.bipush 8) 2 8 := ⟨by decide +kernel, rfl⟩
theorem rX3_carried_8 : tq_D cX3_carried 8 (.lushr) 1 9 := ⟨by decide +kernel, rfl⟩
theorem rX3_carried_9 : tq_D cX3_carried 9 (.lor) 1 10 := ⟨by decide +kernel, rfl⟩
theorem rX3_carried_10 : tq_D cX3_carried 10 (.land) 1 11 := ⟨by decide +kernel, rfl⟩
theorem rX3_carried_11 : decode cX3_carried 11 = .ok (.lreturn, 1) := by decide +kernel
noncomputable def FX3_carried (I : tq_PI) (L : tq_PL) (a0 : Nat) (a1 : Int64) : Int64 :=
  (a1 &&& ((L a0 5) ||| ((Int64.toUInt64 a1 >>> ((Int32.toInt64 (8 : Int32)).toUInt64 &&& Int64.toUInt64 63)).toInt64)))
set_option maxRecDepth 100000 in
set_option maxHeartbeats 4000000 in
theorem CX3_carried {S : Nat × (Nat → Int32)} {d : Nat} {I : tq_PI} {L : tq_PL} {a0 : Nat} {a1 : Int64} (h0 : tq_sh0 a0 = 3) {out : Int64} (hf : FX3_carried I L a0 a1 = out) : tq_K S mX3_carried d [.ref a0, .long a1] I L (tq_one2 (some (.long out)) I L) := by
  unfold FX3_carried at hf
  refine tq_K_of (by decide) (Nat.le_of_ble_eq_true rfl) (ls := [.ref a0, .long a1, tq_u]) rfl ?_
  refine tq_lload_n rX3_carried_0 rfl ?_
  refine tq_aload_n rX3_carried_1 rfl ?_
  refine ty_getL rX3_carried_2 f_X3_28 rfl h0 ?_
  refine tq_lload_n rX3_carried_5 rfl ?_
  refine tq_bipush (8 : Int32) rX3_carried_6 (by decide) ?_
  refine tq_lushr rX3_carried_8 ?_
  refine tq_lor rX3_carried_9 ?_
  refine tq_land rX3_carried_10 ?_
  refine ty_lret rX3_carried_11 rfl rfl ?_
  subst hf
  exact ⟨rfl, rfl, rfl⟩

abbrev mX3_bridged : tq_M := (yX3_bridged, cX3_bridged, 3, (Option.some Jvm.ClassFile.FieldType.long), 0, 0)
theorem k_X3_89 : Cond.constantLong RX3 89 (-141289400074369) ∈ lw_tbl := tq_sg3 _ (List.mem_of_getElem? (i := 131) rfl)
theorem k_X3_91 : Cond.constantLong RX3 91 (-1103823438082) ∈ lw_tbl := tq_sg3 _ (List.mem_of_getElem? (i := 132) rfl)
theorem rX3_bridged_0 : tq_D cX3_bridged 0 (.lload_n 1) 1 1 := ⟨by decide +kernel, rfl⟩
theorem rX3_bridged_1 : tq_D cX3_bridged 1 (.lload_n 1) 1 2 := ⟨by decide +kernel, rfl⟩
theorem rX3_bridged_2 : tq_D cX3_bridged 2 (.iconst 1) 1 3 := ⟨by decide +kernel, rfl⟩
theorem rX3_bridged_3 : tq_D cX3_bridged 3 (.lushr) 1 4 := ⟨by decide +kernel, rfl⟩
theorem rX3_bridged_4 : tq_D cX3_bridged 4 (.land) 1 5 := ⟨by decide +kernel, rfl⟩
theorem rX3_bridged_5 : tq_D cX3_bridged 5 (.ldc2_w 89) 3 8 := ⟨by decide +kernel, rfl⟩
theorem rX3_bridged_8 : tq_D cX3_bridged 8 (.land) 1 9 := ⟨by decide +kernel, rfl⟩
theorem rX3_bridged_9 : tq_D cX3_bridged 9 (.lload_n 1) 1 10 := ⟨by decide +kernel, rfl⟩
theorem rX3_bridged_10 : tq_D cX3_bridged 10 (.iconst 1) 1 11 := ⟨by decide +kernel, rfl⟩
theorem rX3_bridged_11 : tq_D cX3_bridged 11 (.lshl) 1 12 := ⟨by decide +kernel, rfl⟩
theorem rX3_bridged_12 : tq_D cX3_bridged 12 (.land) 1 13 := ⟨by decide +kernel, rfl⟩
theorem rX3_bridged_13 : tq_D cX3_bridged 13 (.ldc2_w 91) 3 16 := ⟨by decide +kernel, rfl⟩
theorem rX3_bridged_16 : tq_D cX3_bridged 16 (.land) 1 17 := ⟨by decide +kernel, rfl⟩
theorem rX3_bridged_17 : decode cX3_bridged 17 = .ok (.lreturn, 1) := by decide +kernel
noncomputable def FX3_bridged (I : tq_PI) (L : tq_PL) (a0 : Nat) (a1 : Int64) : Int64 :=
  ((((a1 &&& ((Int64.toUInt64 a1 >>> ((Int32.toInt64 (1 : Int32)).toUInt64 &&& Int64.toUInt64 63)).toInt64)) &&& (-141289400074369 : Int64)) &&& (a1 <<< (Int32.toInt64 (1 : Int32) &&& 63))) &&& (-1103823438082 : Int64))
set_option maxRecDepth 100000 in
set_option maxHeartbeats 4000000 in
theorem CX3_bridged {S : Nat × (Nat → Int32)} {d : Nat} {I : tq_PI} {L : tq_PL} {a0 : Nat} {a1 : Int64} (h0 : tq_sh0 a0 = 3) {out : Int64} (hf : FX3_bridged I L a0 a1 = out) : tq_K S mX3_bridged d [.ref a0, .long a1] I L (tq_one2 (some (.long out)) I L) := by
  unfold FX3_bridged at hf
  refine tq_K_of (by decide) (Nat.le_of_ble_eq_true rfl) (ls := [.ref a0, .long a1, tq_u]) rfl ?_
  refine tq_lload_n rX3_bridged_0 rfl ?_
  refine tq_lload_n rX3_bridged_1 rfl ?_
  refine tq_iconst (1 : Int32) rX3_bridged_2 (by decide) ?_
  refine tq_lushr rX3_bridged_3 ?_
  refine tq_land rX3_bridged_4 ?_
  refine tq_ldc2 rX3_bridged_5 (k_X3_89) ?_
  refine tq_land rX3_bridged_8 ?_
  refine tq_lload_n rX3_bridged_9 rfl ?_
  refine tq_iconst (1 : Int32) rX3_bridged_10 (by decide) ?_
  refine tq_lshl rX3_bridged_11 ?_
  refine tq_land rX3_bridged_12 ?_
  refine tq_ldc2 rX3_bridged_13 (k_X3_91) ?_
  refine tq_land rX3_bridged_16 ?_
  refine ty_lret rX3_bridged_17 rfl rfl ?_
  subst hf
  exact ⟨rfl, rfl, rfl⟩

abbrev mX3_standing : tq_M := (yX3_standing, cX3_standing, 3, (Option.some Jvm.ClassFile.FieldType.long), 0, 0)
theorem moX3_bridged : tq_mok mX3_bridged 1 := ⟨tq_sg1 _ (List.mem_of_getElem? (i := 3) rfl), tq_sg3 _ (List.mem_of_getElem? (i := 130) rfl), ⟨by decide, by decide, by decide +kernel⟩, by decide⟩
theorem mvX3_bridged : 3 < 13 ∧ (tq_cl 3).1 = mX3_bridged.1.cls ∧ Cond.instanceMethod mX3_bridged.1 ∈ lw_tbl ∧ Cond.selects mX3_bridged.1.cls mX3_bridged.1 mX3_bridged.1 ∈ lw_tbl := ⟨by decide, rfl, tq_sg3 _ (List.mem_of_getElem? (i := 129) rfl), List.mem_append_left _ (List.mem_map.mpr ⟨_, List.mem_of_getElem? (i := 16) rfl, rfl⟩)⟩
theorem moX3_carried : tq_mok mX3_carried 1 := ⟨tq_sg1 _ (List.mem_of_getElem? (i := 3) rfl), tq_sg3 _ (List.mem_of_getElem? (i := 126) rfl), ⟨by decide, by decide, by decide +kernel⟩, by decide⟩
theorem mvX3_carried : 3 < 13 ∧ (tq_cl 3).1 = mX3_carried.1.cls ∧ Cond.instanceMethod mX3_carried.1 ∈ lw_tbl ∧ Cond.selects mX3_carried.1.cls mX3_carried.1 mX3_carried.1 ∈ lw_tbl := ⟨by decide, rfl, tq_sg3 _ (List.mem_of_getElem? (i := 125) rfl), List.mem_append_left _ (List.mem_map.mpr ⟨_, List.mem_of_getElem? (i := 15) rfl, rfl⟩)⟩
theorem l_X3_93 : tq_lok RX3 93 mX3_carried.1 := Or.inl (tq_sg3 _ (List.mem_of_getElem? (i := 123) rfl))
theorem l_X3_96 : tq_lok RX3 96 mX3_bridged.1 := Or.inl (tq_sg3 _ (List.mem_of_getElem? (i := 127) rfl))
theorem rX3_standing_0 : tq_D cX3_standing 0 (.aload_n 0) 1 1 := ⟨by decide +kernel, rfl⟩
theorem rX3_standing_1 : tq_D cX3_standing 1 (.lload_n 1) 1 2 := ⟨by decide +kernel, rfl⟩
theorem rX3_standing_2 : tq_D cX3_standing 2 (.invokevirtual 93) 3 5 := ⟨by decide +kernel, rfl⟩
theorem rX3_standing_5 : tq_D cX3_standing 5 (.aload_n 0) 1 6 := ⟨by decide +kernel, rfl⟩
theorem rX3_standing_6 : tq_D cX3_standing 6 (.lload_n 1) 1 7 := ⟨by decide +kernel, rfl⟩
theorem rX3_standing_7 : tq_D cX3_standing 7 (.invokevirtual 96) 3 10 := ⟨by decide +kernel, rfl⟩
theorem rX3_standing_10 : tq_D cX3_standing 10 (.lor) 1 11 := ⟨by decide +kernel, rfl⟩
theorem rX3_standing_11 : decode cX3_standing 11 = .ok (.lreturn, 1) := by decide +kernel
noncomputable def FX3_standing (I : tq_PI) (L : tq_PL) (a0 : Nat) (a1 : Int64) : Int64 :=
  (tq_let (FX3_carried I L a0 a1) fun p1 => (tq_let (FX3_bridged I L a0 a1) fun p2 => (p1 ||| p2)))
set_option maxRecDepth 100000 in
set_option maxHeartbeats 4000000 in
theorem CX3_standing {S : Nat × (Nat → Int32)} {d : Nat} {I : tq_PI} {L : tq_PL} {a0 : Nat} {a1 : Int64} (h0 : tq_sh0 a0 = 3) {out : Int64} (hf : FX3_standing I L a0 a1 = out) : tq_K S mX3_standing (d + 1) [.ref a0, .long a1] I L (tq_one2 (some (.long out)) I L) := by
  unfold FX3_standing at hf
  refine tq_K_of (by decide) (Nat.le_of_ble_eq_true rfl) (ls := [.ref a0, .long a1, tq_u]) rfl ?_
  refine tq_aload_n rX3_standing_0 rfl ?_
  refine tq_lload_n rX3_standing_1 rfl ?_
  obtain ⟨p1, e1, hf⟩ := tq_let_elim hf
  refine ty_callVJ p1 ([.long a1]) ([]) rX3_standing_2 l_X3_93 moX3_carried mvX3_carried h0 rfl rfl (Nat.le_of_ble_eq_true rfl) ⟨rfl, rfl⟩ (CX3_carried h0 e1) ?_
  refine tq_aload_n rX3_standing_5 rfl ?_
  refine tq_lload_n rX3_standing_6 rfl ?_
  obtain ⟨p2, e2, hf⟩ := tq_let_elim hf
  refine ty_callVJ p2 ([.long a1]) ([.long p1]) rX3_standing_7 l_X3_96 moX3_bridged mvX3_bridged h0 rfl rfl (Nat.le_of_ble_eq_true rfl) ⟨rfl, rfl⟩ (CX3_bridged h0 e2) ?_
  refine tq_lor rX3_standing_10 ?_
  refine ty_lret rX3_standing_11 rfl rfl ?_
  subst hf
  exact ⟨rfl, rfl, rfl⟩

abbrev mX3_settled : tq_M := (yX3_settled, cX3_settled, 8, (Option.some Jvm.ClassFile.FieldType.long), 0, 0)
theorem moX3_standing : tq_mok mX3_standing 1 := ⟨tq_sg1 _ (List.mem_of_getElem? (i := 3) rfl), tq_sg3 _ (List.mem_of_getElem? (i := 122) rfl), ⟨by decide, by decide, by decide +kernel⟩, by decide⟩
theorem mvX3_standing : 3 < 13 ∧ (tq_cl 3).1 = mX3_standing.1.cls ∧ Cond.instanceMethod mX3_standing.1 ∈ lw_tbl ∧ Cond.selects mX3_standing.1.cls mX3_standing.1 mX3_standing.1 ∈ lw_tbl := ⟨by decide, rfl, tq_sg3 _ (List.mem_of_getElem? (i := 120) rfl), tq_sg3 _ (List.mem_of_getElem? (i := 121) rfl)⟩
theorem l_X3_99 : tq_lok RX3 99 mX3_standing.1 := Or.inl (tq_sg4 _ (List.mem_of_getElem? (i := 86) rfl))
theorem rX3_settled_0 : tq_D cX3_settled 0 (.lload_n 1) 1 1 := ⟨by decide +kernel, rfl⟩
theorem rX3_settled_1 : tq_D cX3_settled 1 (.lstore_n 3) 1 2 := ⟨by decide +kernel, rfl⟩
theorem rX3_settled_2 : tq_D cX3_settled 2 (.iconst 0) 1 3 := ⟨by decide +kernel, rfl⟩
theorem rX3_settled_3 : tq_D cX3_settled 3 (.istore 5) 2 5 := ⟨by decide +kernel, rfl⟩
theorem rX3_settled_5 : tq_D cX3_settled 5 (.iload 5) 2 7 := ⟨by decide +kernel, rfl⟩
theorem rX3_settled_7 : tq_D cX3_settled 7 (.bipush 48) 2 9 := ⟨by decide +kernel, rfl⟩
theorem rX3_settled_9 : tq_J cX3_settled 9 (.if_icmp .ge) 38 12 := ⟨29, by decide +kernel, by decide, rfl⟩
theorem rX3_settled_12 : tq_D cX3_settled 12 (.aload_n 0) 1 13 := ⟨by decide +kernel, rfl⟩
theorem rX3_settled_13 : tq_D cX3_settled 13 (.lload_n 3) 1 14 := ⟨by decide +kernel, rfl⟩
theorem rX3_settled_14 : tq_D cX3_settled 14 (.invokevirtual 99) 3 17 := ⟨by decide +kernel, rfl⟩
theorem rX3_settled_17 : tq_D cX3_settled 17 (.lstore 6) 2 19 := ⟨by decide +kernel, rfl⟩
theorem rX3_settled_19 : tq_D cX3_settled 19 (.lload 6) 2 21 := ⟨by decide +kernel, rfl⟩
theorem rX3_settled_21 : tq_D cX3_settled 21 (.lload_n 3) 1 22 := ⟨by decide +kernel, rfl⟩
theorem rX3_settled_22 : tq_D cX3_settled 22 (.lcmp) 1 23 := ⟨by decide +kernel, rfl⟩
theorem rX3_settled_23 : tq_J cX3_settled 23 (.ifCond .ne) 29 26 := ⟨6, by decide +kernel, by decide, rfl⟩
theorem rX3_settled_26 : tq_J cX3_settled 26 .goto 38 29 := ⟨12, by decide +kernel, by decide, rfl⟩
theorem rX3_settled_29 : tq_D cX3_settled 29 (.lload 6) 2 31 := ⟨by decide +kernel, rfl⟩
theorem rX3_settled_31 : tq_D cX3_settled 31 (.lstore_n 3) 1 32 := ⟨by decide +kernel, rfl⟩
theorem rX3_settled_32 : tq_D cX3_settled 32 (.iinc 5 1) 3 35 := ⟨by decide +kernel, rfl⟩
theorem rX3_settled_35 : tq_J cX3_settled 35 .goto 5 38 := ⟨(-30), by decide +kernel, by decide, rfl⟩
theorem rX3_settled_38 : tq_D cX3_settled 38 (.lload_n 3) 1 39 := ⟨by decide +kernel, rfl⟩
theorem rX3_settled_39 : decode cX3_settled 39 = .ok (.lreturn, 1) := by decide +kernel
noncomputable def FX3_settled_s5 (I : tq_PI) (L : tq_PL) (a0 : Nat) (a3 : Int64) (a5 : Int32) : Option ((Int64 × Int32) ⊕ (Int64)) :=
  (if (48 : Int32) ≤ a5 then some (.inr a3) else (tq_let (FX3_standing I L a0 a3) fun p2 => (if (lg_cmp p2 a3) = 0 then some (.inr a3) else some (.inl (p2, (a5 + 1))))))
noncomputable def FX3_settled (I : tq_PI) (L : tq_PL) (a0 : Nat) (a1 : Int64) : Option (Int64) :=
  ((tq_it (fun p : Int64 × Int32 => FX3_settled_s5 I L a0 p.1 p.2) tq_N (a1, (0 : Int32))).bind fun p4 => some p4)
set_option maxRecDepth 100000 in
set_option maxHeartbeats 4000000 in
theorem FX3_settled_s5_x {S : Nat × (Nat → Int32)} {d : Nat} {I : tq_PI} {L : tq_PL} {a0 : Nat} {a3 : Int64} {a5 : Int32} (h0 : tq_sh0 a0 = 3) {q0 : Option Value → tq_PI → tq_PL → Prop} {out : (Int64 × Int32) ⊕ (Int64)} (hf : FX3_settled_s5 I L a0 a3 a5 = some out) (hk : Sum.elim (fun p : Int64 × Int32 => tq_X S mX3_settled (d + 2) tq_k0 5 ([.ref a0, tq_u, tq_u, .long p.1, tq_u, .int p.2, tq_u, tq_u]) [] (tq_st I L) (tq_Q q0)) (fun p : Int64 => tq_X S mX3_settled (d + 2) tq_k0 38 ([tq_u, tq_u, tq_u, .long p, tq_u, tq_u, tq_u, tq_u]) [] (tq_st I L) (tq_Q q0)) out) : tq_X S mX3_settled (d + 2) tq_k0 5 ([.ref a0, tq_u, tq_u, .long a3, tq_u, .int a5, tq_u, tq_u]) [] (tq_st I L) (tq_Q q0) := by
  unfold FX3_settled_s5 at hf
  refine tq_iload rX3_settled_5 rfl ?_
  refine tq_bipush (48 : Int32) rX3_settled_7 (by decide) ?_
  refine tq_icmp_ge rX3_settled_9 (fun c1 => ?_) (fun c1 => ?_)
  · rw [if_pos c1] at hf
    have hf := Option.some.inj hf
    subst hf
    exact tq_forget _ (tq_le_u (tq_le_u (tq_le_u (tq_le_s (tq_le_u (tq_le_u (tq_le_u (tq_le_u tq_le_n)))))))) hk
  · rw [if_neg c1] at hf
    refine tq_aload_n rX3_settled_12 rfl ?_
    refine tq_lload_n rX3_settled_13 rfl ?_
    obtain ⟨p2, e2, hf⟩ := tq_let_elim hf
    refine ty_callVJ p2 ([.long a3]) ([]) rX3_settled_14 l_X3_99 moX3_standing mvX3_standing h0 rfl rfl (Nat.le_of_ble_eq_true rfl) ⟨rfl, rfl⟩ (CX3_standing h0 e2) ?_
    refine tq_lstore ([.ref a0, tq_u, tq_u, .long a3, tq_u, .int a5, .long p2, tq_u]) rX3_settled_17 (Nat.le_of_ble_eq_true rfl) rfl ?_
    refine tq_lload rX3_settled_19 rfl ?_
    refine tq_lload_n rX3_settled_21 rfl ?_
    refine tq_lcmp rX3_settled_22 ?_
    refine tq_if_ne rX3_settled_23 (fun c3 => ?_) (fun c3 => ?_)
    · rw [if_neg c3] at hf
      refine tq_lload rX3_settled_29 rfl ?_
      refine tq_lstore_n ([.ref a0, tq_u, tq_u, .long p2, tq_u, .int a5, .long p2, tq_u]) rX3_settled_31 (Nat.le_of_ble_eq_true rfl) rfl ?_
      refine tq_iinc (a5 + 1) ([.ref a0, tq_u, tq_u, .long p2, tq_u, .int (a5 + 1), .long p2, tq_u]) rX3_settled_32 rfl (tq_inc (by decide)) (Nat.le_of_ble_eq_true rfl) rfl ?_
      refine tq_goto rX3_settled_35 ?_
      have hf := Option.some.inj hf
      subst hf
      exact tq_forget _ (tq_le_s (tq_le_u (tq_le_u (tq_le_s (tq_le_u (tq_le_s (tq_le_u (tq_le_u tq_le_n)))))))) hk
    · rw [if_pos c3] at hf
      refine tq_goto rX3_settled_26 ?_
      have hf := Option.some.inj hf
      subst hf
      exact tq_forget _ (tq_le_u (tq_le_u (tq_le_u (tq_le_s (tq_le_u (tq_le_u (tq_le_u (tq_le_u tq_le_n)))))))) hk

set_option maxRecDepth 100000 in
set_option maxHeartbeats 4000000 in
theorem CX3_settled {S : Nat × (Nat → Int32)} {d : Nat} {I : tq_PI} {L : tq_PL} {a0 : Nat} {a1 : Int64} (h0 : tq_sh0 a0 = 3) {out : Int64} (hf : FX3_settled I L a0 a1 = some out) : tq_K S mX3_settled (d + 2) [.ref a0, .long a1] I L (tq_one2 (some (.long out)) I L) := by
  unfold FX3_settled at hf
  refine tq_K_of (by decide) (Nat.le_of_ble_eq_true rfl) (ls := [.ref a0, .long a1, tq_u, tq_u, tq_u, tq_u, tq_u, tq_u]) rfl ?_
  refine tq_lload_n rX3_settled_0 rfl ?_
  refine tq_lstore_n ([.ref a0, .long a1, tq_u, .long a1, tq_u, tq_u, tq_u, tq_u]) rX3_settled_1 (Nat.le_of_ble_eq_true rfl) rfl ?_
  refine tq_iconst (0 : Int32) rX3_settled_2 (by decide) ?_
  refine tq_istore ([.ref a0, .long a1, tq_u, .long a1, tq_u, .int (0 : Int32), tq_u, tq_u]) rX3_settled_3 (Nat.le_of_ble_eq_true rfl) rfl ?_
  obtain ⟨p4, e4, hf⟩ := Option.bind_eq_some_iff.mp hf
  refine tq_forget _ (tq_le_s (tq_le_u (tq_le_u (tq_le_s (tq_le_u (tq_le_s (tq_le_u (tq_le_u tq_le_n)))))))) ?_
  refine tq_it_elim (P := fun p : Int64 × Int32 => tq_X S mX3_settled (d + 2) tq_k0 5 ([.ref a0, tq_u, tq_u, .long p.1, tq_u, .int p.2, tq_u, tq_u]) [] (tq_st I L) (tq_Q (tq_one2 (some (.long out)) I L))) (R := fun p : Int64 => tq_X S mX3_settled (d + 2) tq_k0 38 ([tq_u, tq_u, tq_u, .long p, tq_u, tq_u, tq_u, tq_u]) [] (tq_st I L) (tq_Q (tq_one2 (some (.long out)) I L))) (fun p o hp hk => FX3_settled_s5_x  h0 hp hk) _ ((a1, (0 : Int32))) _ e4 ?_
  show tq_X _ _ _ _ _ _ _ _ _
  refine tq_lload_n rX3_settled_38 rfl ?_
  refine ty_lret rX3_settled_39 rfl rfl ?_
  have hf := Option.some.inj hf
  subst hf
  exact ⟨rfl, rfl, rfl⟩

abbrev mX3_lostWithout : tq_M := (yX3_lostWithout, cX3_lostWithout, 5, (Option.some Jvm.ClassFile.FieldType.int), 0, 0)
theorem moX3_settled : tq_mok mX3_settled 1 := ⟨tq_sg1 _ (List.mem_of_getElem? (i := 3) rfl), tq_sg4 _ (List.mem_of_getElem? (i := 85) rfl), ⟨by decide, by decide, by decide +kernel⟩, by decide⟩
theorem mvX3_settled : 3 < 13 ∧ (tq_cl 3).1 = mX3_settled.1.cls ∧ Cond.instanceMethod mX3_settled.1 ∈ lw_tbl ∧ Cond.selects mX3_settled.1.cls mX3_settled.1 mX3_settled.1 ∈ lw_tbl := ⟨by decide, rfl, tq_sg4 _ (List.mem_of_getElem? (i := 83) rfl), tq_sg4 _ (List.mem_of_getElem? (i := 84) rfl)⟩
theorem l_X3_102 : tq_lok RX3 102 mX3_settled.1 := Or.inl (tq_sg4 _ (List.mem_of_getElem? (i := 151) rfl))
theorem rX3_lostWithout_0 : tq_D cX3_lostWithout 0 (.aload_n 0) 1 1 := ⟨by decide +kernel, rfl⟩
theorem rX3_lostWithout_1 : tq_D cX3_lostWithout 1 (.invokevirtual 59) 3 4 := ⟨by decide +kernel, rfl⟩
theorem rX3_lostWithout_4 : tq_D cX3_lostWithout 4 (.lload_n 1) 1 5 := ⟨by decide +kernel, rfl⟩
theorem rX3_lostWithout_5 : tq_D cX3_lostWithout 5 (.ldc2_w 49) 3 8 := ⟨by decide +kernel, rfl⟩
theorem rX3_lostWithout_8 : tq_D cX3_lostWithout 8 (.lxor) 1 9 := ⟨by decide +kernel, rfl⟩
theorem rX3_lostWithout_9 : tq_D cX3_lostWithout 9 (.land) 1 10 := ⟨by decide +kernel, rfl⟩
theorem rX3_lostWithout_10 : tq_D cX3_lostWithout 10 (.lstore_n 3) 1 11 := ⟨by decide +kernel, rfl⟩
theorem rX3_lostWithout_11 : tq_D cX3_lostWithout 11 (.lload_n 3) 1 12 := ⟨by decide +kernel, rfl⟩
theorem rX3_lostWithout_12 : tq_D cX3_lostWithout 12 (.aload_n 0) 1 13 := ⟨by decide +kernel, rfl⟩
theorem rX3_lostWithout_13 : tq_D cX3_lostWithout 13 (.lload_n 3) 1 14 := ⟨by decide +kernel, rfl⟩
theorem rX3_lostWithout_14 : tq_D cX3_lostWithout 14 (.invokevirtual 102) 3 17 := ⟨by decide +kernel, rfl⟩
theorem rX3_lostWithout_17 : tq_D cX3_lostWithout 17 (.ldc2_w 49) 3 20 := ⟨by decide +kernel, rfl⟩
theorem rX3_lostWithout_20 : tq_D cX3_lostWithout 20 (.lxor) 1 21 := ⟨by decide +kernel, rfl⟩
theorem rX3_lostWithout_21 : tq_D cX3_lostWithout 21 (.land) 1 22 := ⟨by decide +kernel, rfl⟩
theorem rX3_lostWithout_22 : tq_D cX3_lostWithout 22 (.invokestatic 70) 3 25 := ⟨by decide +kernel, rfl⟩
theorem rX3_lostWithout_25 : decode cX3_lostWithout 25 = .ok (.ireturn, 1) := by decide +kernel
noncomputable def FX3_lostWithout (I : tq_PI) (L : tq_PL) (a0 : Nat) (a1 : Int64) : Option (Int32) :=
  (tq_let (FX3_solid I L a0) fun p1 => ((FX3_settled I L a0 ((p1 &&& (a1 ^^^ (-1 : Int64))))).bind fun p2 => (tq_let (FJ13_bitCount_95d88 I L (((p1 &&& (a1 ^^^ (-1 : Int64))) &&& (p2 ^^^ (-1 : Int64))))) fun p3 => some p3)))
set_option maxRecDepth 100000 in
set_option maxHeartbeats 4000000 in
theorem CX3_lostWithout {S : Nat × (Nat → Int32)} {d : Nat} {I : tq_PI} {L : tq_PL} {a0 : Nat} {a1 : Int64} (h0 : tq_sh0 a0 = 3) {out : Int32} (hf : FX3_lostWithout I L a0 a1 = some out) : tq_K S mX3_lostWithout (d + 3) [.ref a0, .long a1] I L (tq_one2 (some (.int out)) I L) := by
  unfold FX3_lostWithout at hf
  refine tq_K_of (by decide) (Nat.le_of_ble_eq_true rfl) (ls := [.ref a0, .long a1, tq_u, tq_u, tq_u]) rfl ?_
  refine tq_aload_n rX3_lostWithout_0 rfl ?_
  obtain ⟨p1, e1, hf⟩ := tq_let_elim hf
  refine ty_callVJ p1 ([]) ([]) rX3_lostWithout_1 l_X3_59 moX3_solid mvX3_solid h0 rfl rfl (Nat.le_of_ble_eq_true rfl) ⟨rfl, rfl⟩ (CX3_solid h0 e1) ?_
  refine tq_lload_n rX3_lostWithout_4 rfl ?_
  refine tq_ldc2 rX3_lostWithout_5 (k_X3_49) ?_
  refine tq_lxor rX3_lostWithout_8 ?_
  refine tq_land rX3_lostWithout_9 ?_
  refine tq_lstore_n ([.ref a0, .long a1, tq_u, .long (p1 &&& (a1 ^^^ (-1 : Int64))), tq_u]) rX3_lostWithout_10 (Nat.le_of_ble_eq_true rfl) rfl ?_
  refine tq_lload_n rX3_lostWithout_11 rfl ?_
  refine tq_aload_n rX3_lostWithout_12 rfl ?_
  refine tq_lload_n rX3_lostWithout_13 rfl ?_
  obtain ⟨p2, e2, hf⟩ := Option.bind_eq_some_iff.mp hf
  refine ty_callVJ p2 ([.long (p1 &&& (a1 ^^^ (-1 : Int64)))]) ([.long (p1 &&& (a1 ^^^ (-1 : Int64)))]) rX3_lostWithout_14 l_X3_102 moX3_settled mvX3_settled h0 rfl rfl (Nat.le_of_ble_eq_true rfl) ⟨rfl, rfl⟩ (CX3_settled h0 e2) ?_
  refine tq_ldc2 rX3_lostWithout_17 (k_X3_49) ?_
  refine tq_lxor rX3_lostWithout_20 ?_
  refine tq_land rX3_lostWithout_21 ?_
  obtain ⟨p3, e3, hf⟩ := tq_let_elim hf
  refine ty_callSI p3 ([.long ((p1 &&& (a1 ^^^ (-1 : Int64))) &&& (p2 ^^^ (-1 : Int64)))]) ([]) rX3_lostWithout_22 l_X3_70 moJ13_bitCount_95d88 msJ13_bitCount_95d88 rfl rfl (Nat.le_of_ble_eq_true rfl) ⟨rfl, rfl⟩ (CJ13_bitCount_95d88  e3) ?_
  refine ty_iret rX3_lostWithout_25 rfl rfl ?_
  have hf := Option.some.inj hf
  subst hf
  exact ⟨rfl, rfl, rfl⟩

abbrev mX3_weakest : tq_M := (yX3_weakest, cX3_weakest, 7, (Option.some Jvm.ClassFile.FieldType.long), 0, 0)
theorem moX3_lostWithout : tq_mok mX3_lostWithout 1 := ⟨tq_sg1 _ (List.mem_of_getElem? (i := 3) rfl), tq_sg4 _ (List.mem_of_getElem? (i := 150) rfl), ⟨by decide, by decide, by decide +kernel⟩, by decide⟩
theorem mvX3_lostWithout : 3 < 13 ∧ (tq_cl 3).1 = mX3_lostWithout.1.cls ∧ Cond.instanceMethod mX3_lostWithout.1 ∈ lw_tbl ∧ Cond.selects mX3_lostWithout.1.cls mX3_lostWithout.1 mX3_lostWithout.1 ∈ lw_tbl := ⟨by decide, rfl, tq_sg4 _ (List.mem_of_getElem? (i := 148) rfl), tq_sg4 _ (List.mem_of_getElem? (i := 149) rfl)⟩
theorem l_X3_105 : tq_lok RX3 105 mX3_lostWithout.1 := Or.inl (tq_sg4 _ (List.mem_of_getElem? (i := 147) rfl))
theorem rX3_weakest_0 : tq_D cX3_weakest 0 (.lconst 0) 1 1 := ⟨by decide +kernel, rfl⟩
theorem rX3_weakest_1 : tq_D cX3_weakest 1 (.lstore_n 1) 1 2 := ⟨by decide +kernel, rfl⟩
theorem rX3_weakest_2 : tq_D cX3_weakest 2 (.iconst (-1)) 1 3 := ⟨by decide +kernel, rfl⟩
theorem rX3_weakest_3 : tq_D cX3_weakest 3 (.istore_n 3) 1 4 := ⟨by decide +kernel, rfl⟩
theorem rX3_weakest_4 : tq_D cX3_weakest 4 (.iconst 0) 1 5 := ⟨by decide +kernel, rfl⟩
theorem rX3_weakest_5 : tq_D cX3_weakest 5 (.istore 4) 2 7 := ⟨by decide +kernel, rfl⟩
theorem rX3_weakest_7 : tq_D cX3_weakest 7 (.iload 4) 2 9 := ⟨by decide +kernel, rfl⟩
theorem rX3_weakest_9 : tq_D cX3_weakest 9 (.bipush 48) 2 11 := ⟨by decide +kernel, rfl⟩
theorem rX3_weakest_11 : tq_J cX3_weakest 11 (.if_icmp .ge) 58 14 := ⟨47, by decide +kernel, by decide, rfl⟩
theorem rX3_weakest_14 : tq_D cX3_weakest 14 (.aload_n 0) 1 15 := ⟨by decide +kernel, rfl⟩
theorem rX3_weakest_15 : tq_D cX3_weakest 15 (.invokevirtual 55) 3 18 := ⟨by decide +kernel, rfl⟩
theorem rX3_weakest_18 : tq_D cX3_weakest 18 (.lconst 1) 1 19 := ⟨by decide +kernel, rfl⟩
theorem rX3_weakest_19 : tq_D cX3_weakest 19 (.iload 4) 2 21 := ⟨by decide +kernel, rfl⟩
theorem rX3_weakest_21 : tq_D cX3_weakest 21 (.lshl) 1 22 := ⟨by decide +kernel, rfl⟩
theorem rX3_weakest_22 : tq_D cX3_weakest 22 (.land) 1 23 := ⟨by decide +kernel, rfl⟩
theorem rX3_weakest_23 : tq_D cX3_weakest 23 (.lstore 5) 2 25 := ⟨by decide +kernel, rfl⟩
theorem rX3_weakest_25 : tq_D cX3_weakest 25 (.lload 5) 2 27 := ⟨by decide +kernel, rfl⟩
theorem rX3_weakest_27 : tq_D cX3_weakest 27 (.lconst 0) 1 28 := ⟨by decide +kernel, rfl⟩
theorem rX3_weakest_28 : tq_D cX3_weakest 28 (.lcmp) 1 29 := ⟨by decide +kernel, rfl⟩
theorem rX3_weakest_29 : tq_J cX3_weakest 29 (.ifCond .eq) 52 32 := ⟨23, by decide +kernel, by decide, rfl⟩
theorem rX3_weakest_32 : tq_D cX3_weakest 32 (.aload_n 0) 1 33 := ⟨by decide +kernel, rfl⟩
theorem rX3_weakest_33 : tq_D cX3_weakest 33 (.lload 5) 2 35 := ⟨by decide +kernel, rfl⟩
theorem rX3_weakest_35 : tq_D cX3_weakest 35 (.invokevirtual 105) 3 38 := ⟨by decide +kernel, rfl⟩
theorem rX3_weakest_38 : tq_D cX3_weakest 38 (.iload_n 3) 1 39 := ⟨by decide +kernel, rfl⟩
theorem rX3_weakest_39 : tq_J cX3_weakest 39 (.if_icmp .le) 52 42 := ⟨13, by decide +kernel, by decide, rfl⟩
theorem rX3_weakest_42 : tq_D cX3_weakest 42 (.aload_n 0) 1 43 := ⟨by decide +kernel, rfl⟩
theorem rX3_weakest_43 : tq_D cX3_weakest 43 (.lload 5) 2 45 := ⟨by decide +kernel, rfl⟩
theorem rX3_weakest_45 : tq_D cX3_weakest 45 (.invokevirtual 105) 3 48 := ⟨by decide +kernel, rfl⟩
theorem rX3_weakest_48 : tq_D cX3_weakest 48 (.istore_n 3) 1 49 := ⟨by decide +kernel, rfl⟩
theorem rX3_weakest_49 : tq_D cX3_weakest 49 (.lload 5) 2 51 := ⟨by decide +kernel, rfl⟩
theorem rX3_weakest_51 : tq_D cX3_weakest 51 (.lstore_n 1) 1 52 := ⟨by decide +kernel, rfl⟩
theorem rX3_weakest_52 : tq_D cX3_weakest 52 (.iinc 4 1) 3 55 := ⟨by decide +kernel, rfl⟩
theorem rX3_weakest_55 : tq_J cX3_weakest 55 .goto 7 58 := ⟨(-48), by decide +kernel, by decide, rfl⟩
theorem rX3_weakest_58 : tq_D cX3_weakest 58 (.lload_n 1) 1 59 := ⟨by decide +kernel, rfl⟩
theorem rX3_weakest_59 : decode cX3_weakest 59 = .ok (.lreturn, 1) := by decide +kernel
noncomputable def FX3_weakest_j52L7 (I : tq_PI) (L : tq_PL) (a0 : Nat) (a1 : Int64) (a3 : Int32) (a4 : Int32) : Option ((Int64 × Int32 × Int32) ⊕ (Int64)) :=
  some (.inl (a1, a3, (a4 + 1)))
noncomputable def FX3_weakest_s7 (I : tq_PI) (L : tq_PL) (a0 : Nat) (a1 : Int64) (a3 : Int32) (a4 : Int32) : Option ((Int64 × Int32 × Int32) ⊕ (Int64)) :=
  (if (48 : Int32) ≤ a4 then some (.inr a1) else (tq_let (FX3_stones I L a0) fun p2 => (if (lg_cmp (p2 &&& ((1 : Int64) <<< (Int32.toInt64 a4 &&& 63))) (0 : Int64)) = 0 then (FX3_weakest_j52L7 I L a0 a1 a3 a4) else ((FX3_lostWithout I L a0 ((p2 &&& ((1 : Int64) <<< (Int32.toInt64 a4 &&& 63))))).bind fun p4 => (if p4 ≤ a3 then (FX3_weakest_j52L7 I L a0 a1 a3 a4) else ((FX3_lostWithout I L a0 ((p2 &&& ((1 : Int64) <<< (Int32.toInt64 a4 &&& 63))))).bind fun p6 => (FX3_weakest_j52L7 I L a0 ((p2 &&& ((1 : Int64) <<< (Int32.toInt64 a4 &&& 63)))) p6 a4)))))))
noncomputable def FX3_weakest (I : tq_PI) (L : tq_PL) (a0 : Nat) : Option (Int64) :=
  ((tq_it (fun p : Int64 × Int32 × Int32 => FX3_weakest_s7 I L a0 p.1 p.2.1 p.2.2) tq_N ((0 : Int64), (-1 : Int32), (0 : Int32))).bind fun p7 => some p7)
set_option maxRecDepth 100000 in
set_option maxHeartbeats 4000000 in
theorem FX3_weakest_j52L7_x {S : Nat × (Nat → Int32)} {d : Nat} {I : tq_PI} {L : tq_PL} {a0 : Nat} {a1 : Int64} {a3 : Int32} {a4 : Int32} (h0 : tq_sh0 a0 = 3) {q0 : Option Value → tq_PI → tq_PL → Prop} {out : (Int64 × Int32 × Int32) ⊕ (Int64)} (hf : FX3_weakest_j52L7 I L a0 a1 a3 a4 = some out) (hk : Sum.elim (fun p : Int64 × Int32 × Int32 => tq_X S mX3_weakest (d + 4) tq_k0 7 ([.ref a0, .long p.1, tq_u, .int p.2.1, .int p.2.2, tq_u, tq_u]) [] (tq_st I L) (tq_Q q0)) (fun p : Int64 => tq_X S mX3_weakest (d + 4) tq_k0 58 ([tq_u, .long p, tq_u, tq_u, tq_u, tq_u, tq_u]) [] (tq_st I L) (tq_Q q0)) out) : tq_X S mX3_weakest (d + 4) tq_k0 52 ([.ref a0, .long a1, tq_u, .int a3, .int a4, tq_u, tq_u]) ([]) (tq_st I L) (tq_Q q0) := by
  unfold FX3_weakest_j52L7 at hf
  refine tq_iinc (a4 + 1) ([.ref a0, .long a1, tq_u, .int a3, .int (a4 + 1), tq_u, tq_u]) rX3_weakest_52 rfl (tq_inc (by decide)) (Nat.le_of_ble_eq_true rfl) rfl ?_
  refine tq_goto rX3_weakest_55 ?_
  have hf := Option.some.inj hf
  subst hf
  exact tq_forget _ (tq_le_s (tq_le_s (tq_le_u (tq_le_s (tq_le_s (tq_le_u (tq_le_u tq_le_n))))))) hk

set_option maxRecDepth 100000 in
set_option maxHeartbeats 4000000 in
theorem FX3_weakest_s7_x {S : Nat × (Nat → Int32)} {d : Nat} {I : tq_PI} {L : tq_PL} {a0 : Nat} {a1 : Int64} {a3 : Int32} {a4 : Int32} (h0 : tq_sh0 a0 = 3) {q0 : Option Value → tq_PI → tq_PL → Prop} {out : (Int64 × Int32 × Int32) ⊕ (Int64)} (hf : FX3_weakest_s7 I L a0 a1 a3 a4 = some out) (hk : Sum.elim (fun p : Int64 × Int32 × Int32 => tq_X S mX3_weakest (d + 4) tq_k0 7 ([.ref a0, .long p.1, tq_u, .int p.2.1, .int p.2.2, tq_u, tq_u]) [] (tq_st I L) (tq_Q q0)) (fun p : Int64 => tq_X S mX3_weakest (d + 4) tq_k0 58 ([tq_u, .long p, tq_u, tq_u, tq_u, tq_u, tq_u]) [] (tq_st I L) (tq_Q q0)) out) : tq_X S mX3_weakest (d + 4) tq_k0 7 ([.ref a0, .long a1, tq_u, .int a3, .int a4, tq_u, tq_u]) [] (tq_st I L) (tq_Q q0) := by
  unfold FX3_weakest_s7 at hf
  refine tq_iload rX3_weakest_7 rfl ?_
  refine tq_bipush (48 : Int32) rX3_weakest_9 (by decide) ?_
  refine tq_icmp_ge rX3_weakest_11 (fun c1 => ?_) (fun c1 => ?_)
  · rw [if_pos c1] at hf
    have hf := Option.some.inj hf
    subst hf
    exact tq_forget _ (tq_le_u (tq_le_s (tq_le_u (tq_le_u (tq_le_u (tq_le_u (tq_le_u tq_le_n))))))) hk
  · rw [if_neg c1] at hf
    refine tq_aload_n rX3_weakest_14 rfl ?_
    obtain ⟨p2, e2, hf⟩ := tq_let_elim hf
    refine ty_callVJ p2 ([]) ([]) rX3_weakest_15 l_X3_55 moX3_stones mvX3_stones h0 rfl rfl (Nat.le_of_ble_eq_true rfl) ⟨rfl, rfl⟩ (CX3_stones h0 e2) ?_
    refine tq_lconst (1 : Int64) rX3_weakest_18 (by decide) ?_
    refine tq_iload rX3_weakest_19 rfl ?_
    refine tq_lshl rX3_weakest_21 ?_
    refine tq_land rX3_weakest_22 ?_
    refine tq_lstore ([.ref a0, .long a1, tq_u, .int a3, .int a4, .long (p2 &&& ((1 : Int64) <<< (Int32.toInt64 a4 &&& 63))), tq_u]) rX3_weakest_23 (Nat.le_of_ble_eq_true rfl) rfl ?_
    refine tq_lload rX3_weakest_25 rfl ?_
    refine tq_lconst (0 : Int64) rX3_weakest_27 (by decide) ?_
    refine tq_lcmp rX3_weakest_28 ?_
    refine tq_if_eq rX3_weakest_29 (fun c3 => ?_) (fun c3 => ?_)
    · rw [if_pos c3] at hf
      exact tq_forget _ (tq_le_s (tq_le_s (tq_le_u (tq_le_s (tq_le_s (tq_le_u (tq_le_u tq_le_n))))))) (FX3_weakest_j52L7_x  h0 hf hk)
    · rw [if_neg c3] at hf
      refine tq_aload_n rX3_weakest_32 rfl ?_
      refine tq_lload rX3_weakest_33 rfl ?_
      obtain ⟨p4, e4, hf⟩ := Option.bind_eq_some_iff.mp hf
      refine ty_callVI p4 ([.long (p2 &&& ((1 : Int64) <<< (Int32.toInt64 a4 &&& 63)))]) ([]) rX3_weakest_35 l_X3_105 moX3_lostWithout mvX3_lostWithout h0 rfl rfl (Nat.le_of_ble_eq_true rfl) ⟨rfl, rfl⟩ (CX3_lostWithout h0 e4) ?_
      refine tq_iload_n rX3_weakest_38 rfl ?_
      refine tq_icmp_le rX3_weakest_39 (fun c5 => ?_) (fun c5 => ?_)
      · rw [if_pos c5] at hf
        exact tq_forget _ (tq_le_s (tq_le_s (tq_le_u (tq_le_s (tq_le_s (tq_le_u (tq_le_u tq_le_n))))))) (FX3_weakest_j52L7_x  h0 hf hk)
      · rw [if_neg c5] at hf
        refine tq_aload_n rX3_weakest_42 rfl ?_
        refine tq_lload rX3_weakest_43 rfl ?_
        obtain ⟨p6, e6, hf⟩ := Option.bind_eq_some_iff.mp hf
        refine ty_callVI p6 ([.long (p2 &&& ((1 : Int64) <<< (Int32.toInt64 a4 &&& 63)))]) ([]) rX3_weakest_45 l_X3_105 moX3_lostWithout mvX3_lostWithout h0 rfl rfl (Nat.le_of_ble_eq_true rfl) ⟨rfl, rfl⟩ (CX3_lostWithout h0 e6) ?_
        refine tq_istore_n ([.ref a0, .long a1, tq_u, .int p6, .int a4, .long (p2 &&& ((1 : Int64) <<< (Int32.toInt64 a4 &&& 63))), tq_u]) rX3_weakest_48 (Nat.le_of_ble_eq_true rfl) rfl ?_
        refine tq_lload rX3_weakest_49 rfl ?_
        refine tq_lstore_n ([.ref a0, .long (p2 &&& ((1 : Int64) <<< (Int32.toInt64 a4 &&& 63))), tq_u, .int p6, .int a4, .long (p2 &&& ((1 : Int64) <<< (Int32.toInt64 a4 &&& 63))), tq_u]) rX3_weakest_51 (Nat.le_of_ble_eq_true rfl) rfl ?_
        exact tq_forget _ (tq_le_s (tq_le_s (tq_le_u (tq_le_s (tq_le_s (tq_le_u (tq_le_u tq_le_n))))))) (FX3_weakest_j52L7_x  h0 hf hk)

set_option maxRecDepth 100000 in
set_option maxHeartbeats 4000000 in
theorem CX3_weakest {S : Nat × (Nat → Int32)} {d : Nat} {I : tq_PI} {L : tq_PL} {a0 : Nat} (h0 : tq_sh0 a0 = 3) {out : Int64} (hf : FX3_weakest I L a0 = some out) : tq_K S mX3_weakest (d + 4) [.ref a0] I L (tq_one2 (some (.long out)) I L) := by
  unfold FX3_weakest at hf
  refine tq_K_of (by decide) (Nat.le_of_ble_eq_true rfl) (ls := [.ref a0, tq_u, tq_u, tq_u, tq_u, tq_u, tq_u]) rfl ?_
  refine tq_lconst (0 : Int64) rX3_weakest_0 (by decide) ?_
  refine tq_lstore_n ([.ref a0, .long (0 : Int64), tq_u, tq_u, tq_u, tq_u, tq_u]) rX3_weakest_1 (Nat.le_of_ble_eq_true rfl) rfl ?_
  refine tq_iconst (-1 : Int32) rX3_weakest_2 (by decide) ?_
  refine tq_istore_n ([.ref a0, .long (0 : Int64), tq_u, .int (-1 : Int32), tq_u, tq_u, tq_u]) rX3_weakest_3 (Nat.le_of_ble_eq_true rfl) rfl ?_
  refine tq_iconst (0 : Int32) rX3_weakest_4 (by decide) ?_
  refine tq_istore ([.ref a0, .long (0 : Int64), tq_u, .int (-1 : Int32), .int (0 : Int32), tq_u, tq_u]) rX3_weakest_5 (Nat.le_of_ble_eq_true rfl) rfl ?_
  obtain ⟨p7, e7, hf⟩ := Option.bind_eq_some_iff.mp hf
  refine tq_forget _ (tq_le_s (tq_le_s (tq_le_u (tq_le_s (tq_le_s (tq_le_u (tq_le_u tq_le_n))))))) ?_
  refine tq_it_elim (P := fun p : Int64 × Int32 × Int32 => tq_X S mX3_weakest (d + 4) tq_k0 7 ([.ref a0, .long p.1, tq_u, .int p.2.1, .int p.2.2, tq_u, tq_u]) [] (tq_st I L) (tq_Q (tq_one2 (some (.long out)) I L))) (R := fun p : Int64 => tq_X S mX3_weakest (d + 4) tq_k0 58 ([tq_u, .long p, tq_u, tq_u, tq_u, tq_u, tq_u]) [] (tq_st I L) (tq_Q (tq_one2 (some (.long out)) I L))) (fun p o hp hk => FX3_weakest_s7_x  h0 hp hk) _ (((0 : Int64), (-1 : Int32), (0 : Int32))) _ e7 ?_
  show tq_X _ _ _ _ _ _ _ _ _
  refine tq_lload_n rX3_weakest_58 rfl ?_
  refine ty_lret rX3_weakest_59 rfl rfl ?_
  have hf := Option.some.inj hf
  subst hf
  exact ⟨rfl, rfl, rfl⟩

abbrev mX3_bearing : tq_M := (yX3_bearing, cX3_bearing, 6, (Option.some Jvm.ClassFile.FieldType.int), 0, 0)
theorem rX3_bearing_0 : tq_D cX3_bearing 0 (.iconst 0) 1 1 := ⟨by decide +kernel, rfl⟩
theorem rX3_bearing_1 : tq_D cX3_bearing 1 (.istore_n 2) 1 2 := ⟨by decide +kernel, rfl⟩
theorem rX3_bearing_2 : tq_D cX3_bearing 2 (.iconst 0) 1 3 := ⟨by decide +kernel, rfl⟩
theorem rX3_bearing_3 : tq_D cX3_bearing 3 (.istore_n 3) 1 4 := ⟨by decide +kernel, rfl⟩
theorem rX3_bearing_4 : tq_D cX3_bearing 4 (.iload_n 3) 1 5 := ⟨by decide +kernel, rfl⟩
theorem rX3_bearing_5 : tq_D cX3_bearing 5 (.bipush 48) 2 7 := ⟨by decide +kernel, rfl⟩
theorem rX3_bearing_7 : tq_J cX3_bearing 7 (.if_icmp .ge) 46 10 := ⟨39, by decide +kernel, by decide, rfl⟩
theorem rX3_bearing_10 : tq_D cX3_bearing 10 (.aload_n 0) 1 11 := ⟨by decide +kernel, rfl⟩
theorem rX3_bearing_11 : tq_D cX3_bearing 11 (.invokevirtual 55) 3 14 := ⟨by decide +kernel, rfl⟩
theorem rX3_bearing_14 : tq_D cX3_bearing 14 (.lconst 1) 1 15 := ⟨by decide +kernel, rfl⟩
theorem rX3_bearing_15 : tq_D cX3_bearing 15 (.iload_n 3) 1 16 := ⟨by decide +kernel, rfl⟩
theorem rX3_bearing_16 : tq_D cX3_bearing 16 (.lshl) 1 17 := ⟨by decide +kernel, rfl⟩
theorem rX3_bearing_17 : tq_D cX3_bearing 17 (.land) 1 18 := ⟨by decide +kernel, rfl⟩
theorem rX3_bearing_18 : tq_D cX3_bearing 18 (.lstore 4) 2 20 := ⟨by decide +kernel, rfl⟩
theorem rX3_bearing_20 : tq_D cX3_bearing 20 (.lload 4) 2 22 := ⟨by decide +kernel, rfl⟩
theorem rX3_bearing_22 : tq_D cX3_bearing 22 (.lconst 0) 1 23 := ⟨by decide +kernel, rfl⟩
theorem rX3_bearing_23 : tq_D cX3_bearing 23 (.lcmp) 1 24 := ⟨by decide +kernel, rfl⟩
theorem rX3_bearing_24 : tq_J cX3_bearing 24 (.ifCond .eq) 40 27 := ⟨16, by decide +kernel, by decide, rfl⟩
theorem rX3_bearing_27 : tq_D cX3_bearing 27 (.aload_n 0) 1 28 := ⟨by decide +kernel, rfl⟩
theorem rX3_bearing_28 : tq_D cX3_bearing 28 (.lload 4) 2 30 := ⟨by decide +kernel, rfl⟩
theorem rX3_bearing_30 : tq_D cX3_bearing 30 (.invokevirtual 105) 3 33 := ⟨by decide +kernel, rfl⟩
theorem rX3_bearing_33 : tq_D cX3_bearing 33 (.iload_n 1) 1 34 := ⟨by decide +kernel, rfl⟩
theorem rX3_bearing_34 : tq_J cX3_bearing 34 (.if_icmp .lt) 40 37 := ⟨6, by decide +kernel, by decide, rfl⟩
theorem rX3_bearing_37 : tq_D cX3_bearing 37 (.iinc 2 1) 3 40 := ⟨by decide +kernel, rfl⟩
theorem rX3_bearing_40 : tq_D cX3_bearing 40 (.iinc 3 1) 3 43 := ⟨by decide +kernel, rfl⟩
theorem rX3_bearing_43 : tq_J cX3_bearing 43 .goto 4 46 := ⟨(-39), by decide +kernel, by decide, rfl⟩
theorem rX3_bearing_46 : tq_D cX3_bearing 46 (.iload_n 2) 1 47 := ⟨by decide +kernel, rfl⟩
theorem rX3_bearing_47 : decode cX3_bearing 47 = .ok (.ireturn, 1) := by decide +kernel
noncomputable def FX3_bearing_j40L4 (I : tq_PI) (L : tq_PL) (a0 : Nat) (a1 : Int32) (a2 : Int32) (a3 : Int32) : Option ((Int32 × Int32) ⊕ (Int32)) :=
  some (.inl (a2, (a3 + 1)))
noncomputable def FX3_bearing_s4 (I : tq_PI) (L : tq_PL) (a0 : Nat) (a1 : Int32) (a2 : Int32) (a3 : Int32) : Option ((Int32 × Int32) ⊕ (Int32)) :=
  (if (48 : Int32) ≤ a3 then some (.inr a2) else (tq_let (FX3_stones I L a0) fun p2 => (if (lg_cmp (p2 &&& ((1 : Int64) <<< (Int32.toInt64 a3 &&& 63))) (0 : Int64)) = 0 then (FX3_bearing_j40L4 I L a0 a1 a2 a3) else ((FX3_lostWithout I L a0 ((p2 &&& ((1 : Int64) <<< (Int32.toInt64 a3 &&& 63))))).bind fun p4 => (if p4 < a1 then (FX3_bearing_j40L4 I L a0 a1 a2 a3) else (FX3_bearing_j40L4 I L a0 a1 ((a2 + 1)) a3))))))
noncomputable def FX3_bearing (I : tq_PI) (L : tq_PL) (a0 : Nat) (a1 : Int32) : Option (Int32) :=
  ((tq_it (fun p : Int32 × Int32 => FX3_bearing_s4 I L a0 a1 p.1 p.2) tq_N ((0 : Int32), (0 : Int32))).bind fun p6 => some p6)
set_option maxRecDepth 100000 in
set_option maxHeartbeats 4000000 in
theorem FX3_bearing_j40L4_x {S : Nat × (Nat → Int32)} {d : Nat} {I : tq_PI} {L : tq_PL} {a0 : Nat} {a1 : Int32} {a2 : Int32} {a3 : Int32} (h0 : tq_sh0 a0 = 3) {q0 : Option Value → tq_PI → tq_PL → Prop} {out : (Int32 × Int32) ⊕ (Int32)} (hf : FX3_bearing_j40L4 I L a0 a1 a2 a3 = some out) (hk : Sum.elim (fun p : Int32 × Int32 => tq_X S mX3_bearing (d + 4) tq_k0 4 ([.ref a0, .int a1, .int p.1, .int p.2, tq_u, tq_u]) [] (tq_st I L) (tq_Q q0)) (fun p : Int32 => tq_X S mX3_bearing (d + 4) tq_k0 46 ([tq_u, tq_u, .int p, tq_u, tq_u, tq_u]) [] (tq_st I L) (tq_Q q0)) out) : tq_X S mX3_bearing (d + 4) tq_k0 40 ([.ref a0, .int a1, .int a2, .int a3, tq_u, tq_u]) ([]) (tq_st I L) (tq_Q q0) := by
  unfold FX3_bearing_j40L4 at hf
  refine tq_iinc (a3 + 1) ([.ref a0, .int a1, .int a2, .int (a3 + 1), tq_u, tq_u]) rX3_bearing_40 rfl (tq_inc (by decide)) (Nat.le_of_ble_eq_true rfl) rfl ?_
  refine tq_goto rX3_bearing_43 ?_
  have hf := Option.some.inj hf
  subst hf
  exact tq_forget _ (tq_le_s (tq_le_s (tq_le_s (tq_le_s (tq_le_u (tq_le_u tq_le_n)))))) hk

set_option maxRecDepth 100000 in
set_option maxHeartbeats 4000000 in
theorem FX3_bearing_s4_x {S : Nat × (Nat → Int32)} {d : Nat} {I : tq_PI} {L : tq_PL} {a0 : Nat} {a1 : Int32} {a2 : Int32} {a3 : Int32} (h0 : tq_sh0 a0 = 3) {q0 : Option Value → tq_PI → tq_PL → Prop} {out : (Int32 × Int32) ⊕ (Int32)} (hf : FX3_bearing_s4 I L a0 a1 a2 a3 = some out) (hk : Sum.elim (fun p : Int32 × Int32 => tq_X S mX3_bearing (d + 4) tq_k0 4 ([.ref a0, .int a1, .int p.1, .int p.2, tq_u, tq_u]) [] (tq_st I L) (tq_Q q0)) (fun p : Int32 => tq_X S mX3_bearing (d + 4) tq_k0 46 ([tq_u, tq_u, .int p, tq_u, tq_u, tq_u]) [] (tq_st I L) (tq_Q q0)) out) : tq_X S mX3_bearing (d + 4) tq_k0 4 ([.ref a0, .int a1, .int a2, .int a3, tq_u, tq_u]) [] (tq_st I L) (tq_Q q0) := by
  unfold FX3_bearing_s4 at hf
  refine tq_iload_n rX3_bearing_4 rfl ?_
  refine tq_bipush (48 : Int32) rX3_bearing_5 (by decide) ?_
  refine tq_icmp_ge rX3_bearing_7 (fun c1 => ?_) (fun c1 => ?_)
  · rw [if_pos c1] at hf
    have hf := Option.some.inj hf
    subst hf
    exact tq_forget _ (tq_le_u (tq_le_u (tq_le_s (tq_le_u (tq_le_u (tq_le_u tq_le_n)))))) hk
  · rw [if_neg c1] at hf
    refine tq_aload_n rX3_bearing_10 rfl ?_
    obtain ⟨p2, e2, hf⟩ := tq_let_elim hf
    refine ty_callVJ p2 ([]) ([]) rX3_bearing_11 l_X3_55 moX3_stones mvX3_stones h0 rfl rfl (Nat.le_of_ble_eq_true rfl) ⟨rfl, rfl⟩ (CX3_stones h0 e2) ?_
    refine tq_lconst (1 : Int64) rX3_bearing_14 (by decide) ?_
    refine tq_iload_n rX3_bearing_15 rfl ?_
    refine tq_lshl rX3_bearing_16 ?_
    refine tq_land rX3_bearing_17 ?_
    refine tq_lstore ([.ref a0, .int a1, .int a2, .int a3, .long (p2 &&& ((1 : Int64) <<< (Int32.toInt64 a3 &&& 63))), tq_u]) rX3_bearing_18 (Nat.le_of_ble_eq_true rfl) rfl ?_
    refine tq_lload rX3_bearing_20 rfl ?_
    refine tq_lconst (0 : Int64) rX3_bearing_22 (by decide) ?_
    refine tq_lcmp rX3_bearing_23 ?_
    refine tq_if_eq rX3_bearing_24 (fun c3 => ?_) (fun c3 => ?_)
    · rw [if_pos c3] at hf
      exact tq_forget _ (tq_le_s (tq_le_s (tq_le_s (tq_le_s (tq_le_u (tq_le_u tq_le_n)))))) (FX3_bearing_j40L4_x  h0 hf hk)
    · rw [if_neg c3] at hf
      refine tq_aload_n rX3_bearing_27 rfl ?_
      refine tq_lload rX3_bearing_28 rfl ?_
      obtain ⟨p4, e4, hf⟩ := Option.bind_eq_some_iff.mp hf
      refine ty_callVI p4 ([.long (p2 &&& ((1 : Int64) <<< (Int32.toInt64 a3 &&& 63)))]) ([]) rX3_bearing_30 l_X3_105 moX3_lostWithout mvX3_lostWithout h0 rfl rfl (Nat.le_of_ble_eq_true rfl) ⟨rfl, rfl⟩ (CX3_lostWithout h0 e4) ?_
      refine tq_iload_n rX3_bearing_33 rfl ?_
      refine tq_icmp_lt rX3_bearing_34 (fun c5 => ?_) (fun c5 => ?_)
      · rw [if_pos c5] at hf
        exact tq_forget _ (tq_le_s (tq_le_s (tq_le_s (tq_le_s (tq_le_u (tq_le_u tq_le_n)))))) (FX3_bearing_j40L4_x  h0 hf hk)
      · rw [if_neg c5] at hf
        refine tq_iinc (a2 + 1) ([.ref a0, .int a1, .int (a2 + 1), .int a3, .long (p2 &&& ((1 : Int64) <<< (Int32.toInt64 a3 &&& 63))), tq_u]) rX3_bearing_37 rfl (tq_inc (by decide)) (Nat.le_of_ble_eq_true rfl) rfl ?_
        exact tq_forget _ (tq_le_s (tq_le_s (tq_le_s (tq_le_s (tq_le_u (tq_le_u tq_le_n)))))) (FX3_bearing_j40L4_x  h0 hf hk)

set_option maxRecDepth 100000 in
set_option maxHeartbeats 4000000 in
theorem CX3_bearing {S : Nat × (Nat → Int32)} {d : Nat} {I : tq_PI} {L : tq_PL} {a0 : Nat} {a1 : Int32} (h0 : tq_sh0 a0 = 3) {out : Int32} (hf : FX3_bearing I L a0 a1 = some out) : tq_K S mX3_bearing (d + 4) [.ref a0, .int a1] I L (tq_one2 (some (.int out)) I L) := by
  unfold FX3_bearing at hf
  refine tq_K_of (by decide) (Nat.le_of_ble_eq_true rfl) (ls := [.ref a0, .int a1, tq_u, tq_u, tq_u, tq_u]) rfl ?_
  refine tq_iconst (0 : Int32) rX3_bearing_0 (by decide) ?_
  refine tq_istore_n ([.ref a0, .int a1, .int (0 : Int32), tq_u, tq_u, tq_u]) rX3_bearing_1 (Nat.le_of_ble_eq_true rfl) rfl ?_
  refine tq_iconst (0 : Int32) rX3_bearing_2 (by decide) ?_
  refine tq_istore_n ([.ref a0, .int a1, .int (0 : Int32), .int (0 : Int32), tq_u, tq_u]) rX3_bearing_3 (Nat.le_of_ble_eq_true rfl) rfl ?_
  obtain ⟨p6, e6, hf⟩ := Option.bind_eq_some_iff.mp hf
  refine tq_forget _ (tq_le_s (tq_le_s (tq_le_s (tq_le_s (tq_le_u (tq_le_u tq_le_n)))))) ?_
  refine tq_it_elim (P := fun p : Int32 × Int32 => tq_X S mX3_bearing (d + 4) tq_k0 4 ([.ref a0, .int a1, .int p.1, .int p.2, tq_u, tq_u]) [] (tq_st I L) (tq_Q (tq_one2 (some (.int out)) I L))) (R := fun p : Int32 => tq_X S mX3_bearing (d + 4) tq_k0 46 ([tq_u, tq_u, .int p, tq_u, tq_u, tq_u]) [] (tq_st I L) (tq_Q (tq_one2 (some (.int out)) I L))) (fun p o hp hk => FX3_bearing_s4_x  h0 hp hk) _ (((0 : Int32), (0 : Int32))) _ e6 ?_
  show tq_X _ _ _ _ _ _ _ _ _
  refine tq_iload_n rX3_bearing_46 rfl ?_
  refine ty_iret rX3_bearing_47 rfl rfl ?_
  have hf := Option.some.inj hf
  subst hf
  exact ⟨rfl, rfl, rfl⟩

abbrev mX3_edge : tq_M := (yX3_edge, cX3_edge, 2, (Option.some Jvm.ClassFile.FieldType.long), 0, 0)
theorem rX3_edge_0 : tq_D cX3_edge 0 (.iload_n 1) 1 1 := ⟨by decide +kernel, rfl⟩
theorem rX3_edge_1 : tq_J cX3_edge 1 (.ifCond .ne) 11 4 := ⟨10, by decide +kernel, by decide, rfl⟩
theorem rX3_edge_4 : tq_D cX3_edge 4 (.aload_n 0) 1 5 := ⟨by decide +kernel, rfl⟩
theorem rX3_edge_5 : tq_D cX3_edge 5 (.getfield 22) 3 8 := ⟨by decide +kernel, rfl⟩
theorem rX3_edge_8 : tq_J cX3_edge 8 .goto 15 11 := ⟨7, by decide +kernel, by decide, rfl⟩
theorem rX3_edge_11 : tq_D cX3_edge 11 (.aload_n 0) 1 12 := ⟨by decide +kernel, rfl⟩
theorem rX3_edge_12 : tq_D cX3_edge 12 (.getfield 25) 3 15 := ⟨by decide +kernel, rfl⟩
theorem rX3_edge_15 : decode cX3_edge 15 = .ok (.lreturn, 1) := by decide +kernel
noncomputable def FX3_edge (I : tq_PI) (L : tq_PL) (a0 : Nat) (a1 : Int32) : Int64 :=
  (if a1 = 0 then (L a0 3) else (L a0 4))
set_option maxRecDepth 100000 in
set_option maxHeartbeats 4000000 in
theorem CX3_edge {S : Nat × (Nat → Int32)} {d : Nat} {I : tq_PI} {L : tq_PL} {a0 : Nat} {a1 : Int32} (h0 : tq_sh0 a0 = 3) {out : Int64} (hf : FX3_edge I L a0 a1 = out) : tq_K S mX3_edge d [.ref a0, .int a1] I L (tq_one2 (some (.long out)) I L) := by
  unfold FX3_edge at hf
  refine tq_K_of (by decide) (Nat.le_of_ble_eq_true rfl) (ls := [.ref a0, .int a1]) rfl ?_
  refine tq_iload_n rX3_edge_0 rfl ?_
  refine tq_if_ne rX3_edge_1 (fun c1 => ?_) (fun c1 => ?_)
  · rw [if_neg c1] at hf
    refine tq_aload_n rX3_edge_11 rfl ?_
    refine ty_getL rX3_edge_12 f_X3_25 rfl h0 ?_
    refine ty_lret rX3_edge_15 rfl rfl ?_
    subst hf
    exact ⟨rfl, rfl, rfl⟩
  · rw [if_pos c1] at hf
    refine tq_aload_n rX3_edge_4 rfl ?_
    refine ty_getL rX3_edge_5 f_X3_22 rfl h0 ?_
    refine tq_goto rX3_edge_8 ?_
    refine ty_lret rX3_edge_15 rfl rfl ?_
    subst hf
    exact ⟨rfl, rfl, rfl⟩

abbrev mX11_flood : tq_M := (yX11_flood, cX11_flood, 11, (Option.some Jvm.ClassFile.FieldType.long), 0, 0)
theorem rX11_flood_0 : tq_D cX11_flood 0 (.lload_n 0) 1 1 := ⟨by decide +kernel, rfl⟩
theorem rX11_flood_1 : tq_D cX11_flood 1 (.lstore 4) 2 3 := ⟨by decide +kernel, rfl⟩
theorem rX11_flood_3 : tq_D cX11_flood 3 (.iconst 0) 1 4 := ⟨by decide +kernel, rfl⟩
theorem rX11_flood_4 : tq_D cX11_flood 4 (.istore 6) 2 6 := ⟨by decide +kernel, rfl⟩
theorem rX11_flood_6 : tq_D cX11_flood 6 (.iload 6) 2 8 := ⟨by decide +kernel, rfl⟩
theorem rX11_flood_8 : tq_D cX11_flood 8 (.bipush 48) 2 10 := ⟨by decide +kernel, rfl⟩
theorem rX11_flood_10 : tq_J cX11_flood 10 (.if_icmp .ge) 74 13 := ⟨64, by decide +kernel, by decide, rfl⟩
theorem rX11_flood_13 : tq_D cX11_flood 13 (.lload 4) 2 15 := ⟨by decide +kernel, rfl⟩
theorem rX11_flood_15 : tq_D cX11_flood 15 (.iconst 1) 1 16 := ⟨by decide +kernel, rfl⟩
theorem rX11_flood_16 : tq_D cX11_flood 16 (.lushr) 1 17 := ⟨by decide +kernel, rfl⟩
theorem rX11_flood_17 : tq_D cX11_flood 17 (.ldc2_w 411) 3 20 := ⟨by decide +kernel, rfl⟩
theorem rX11_flood_20 : tq_D cX11_flood 20 (.land) 1 21 := ⟨by decide +kernel, rfl⟩
theorem rX11_flood_21 : tq_D cX11_flood 21 (.lload 4) 2 23 := ⟨by decide +kernel, rfl⟩
theorem rX11_flood_23 : tq_D cX11_flood 23 (.iconst 1) 1 24 := ⟨by decide +kernel, rfl⟩
theorem rX11_flood_24 : tq_D cX11_flood 24 (.lshl) 1 25 := ⟨by decide +kernel, rfl⟩
theorem rX11_flood_25 : tq_D cX11_flood 25 (.ldc2_w 413) 3 28 := ⟨by decide +kernel, rfl⟩
theorem rX11_flood_28 : tq_D cX11_flood 28 (.land) 1 29 := ⟨by decide +kernel, rfl⟩
theorem rX11_flood_29 : tq_D cX11_flood 29 (.lor) 1 30 := ⟨by decide +kernel, rfl⟩
theorem rX11_flood_30 : tq_D cX11_flood 30 (.lstore 7) 2 32 := ⟨by decide +kernel, rfl⟩
theorem rX11_flood_32 : tq_D cX11_flood 32 (.lload 4) 2 34 := ⟨by decide +kernel, rfl⟩
theorem rX11_flood_34 : tq_D cX11_flood 34 (.lload 7) 2 36 := ⟨by decide +kernel, rfl⟩
theorem rX11_flood_36 : tq_D cX11_flood 36 (.lload 4) 2 38 := ⟨by decide +kernel, rfl⟩
theorem rX11_flood_38 : tq_D cX11_flood 38 (.bipush 8) 2 40 := ⟨by decide +kernel, rfl⟩
theorem rX11_flood_40 : tq_D cX11_flood 40 (.lshl) 1 41 := ⟨by decide +kernel, rfl⟩
theorem rX11_flood_41 : tq_D cX11_flood 41 (.lor) 1 42 := ⟨by decide +kernel, rfl⟩
theorem rX11_flood_42 : tq_D cX11_flood 42 (.lload 4) 2 44 := ⟨by decide +kernel, rfl⟩
theorem rX11_flood_44 : tq_D cX11_flood 44 (.bipush 8) 2 46 := ⟨by decide +kernel, rfl⟩
theorem rX11_flood_46 : tq_D cX11_flood 46 (.lushr) 1 47 := ⟨by decide +kernel, rfl⟩
theorem rX11_flood_47 : tq_D cX11_flood 47 (.lor) 1 48 := ⟨by decide +kernel, rfl⟩
theorem rX11_flood_48 : tq_D cX11_flood 48 (.lload_n 2) 1 49 := ⟨by decide +kernel, rfl⟩
theorem rX11_flood_49 : tq_D cX11_flood 49 (.land) 1 50 := ⟨by decide +kernel, rfl⟩
theorem rX11_flood_50 : tq_D cX11_flood 50 (.lor) 1 51 := ⟨by decide +kernel, rfl⟩
theorem rX11_flood_51 : tq_D cX11_flood 51 (.lstore 9) 2 53 := ⟨by decide +kernel, rfl⟩
theorem rX11_flood_53 : tq_D cX11_flood 53 (.lload 9) 2 55 := ⟨by decide +kernel, rfl⟩
theorem rX11_flood_55 : tq_D cX11_flood 55 (.lload 4) 2 57 := ⟨by decide +kernel, rfl⟩
theorem rX11_flood_57 : tq_D cX11_flood 57 (.lcmp) 1 58 := ⟨by decide +kernel, rfl⟩
theorem rX11_flood_58 : tq_J cX11_flood 58 (.ifCond .ne) 64 61 := ⟨6, by decide +kernel, by decide, rfl⟩
theorem rX11_flood_61 : tq_J cX11_flood 61 .goto 74 64 := ⟨13, by decide +kernel, by decide, rfl⟩
theorem rX11_flood_64 : tq_D cX11_flood 64 (.lload 9) 2 66 := ⟨by decide +kernel, rfl⟩
theorem rX11_flood_66 : tq_D cX11_flood 66 (.lstore 4) 2 68 := ⟨by decide +kernel, rfl⟩
theorem rX11_flood_68 : tq_D cX11_flood 68 (.iinc 6 1) 3 71 := ⟨by decide +kernel, rfl⟩
theorem rX11_flood_71 : tq_J cX11_flood 71 .goto 6 74 := ⟨(-65), by decide +kernel, by decide, rfl⟩
theorem rX11_flood_74 : tq_D cX11_flood 74 (.lload 4) 2 76 := ⟨by decide +kernel, rfl⟩
theorem rX11_flood_76 : decode cX11_flood 76 = .ok (.lreturn, 1) := by decide +kernel
noncomputable def FX11_flood_s6 (I : tq_PI) (L : tq_PL) (a2 : Int64) (a4 : Int64) (a6 : Int32) : Option ((Int64 × Int32) ⊕ (Int64)) :=
  (if (48 : Int32) ≤ a6 then some (.inr a4) else (if (lg_cmp (a4 ||| (((((((Int64.toUInt64 a4 >>> ((Int32.toInt64 (1 : Int32)).toUInt64 &&& Int64.toUInt64 63)).toInt64) &&& (-141289400074369 : Int64)) ||| ((a4 <<< (Int32.toInt64 (1 : Int32) &&& 63)) &&& (-1103823438082 : Int64))) ||| (a4 <<< (Int32.toInt64 (8 : Int32) &&& 63))) ||| ((Int64.toUInt64 a4 >>> ((Int32.toInt64 (8 : Int32)).toUInt64 &&& Int64.toUInt64 63)).toInt64)) &&& a2)) a4) = 0 then some (.inr a4) else some (.inl ((a4 ||| (((((((Int64.toUInt64 a4 >>> ((Int32.toInt64 (1 : Int32)).toUInt64 &&& Int64.toUInt64 63)).toInt64) &&& (-141289400074369 : Int64)) ||| ((a4 <<< (Int32.toInt64 (1 : Int32) &&& 63)) &&& (-1103823438082 : Int64))) ||| (a4 <<< (Int32.toInt64 (8 : Int32) &&& 63))) ||| ((Int64.toUInt64 a4 >>> ((Int32.toInt64 (8 : Int32)).toUInt64 &&& Int64.toUInt64 63)).toInt64)) &&& a2)), (a6 + 1)))))
noncomputable def FX11_flood (I : tq_PI) (L : tq_PL) (a0 : Int64) (a2 : Int64) : Option (Int64) :=
  ((tq_it (fun p : Int64 × Int32 => FX11_flood_s6 I L a2 p.1 p.2) tq_N (a0, (0 : Int32))).bind fun p3 => some p3)
set_option maxRecDepth 100000 in
set_option maxHeartbeats 4000000 in
theorem FX11_flood_s6_x {S : Nat × (Nat → Int32)} {d : Nat} {I : tq_PI} {L : tq_PL} {a2 : Int64} {a4 : Int64} {a6 : Int32}  {q0 : Option Value → tq_PI → tq_PL → Prop} {out : (Int64 × Int32) ⊕ (Int64)} (hf : FX11_flood_s6 I L a2 a4 a6 = some out) (hk : Sum.elim (fun p : Int64 × Int32 => tq_X S mX11_flood d tq_k0 6 ([tq_u, tq_u, .long a2, tq_u, .long p.1, tq_u, .int p.2, tq_u, tq_u, tq_u, tq_u]) [] (tq_st I L) (tq_Q q0)) (fun p : Int64 => tq_X S mX11_flood d tq_k0 74 ([tq_u, tq_u, tq_u, tq_u, .long p, tq_u, tq_u, tq_u, tq_u, tq_u, tq_u]) [] (tq_st I L) (tq_Q q0)) out) : tq_X S mX11_flood d tq_k0 6 ([tq_u, tq_u, .long a2, tq_u, .long a4, tq_u, .int a6, tq_u, tq_u, tq_u, tq_u]) [] (tq_st I L) (tq_Q q0) := by
  unfold FX11_flood_s6 at hf
  refine tq_iload rX11_flood_6 rfl ?_
  refine tq_bipush (48 : Int32) rX11_flood_8 (by decide) ?_
  refine tq_icmp_ge rX11_flood_10 (fun c1 => ?_) (fun c1 => ?_)
  · rw [if_pos c1] at hf
    have hf := Option.some.inj hf
    subst hf
    exact tq_forget _ (tq_le_u (tq_le_u (tq_le_u (tq_le_u (tq_le_s (tq_le_u (tq_le_u (tq_le_u (tq_le_u (tq_le_u (tq_le_u tq_le_n))))))))))) hk
  · rw [if_neg c1] at hf
    refine tq_lload rX11_flood_13 rfl ?_
    refine tq_iconst (1 : Int32) rX11_flood_15 (by decide) ?_
    refine tq_lushr rX11_flood_16 ?_
    refine tq_ldc2 rX11_flood_17 (k_X11_411) ?_
    refine tq_land rX11_flood_20 ?_
    refine tq_lload rX11_flood_21 rfl ?_
    refine tq_iconst (1 : Int32) rX11_flood_23 (by decide) ?_
    refine tq_lshl rX11_flood_24 ?_
    refine tq_ldc2 rX11_flood_25 (k_X11_413) ?_
    refine tq_land rX11_flood_28 ?_
    refine tq_lor rX11_flood_29 ?_
    refine tq_lstore ([tq_u, tq_u, .long a2, tq_u, .long a4, tq_u, .int a6, .long ((((Int64.toUInt64 a4 >>> ((Int32.toInt64 (1 : Int32)).toUInt64 &&& Int64.toUInt64 63)).toInt64) &&& (-141289400074369 : Int64)) ||| ((a4 <<< (Int32.toInt64 (1 : Int32) &&& 63)) &&& (-1103823438082 : Int64))), tq_u, tq_u, tq_u]) rX11_flood_30 (Nat.le_of_ble_eq_true rfl) rfl ?_
    refine tq_lload rX11_flood_32 rfl ?_
    refine tq_lload rX11_flood_34 rfl ?_
    refine tq_lload rX11_flood_36 rfl ?_
    refine tq_bipush (8 : Int32) rX11_flood_38 (by decide) ?_
    refine tq_lshl rX11_flood_40 ?_
    refine tq_lor rX11_flood_41 ?_
    refine tq_lload rX11_flood_42 rfl ?_
    refine tq_bipush (8 : Int32) rX11_flood_44 (by decide) ?_
    refine tq_lushr rX11_flood_46 ?_
    refine tq_lor rX11_flood_47 ?_
    refine tq_lload_n rX11_flood_48 rfl ?_
    refine tq_land rX11_flood_49 ?_
    refine tq_lor rX11_flood_50 ?_
    refine tq_lstore ([tq_u, tq_u, .long a2, tq_u, .long a4, tq_u, .int a6, .long ((((Int64.toUInt64 a4 >>> ((Int32.toInt64 (1 : Int32)).toUInt64 &&& Int64.toUInt64 63)).toInt64) &&& (-141289400074369 : Int64)) ||| ((a4 <<< (Int32.toInt64 (1 : Int32) &&& 63)) &&& (-1103823438082 : Int64))), tq_u, .long (a4 ||| (((((((Int64.toUInt64 a4 >>> ((Int32.toInt64 (1 : Int32)).toUInt64 &&& Int64.toUInt64 63)).toInt64) &&& (-141289400074369 : Int64)) ||| ((a4 <<< (Int32.toInt64 (1 : Int32) &&& 63)) &&& (-1103823438082 : Int64))) ||| (a4 <<< (Int32.toInt64 (8 : Int32) &&& 63))) ||| ((Int64.toUInt64 a4 >>> ((Int32.toInt64 (8 : Int32)).toUInt64 &&& Int64.toUInt64 63)).toInt64)) &&& a2)), tq_u]) rX11_flood_51 (Nat.le_of_ble_eq_true rfl) rfl ?_
    refine tq_lload rX11_flood_53 rfl ?_
    refine tq_lload rX11_flood_55 rfl ?_
    refine tq_lcmp rX11_flood_57 ?_
    refine tq_if_ne rX11_flood_58 (fun c2 => ?_) (fun c2 => ?_)
    · rw [if_neg c2] at hf
      refine tq_lload rX11_flood_64 rfl ?_
      refine tq_lstore ([tq_u, tq_u, .long a2, tq_u, .long (a4 ||| (((((((Int64.toUInt64 a4 >>> ((Int32.toInt64 (1 : Int32)).toUInt64 &&& Int64.toUInt64 63)).toInt64) &&& (-141289400074369 : Int64)) ||| ((a4 <<< (Int32.toInt64 (1 : Int32) &&& 63)) &&& (-1103823438082 : Int64))) ||| (a4 <<< (Int32.toInt64 (8 : Int32) &&& 63))) ||| ((Int64.toUInt64 a4 >>> ((Int32.toInt64 (8 : Int32)).toUInt64 &&& Int64.toUInt64 63)).toInt64)) &&& a2)), tq_u, .int a6, .long ((((Int64.toUInt64 a4 >>> ((Int32.toInt64 (1 : Int32)).toUInt64 &&& Int64.toUInt64 63)).toInt64) &&& (-141289400074369 : Int64)) ||| ((a4 <<< (Int32.toInt64 (1 : Int32) &&& 63)) &&& (-1103823438082 : Int64))), tq_u, .long (a4 ||| (((((((Int64.toUInt64 a4 >>> ((Int32.toInt64 (1 : Int32)).toUInt64 &&& Int64.toUInt64 63)).toInt64) &&& (-141289400074369 : Int64)) ||| ((a4 <<< (Int32.toInt64 (1 : Int32) &&& 63)) &&& (-1103823438082 : Int64))) ||| (a4 <<< (Int32.toInt64 (8 : Int32) &&& 63))) ||| ((Int64.toUInt64 a4 >>> ((Int32.toInt64 (8 : Int32)).toUInt64 &&& Int64.toUInt64 63)).toInt64)) &&& a2)), tq_u]) rX11_flood_66 (Nat.le_of_ble_eq_true rfl) rfl ?_
      refine tq_iinc (a6 + 1) ([tq_u, tq_u, .long a2, tq_u, .long (a4 ||| (((((((Int64.toUInt64 a4 >>> ((Int32.toInt64 (1 : Int32)).toUInt64 &&& Int64.toUInt64 63)).toInt64) &&& (-141289400074369 : Int64)) ||| ((a4 <<< (Int32.toInt64 (1 : Int32) &&& 63)) &&& (-1103823438082 : Int64))) ||| (a4 <<< (Int32.toInt64 (8 : Int32) &&& 63))) ||| ((Int64.toUInt64 a4 >>> ((Int32.toInt64 (8 : Int32)).toUInt64 &&& Int64.toUInt64 63)).toInt64)) &&& a2)), tq_u, .int (a6 + 1), .long ((((Int64.toUInt64 a4 >>> ((Int32.toInt64 (1 : Int32)).toUInt64 &&& Int64.toUInt64 63)).toInt64) &&& (-141289400074369 : Int64)) ||| ((a4 <<< (Int32.toInt64 (1 : Int32) &&& 63)) &&& (-1103823438082 : Int64))), tq_u, .long (a4 ||| (((((((Int64.toUInt64 a4 >>> ((Int32.toInt64 (1 : Int32)).toUInt64 &&& Int64.toUInt64 63)).toInt64) &&& (-141289400074369 : Int64)) ||| ((a4 <<< (Int32.toInt64 (1 : Int32) &&& 63)) &&& (-1103823438082 : Int64))) ||| (a4 <<< (Int32.toInt64 (8 : Int32) &&& 63))) ||| ((Int64.toUInt64 a4 >>> ((Int32.toInt64 (8 : Int32)).toUInt64 &&& Int64.toUInt64 63)).toInt64)) &&& a2)), tq_u]) rX11_flood_68 rfl (tq_inc (by decide)) (Nat.le_of_ble_eq_true rfl) rfl ?_
      refine tq_goto rX11_flood_71 ?_
      have hf := Option.some.inj hf
      subst hf
      exact tq_forget _ (tq_le_u (tq_le_u (tq_le_s (tq_le_u (tq_le_s (tq_le_u (tq_le_s (tq_le_u (tq_le_u (tq_le_u (tq_le_u tq_le_n))))))))))) hk
    · rw [if_pos c2] at hf
      refine tq_goto rX11_flood_61 ?_
      have hf := Option.some.inj hf
      subst hf
      exact tq_forget _ (tq_le_u (tq_le_u (tq_le_u (tq_le_u (tq_le_s (tq_le_u (tq_le_u (tq_le_u (tq_le_u (tq_le_u (tq_le_u tq_le_n))))))))))) hk

set_option maxRecDepth 100000 in
set_option maxHeartbeats 4000000 in
theorem CX11_flood {S : Nat × (Nat → Int32)} {d : Nat} {I : tq_PI} {L : tq_PL} {a0 : Int64} {a2 : Int64}  {out : Int64} (hf : FX11_flood I L a0 a2 = some out) : tq_K S mX11_flood d [.long a0, .long a2] I L (tq_one2 (some (.long out)) I L) := by
  unfold FX11_flood at hf
  refine tq_K_of (by decide) (Nat.le_of_ble_eq_true rfl) (ls := [.long a0, tq_u, .long a2, tq_u, tq_u, tq_u, tq_u, tq_u, tq_u, tq_u, tq_u]) rfl ?_
  refine tq_lload_n rX11_flood_0 rfl ?_
  refine tq_lstore ([.long a0, tq_u, .long a2, tq_u, .long a0, tq_u, tq_u, tq_u, tq_u, tq_u, tq_u]) rX11_flood_1 (Nat.le_of_ble_eq_true rfl) rfl ?_
  refine tq_iconst (0 : Int32) rX11_flood_3 (by decide) ?_
  refine tq_istore ([.long a0, tq_u, .long a2, tq_u, .long a0, tq_u, .int (0 : Int32), tq_u, tq_u, tq_u, tq_u]) rX11_flood_4 (Nat.le_of_ble_eq_true rfl) rfl ?_
  obtain ⟨p3, e3, hf⟩ := Option.bind_eq_some_iff.mp hf
  refine tq_forget _ (tq_le_u (tq_le_u (tq_le_s (tq_le_u (tq_le_s (tq_le_u (tq_le_s (tq_le_u (tq_le_u (tq_le_u (tq_le_u tq_le_n))))))))))) ?_
  refine tq_it_elim (P := fun p : Int64 × Int32 => tq_X S mX11_flood d tq_k0 6 ([tq_u, tq_u, .long a2, tq_u, .long p.1, tq_u, .int p.2, tq_u, tq_u, tq_u, tq_u]) [] (tq_st I L) (tq_Q (tq_one2 (some (.long out)) I L))) (R := fun p : Int64 => tq_X S mX11_flood d tq_k0 74 ([tq_u, tq_u, tq_u, tq_u, .long p, tq_u, tq_u, tq_u, tq_u, tq_u, tq_u]) [] (tq_st I L) (tq_Q (tq_one2 (some (.long out)) I L))) (fun p o hp hk => FX11_flood_s6_x   hp hk) _ ((a0, (0 : Int32))) _ e3 ?_
  show tq_X _ _ _ _ _ _ _ _ _
  refine tq_lload rX11_flood_74 rfl ?_
  refine ty_lret rX11_flood_76 rfl rfl ?_
  have hf := Option.some.inj hf
  subst hf
  exact ⟨rfl, rfl, rfl⟩

abbrev mX3_reached : tq_M := (yX3_reached, cX3_reached, 6, (Option.some Jvm.ClassFile.FieldType.long), 0, 0)
theorem moX3_edge : tq_mok mX3_edge 1 := ⟨tq_sg1 _ (List.mem_of_getElem? (i := 3) rfl), tq_sg4 _ (List.mem_of_getElem? (i := 37) rfl), ⟨by decide, by decide, by decide +kernel⟩, by decide⟩
theorem mvX3_edge : 3 < 13 ∧ (tq_cl 3).1 = mX3_edge.1.cls ∧ Cond.instanceMethod mX3_edge.1 ∈ lw_tbl ∧ Cond.selects mX3_edge.1.cls mX3_edge.1 mX3_edge.1 ∈ lw_tbl := ⟨by decide, rfl, tq_sg4 _ (List.mem_of_getElem? (i := 35) rfl), tq_sg4 _ (List.mem_of_getElem? (i := 36) rfl)⟩
theorem moX11_flood : tq_mok mX11_flood 2 := ⟨tq_sg1 _ (List.mem_of_getElem? (i := 1) rfl), tq_sg4 _ (List.mem_of_getElem? (i := 40) rfl), ⟨by decide, by decide, by decide +kernel⟩, by decide⟩
theorem msX11_flood : Cond.static mX11_flood.1 ∈ lw_tbl := tq_sg4 _ (List.mem_of_getElem? (i := 39) rfl)
theorem l_X3_108 : tq_lok RX3 108 mX3_edge.1 := Or.inl (tq_sg4 _ (List.mem_of_getElem? (i := 34) rfl))
theorem l_X3_111 : tq_lok RX3 111 mX11_flood.1 := Or.inr ⟨_, tq_sg4 _ (List.mem_of_getElem? (i := 38) rfl)⟩
theorem rX3_reached_0 : tq_D cX3_reached 0 (.aload_n 0) 1 1 := ⟨by decide +kernel, rfl⟩
theorem rX3_reached_1 : tq_D cX3_reached 1 (.getfield 18) 3 4 := ⟨by decide +kernel, rfl⟩
theorem rX3_reached_4 : tq_D cX3_reached 4 (.lload_n 2) 1 5 := ⟨by decide +kernel, rfl⟩
theorem rX3_reached_5 : tq_D cX3_reached 5 (.ldc2_w 49) 3 8 := ⟨by decide +kernel, rfl⟩
theorem rX3_reached_8 : tq_D cX3_reached 8 (.lxor) 1 9 := ⟨by decide +kernel, rfl⟩
theorem rX3_reached_9 : tq_D cX3_reached 9 (.land) 1 10 := ⟨by decide +kernel, rfl⟩
theorem rX3_reached_10 : tq_D cX3_reached 10 (.lstore 4) 2 12 := ⟨by decide +kernel, rfl⟩
theorem rX3_reached_12 : tq_D cX3_reached 12 (.aload_n 0) 1 13 := ⟨by decide +kernel, rfl⟩
theorem rX3_reached_13 : tq_D cX3_reached 13 (.iload_n 1) 1 14 := ⟨by decide +kernel, rfl⟩
theorem rX3_reached_14 : tq_D cX3_reached 14 (.invokevirtual 108) 3 17 := ⟨by decide +kernel, rfl⟩
theorem rX3_reached_17 : tq_D cX3_reached 17 (.lload 4) 2 19 := ⟨by decide +kernel, rfl⟩
theorem rX3_reached_19 : tq_D cX3_reached 19 (.land) 1 20 := ⟨by decide +kernel, rfl⟩
theorem rX3_reached_20 : tq_D cX3_reached 20 (.lload 4) 2 22 := ⟨by decide +kernel, rfl⟩
theorem rX3_reached_22 : tq_D cX3_reached 22 (.invokestatic 111) 3 25 := ⟨by decide +kernel, rfl⟩
theorem rX3_reached_25 : decode cX3_reached 25 = .ok (.lreturn, 1) := by decide +kernel
noncomputable def FX3_reached (I : tq_PI) (L : tq_PL) (a0 : Nat) (a1 : Int32) (a2 : Int64) : Option (Int64) :=
  (tq_let (FX3_edge I L a0 a1) fun p1 => ((FX11_flood I L ((p1 &&& ((L a0 2) &&& (a2 ^^^ (-1 : Int64))))) (((L a0 2) &&& (a2 ^^^ (-1 : Int64))))).bind fun p2 => some p2))
set_option maxRecDepth 100000 in
set_option maxHeartbeats 4000000 in
theorem CX3_reached {S : Nat × (Nat → Int32)} {d : Nat} {I : tq_PI} {L : tq_PL} {a0 : Nat} {a1 : Int32} {a2 : Int64} (h0 : tq_sh0 a0 = 3) {out : Int64} (hf : FX3_reached I L a0 a1 a2 = some out) : tq_K S mX3_reached (d + 1) [.ref a0, .int a1, .long a2] I L (tq_one2 (some (.long out)) I L) := by
  unfold FX3_reached at hf
  refine tq_K_of (by decide) (Nat.le_of_ble_eq_true rfl) (ls := [.ref a0, .int a1, .long a2, tq_u, tq_u, tq_u]) rfl ?_
  refine tq_aload_n rX3_reached_0 rfl ?_
  refine ty_getL rX3_reached_1 f_X3_18 rfl h0 ?_
  refine tq_lload_n rX3_reached_4 rfl ?_
  refine tq_ldc2 rX3_reached_5 (k_X3_49) ?_
  refine tq_lxor rX3_reached_8 ?_
  refine tq_land rX3_reached_9 ?_
  refine tq_lstore ([.ref a0, .int a1, .long a2, tq_u, .long ((L a0 2) &&& (a2 ^^^ (-1 : Int64))), tq_u]) rX3_reached_10 (Nat.le_of_ble_eq_true rfl) rfl ?_
  refine tq_aload_n rX3_reached_12 rfl ?_
  refine tq_iload_n rX3_reached_13 rfl ?_
  obtain ⟨p1, e1, hf⟩ := tq_let_elim hf
  refine ty_callVJ p1 ([.int a1]) ([]) rX3_reached_14 l_X3_108 moX3_edge mvX3_edge h0 rfl rfl (Nat.le_of_ble_eq_true rfl) ⟨rfl, rfl⟩ (CX3_edge h0 e1) ?_
  refine tq_lload rX3_reached_17 rfl ?_
  refine tq_land rX3_reached_19 ?_
  refine tq_lload rX3_reached_20 rfl ?_
  obtain ⟨p2, e2, hf⟩ := Option.bind_eq_some_iff.mp hf
  refine ty_callSJ p2 ([.long (p1 &&& ((L a0 2) &&& (a2 ^^^ (-1 : Int64)))), .long ((L a0 2) &&& (a2 ^^^ (-1 : Int64)))]) ([]) rX3_reached_22 l_X3_111 moX11_flood msX11_flood rfl rfl (Nat.le_of_ble_eq_true rfl) ⟨rfl, rfl⟩ (CX11_flood  e2) ?_
  refine ty_lret rX3_reached_25 rfl rfl ?_
  have hf := Option.some.inj hf
  subst hf
  exact ⟨rfl, rfl, rfl⟩

abbrev mX3_cuttable : tq_M := (yX3_cuttable, cX3_cuttable, 4, (Option.some Jvm.ClassFile.FieldType.long), 0, 0)
theorem moX3_reached : tq_mok mX3_reached 2 := ⟨tq_sg1 _ (List.mem_of_getElem? (i := 3) rfl), tq_sg4 _ (List.mem_of_getElem? (i := 33) rfl), ⟨by decide, by decide, by decide +kernel⟩, by decide⟩
theorem mvX3_reached : 3 < 13 ∧ (tq_cl 3).1 = mX3_reached.1.cls ∧ Cond.instanceMethod mX3_reached.1 ∈ lw_tbl ∧ Cond.selects mX3_reached.1.cls mX3_reached.1 mX3_reached.1 ∈ lw_tbl := ⟨by decide, rfl, tq_sg4 _ (List.mem_of_getElem? (i := 32) rfl), List.mem_append_left _ (List.mem_map.mpr ⟨_, List.mem_of_getElem? (i := 22) rfl, rfl⟩)⟩
theorem l_X3_115 : tq_lok RX3 115 mX3_reached.1 := Or.inl (tq_sg4 _ (List.mem_of_getElem? (i := 30) rfl))
theorem l_X3_119 : tq_lok RX3 119 mX11_nextTo.1 := Or.inr ⟨_, tq_sg4 _ (List.mem_of_getElem? (i := 47) rfl)⟩
theorem rX3_cuttable_0 : tq_D cX3_cuttable 0 (.aload_n 0) 1 1 := ⟨by decide +kernel, rfl⟩
theorem rX3_cuttable_1 : tq_D cX3_cuttable 1 (.invokevirtual 55) 3 4 := ⟨by decide +kernel, rfl⟩
theorem rX3_cuttable_4 : tq_D cX3_cuttable 4 (.lload_n 2) 1 5 := ⟨by decide +kernel, rfl⟩
theorem rX3_cuttable_5 : tq_D cX3_cuttable 5 (.land) 1 6 := ⟨by decide +kernel, rfl⟩
theorem rX3_cuttable_6 : tq_D cX3_cuttable 6 (.aload_n 0) 1 7 := ⟨by decide +kernel, rfl⟩
theorem rX3_cuttable_7 : tq_D cX3_cuttable 7 (.iload_n 1) 1 8 := ⟨by decide +kernel, rfl⟩
theorem rX3_cuttable_8 : tq_D cX3_cuttable 8 (.invokevirtual 108) 3 11 := ⟨by decide +kernel, rfl⟩
theorem rX3_cuttable_11 : tq_D cX3_cuttable 11 (.aload_n 0) 1 12 := ⟨by decide +kernel, rfl⟩
theorem rX3_cuttable_12 : tq_D cX3_cuttable 12 (.iload_n 1) 1 13 := ⟨by decide +kernel, rfl⟩
theorem rX3_cuttable_13 : tq_D cX3_cuttable 13 (.lload_n 2) 1 14 := ⟨by decide +kernel, rfl⟩
theorem rX3_cuttable_14 : tq_D cX3_cuttable 14 (.invokevirtual 115) 3 17 := ⟨by decide +kernel, rfl⟩
theorem rX3_cuttable_17 : tq_D cX3_cuttable 17 (.invokestatic 119) 3 20 := ⟨by decide +kernel, rfl⟩
theorem rX3_cuttable_20 : tq_D cX3_cuttable 20 (.lor) 1 21 := ⟨by decide +kernel, rfl⟩
theorem rX3_cuttable_21 : tq_D cX3_cuttable 21 (.land) 1 22 := ⟨by decide +kernel, rfl⟩
theorem rX3_cuttable_22 : decode cX3_cuttable 22 = .ok (.lreturn, 1) := by decide +kernel
noncomputable def FX3_cuttable (I : tq_PI) (L : tq_PL) (a0 : Nat) (a1 : Int32) (a2 : Int64) : Option (Int64) :=
  (tq_let (FX3_stones I L a0) fun p1 => (tq_let (FX3_edge I L a0 a1) fun p2 => ((FX3_reached I L a0 a1 a2).bind fun p3 => (tq_let (FX11_nextTo I L p3) fun p4 => some ((p1 &&& a2) &&& (p2 ||| p4))))))
set_option maxRecDepth 100000 in
set_option maxHeartbeats 4000000 in
theorem CX3_cuttable {S : Nat × (Nat → Int32)} {d : Nat} {I : tq_PI} {L : tq_PL} {a0 : Nat} {a1 : Int32} {a2 : Int64} (h0 : tq_sh0 a0 = 3) {out : Int64} (hf : FX3_cuttable I L a0 a1 a2 = some out) : tq_K S mX3_cuttable (d + 2) [.ref a0, .int a1, .long a2] I L (tq_one2 (some (.long out)) I L) := by
  unfold FX3_cuttable at hf
  refine tq_K_of (by decide) (Nat.le_of_ble_eq_true rfl) (ls := [.ref a0, .int a1, .long a2, tq_u]) rfl ?_
  refine tq_aload_n rX3_cuttable_0 rfl ?_
  obtain ⟨p1, e1, hf⟩ := tq_let_elim hf
  refine ty_callVJ p1 ([]) ([]) rX3_cuttable_1 l_X3_55 moX3_stones mvX3_stones h0 rfl rfl (Nat.le_of_ble_eq_true rfl) ⟨rfl, rfl⟩ (CX3_stones h0 e1) ?_
  refine tq_lload_n rX3_cuttable_4 rfl ?_
  refine tq_land rX3_cuttable_5 ?_
  refine tq_aload_n rX3_cuttable_6 rfl ?_
  refine tq_iload_n rX3_cuttable_7 rfl ?_
  obtain ⟨p2, e2, hf⟩ := tq_let_elim hf
  refine ty_callVJ p2 ([.int a1]) ([.long (p1 &&& a2)]) rX3_cuttable_8 l_X3_108 moX3_edge mvX3_edge h0 rfl rfl (Nat.le_of_ble_eq_true rfl) ⟨rfl, rfl⟩ (CX3_edge h0 e2) ?_
  refine tq_aload_n rX3_cuttable_11 rfl ?_
  refine tq_iload_n rX3_cuttable_12 rfl ?_
  refine tq_lload_n rX3_cuttable_13 rfl ?_
  obtain ⟨p3, e3, hf⟩ := Option.bind_eq_some_iff.mp hf
  refine ty_callVJ p3 ([.int a1, .long a2]) ([.long p2, .long (p1 &&& a2)]) rX3_cuttable_14 l_X3_115 moX3_reached mvX3_reached h0 rfl rfl (Nat.le_of_ble_eq_true rfl) ⟨rfl, rfl⟩ (CX3_reached h0 e3) ?_
  obtain ⟨p4, e4, hf⟩ := tq_let_elim hf
  refine ty_callSJ p4 ([.long p3]) ([.long p2, .long (p1 &&& a2)]) rX3_cuttable_17 l_X3_119 moX11_nextTo msX11_nextTo rfl rfl (Nat.le_of_ble_eq_true rfl) ⟨rfl, rfl⟩ (CX11_nextTo  e4) ?_
  refine tq_lor rX3_cuttable_20 ?_
  refine tq_land rX3_cuttable_21 ?_
  refine ty_lret rX3_cuttable_22 rfl rfl ?_
  have hf := Option.some.inj hf
  subst hf
  exact ⟨rfl, rfl, rfl⟩

abbrev mX3_safeFor : tq_M := (yX3_safeFor, cX3_safeFor, 10, (Option.some Jvm.ClassFile.FieldType.long), 0, 0)
theorem moX3_cuttable : tq_mok mX3_cuttable 2 := ⟨tq_sg1 _ (List.mem_of_getElem? (i := 3) rfl), tq_sg4 _ (List.mem_of_getElem? (i := 75) rfl), ⟨by decide, by decide, by decide +kernel⟩, by decide⟩
theorem mvX3_cuttable : 3 < 13 ∧ (tq_cl 3).1 = mX3_cuttable.1.cls ∧ Cond.instanceMethod mX3_cuttable.1 ∈ lw_tbl ∧ Cond.selects mX3_cuttable.1.cls mX3_cuttable.1 mX3_cuttable.1 ∈ lw_tbl := ⟨by decide, rfl, tq_sg4 _ (List.mem_of_getElem? (i := 73) rfl), tq_sg4 _ (List.mem_of_getElem? (i := 74) rfl)⟩
theorem l_X3_122 : tq_lok RX3 122 mX11_leftOf.1 := Or.inr ⟨_, tq_sg4 _ (List.mem_of_getElem? (i := 124) rfl)⟩
theorem l_X3_125 : tq_lok RX3 125 mX11_rightOf.1 := Or.inr ⟨_, tq_sg4 _ (List.mem_of_getElem? (i := 125) rfl)⟩
theorem l_X3_128 : tq_lok RX3 128 mX3_cuttable.1 := Or.inl (tq_sg4 _ (List.mem_of_getElem? (i := 126) rfl))
theorem rX3_safeFor_0 : tq_D cX3_safeFor 0 (.lload_n 2) 1 1 := ⟨by decide +kernel, rfl⟩
theorem rX3_safeFor_1 : tq_D cX3_safeFor 1 (.aload_n 0) 1 2 := ⟨by decide +kernel, rfl⟩
theorem rX3_safeFor_2 : tq_D cX3_safeFor 2 (.lload_n 2) 1 3 := ⟨by decide +kernel, rfl⟩
theorem rX3_safeFor_3 : tq_D cX3_safeFor 3 (.invokevirtual 93) 3 6 := ⟨by decide +kernel, rfl⟩
theorem rX3_safeFor_6 : tq_D cX3_safeFor 6 (.ldc2_w 49) 3 9 := ⟨by decide +kernel, rfl⟩
theorem rX3_safeFor_9 : tq_D cX3_safeFor 9 (.lxor) 1 10 := ⟨by decide +kernel, rfl⟩
theorem rX3_safeFor_10 : tq_D cX3_safeFor 10 (.land) 1 11 := ⟨by decide +kernel, rfl⟩
theorem rX3_safeFor_11 : tq_D cX3_safeFor 11 (.lstore 4) 2 13 := ⟨by decide +kernel, rfl⟩
theorem rX3_safeFor_13 : tq_D cX3_safeFor 13 (.lload_n 2) 1 14 := ⟨by decide +kernel, rfl⟩
theorem rX3_safeFor_14 : tq_D cX3_safeFor 14 (.aload_n 0) 1 15 := ⟨by decide +kernel, rfl⟩
theorem rX3_safeFor_15 : tq_D cX3_safeFor 15 (.lload_n 2) 1 16 := ⟨by decide +kernel, rfl⟩
theorem rX3_safeFor_16 : tq_D cX3_safeFor 16 (.invokevirtual 96) 3 19 := ⟨by decide +kernel, rfl⟩
theorem rX3_safeFor_19 : tq_D cX3_safeFor 19 (.ldc2_w 49) 3 22 := ⟨by decide +kernel, rfl⟩
theorem rX3_safeFor_22 : tq_D cX3_safeFor 22 (.lxor) 1 23 := ⟨by decide +kernel, rfl⟩
theorem rX3_safeFor_23 : tq_D cX3_safeFor 23 (.land) 1 24 := ⟨by decide +kernel, rfl⟩
theorem rX3_safeFor_24 : tq_D cX3_safeFor 24 (.lstore 6) 2 26 := ⟨by decide +kernel, rfl⟩
theorem rX3_safeFor_26 : tq_D cX3_safeFor 26 (.lload 4) 2 28 := ⟨by decide +kernel, rfl⟩
theorem rX3_safeFor_28 : tq_D cX3_safeFor 28 (.invokestatic 122) 3 31 := ⟨by decide +kernel, rfl⟩
theorem rX3_safeFor_31 : tq_D cX3_safeFor 31 (.lload 4) 2 33 := ⟨by decide +kernel, rfl⟩
theorem rX3_safeFor_33 : tq_D cX3_safeFor 33 (.invokestatic 125) 3 36 := ⟨by decide +kernel, rfl⟩
theorem rX3_safeFor_36 : tq_D cX3_safeFor 36 (.lor) 1 37 := ⟨by decide +kernel, rfl⟩
theorem rX3_safeFor_37 : tq_D cX3_safeFor 37 (.lload 6) 2 39 := ⟨by decide +kernel, rfl⟩
theorem rX3_safeFor_39 : tq_D cX3_safeFor 39 (.bipush 8) 2 41 := ⟨by decide +kernel, rfl⟩
theorem rX3_safeFor_41 : tq_D cX3_safeFor 41 (.lshl) 1 42 := ⟨by decide +kernel, rfl⟩
theorem rX3_safeFor_42 : tq_D cX3_safeFor 42 (.lor) 1 43 := ⟨by decide +kernel, rfl⟩
theorem rX3_safeFor_43 : tq_D cX3_safeFor 43 (.lstore 8) 2 45 := ⟨by decide +kernel, rfl⟩
theorem rX3_safeFor_45 : tq_D cX3_safeFor 45 (.aload_n 0) 1 46 := ⟨by decide +kernel, rfl⟩
theorem rX3_safeFor_46 : tq_D cX3_safeFor 46 (.iload_n 1) 1 47 := ⟨by decide +kernel, rfl⟩
theorem rX3_safeFor_47 : tq_D cX3_safeFor 47 (.lload_n 2) 1 48 := ⟨by decide +kernel, rfl⟩
theorem rX3_safeFor_48 : tq_D cX3_safeFor 48 (.invokevirtual 128) 3 51 := ⟨by decide +kernel, rfl⟩
theorem rX3_safeFor_51 : tq_D cX3_safeFor 51 (.lload 8) 2 53 := ⟨by decide +kernel, rfl⟩
theorem rX3_safeFor_53 : tq_D cX3_safeFor 53 (.ldc2_w 49) 3 56 := ⟨by decide +kernel, rfl⟩
theorem rX3_safeFor_56 : tq_D cX3_safeFor 56 (.lxor) 1 57 := ⟨by decide +kernel, rfl⟩
theorem rX3_safeFor_57 : tq_D cX3_safeFor 57 (.land) 1 58 := ⟨by decide +kernel, rfl⟩
theorem rX3_safeFor_58 : decode cX3_safeFor 58 = .ok (.lreturn, 1) := by decide +kernel
noncomputable def FX3_safeFor (I : tq_PI) (L : tq_PL) (a0 : Nat) (a1 : Int32) (a2 : Int64) : Option (Int64) :=
  (tq_let (FX3_carried I L a0 a2) fun p1 => (tq_let (FX3_bridged I L a0 a2) fun p2 => (tq_let (FX11_leftOf I L ((a2 &&& (p1 ^^^ (-1 : Int64))))) fun p3 => (tq_let (FX11_rightOf I L ((a2 &&& (p1 ^^^ (-1 : Int64))))) fun p4 => ((FX3_cuttable I L a0 a1 a2).bind fun p5 => some (p5 &&& (((p3 ||| p4) ||| ((a2 &&& (p2 ^^^ (-1 : Int64))) <<< (Int32.toInt64 (8 : Int32) &&& 63))) ^^^ (-1 : Int64))))))))
set_option maxRecDepth 100000 in
set_option maxHeartbeats 4000000 in
theorem CX3_safeFor {S : Nat × (Nat → Int32)} {d : Nat} {I : tq_PI} {L : tq_PL} {a0 : Nat} {a1 : Int32} {a2 : Int64} (h0 : tq_sh0 a0 = 3) {out : Int64} (hf : FX3_safeFor I L a0 a1 a2 = some out) : tq_K S mX3_safeFor (d + 3) [.ref a0, .int a1, .long a2] I L (tq_one2 (some (.long out)) I L) := by
  unfold FX3_safeFor at hf
  refine tq_K_of (by decide) (Nat.le_of_ble_eq_true rfl) (ls := [.ref a0, .int a1, .long a2, tq_u, tq_u, tq_u, tq_u, tq_u, tq_u, tq_u]) rfl ?_
  refine tq_lload_n rX3_safeFor_0 rfl ?_
  refine tq_aload_n rX3_safeFor_1 rfl ?_
  refine tq_lload_n rX3_safeFor_2 rfl ?_
  obtain ⟨p1, e1, hf⟩ := tq_let_elim hf
  refine ty_callVJ p1 ([.long a2]) ([.long a2]) rX3_safeFor_3 l_X3_93 moX3_carried mvX3_carried h0 rfl rfl (Nat.le_of_ble_eq_true rfl) ⟨rfl, rfl⟩ (CX3_carried h0 e1) ?_
  refine tq_ldc2 rX3_safeFor_6 (k_X3_49) ?_
  refine tq_lxor rX3_safeFor_9 ?_
  refine tq_land rX3_safeFor_10 ?_
  refine tq_lstore ([.ref a0, .int a1, .long a2, tq_u, .long (a2 &&& (p1 ^^^ (-1 : Int64))), tq_u, tq_u, tq_u, tq_u, tq_u]) rX3_safeFor_11 (Nat.le_of_ble_eq_true rfl) rfl ?_
  refine tq_lload_n rX3_safeFor_13 rfl ?_
  refine tq_aload_n rX3_safeFor_14 rfl ?_
  refine tq_lload_n rX3_safeFor_15 rfl ?_
  obtain ⟨p2, e2, hf⟩ := tq_let_elim hf
  refine ty_callVJ p2 ([.long a2]) ([.long a2]) rX3_safeFor_16 l_X3_96 moX3_bridged mvX3_bridged h0 rfl rfl (Nat.le_of_ble_eq_true rfl) ⟨rfl, rfl⟩ (CX3_bridged h0 e2) ?_
  refine tq_ldc2 rX3_safeFor_19 (k_X3_49) ?_
  refine tq_lxor rX3_safeFor_22 ?_
  refine tq_land rX3_safeFor_23 ?_
  refine tq_lstore ([.ref a0, .int a1, .long a2, tq_u, .long (a2 &&& (p1 ^^^ (-1 : Int64))), tq_u, .long (a2 &&& (p2 ^^^ (-1 : Int64))), tq_u, tq_u, tq_u]) rX3_safeFor_24 (Nat.le_of_ble_eq_true rfl) rfl ?_
  refine tq_lload rX3_safeFor_26 rfl ?_
  obtain ⟨p3, e3, hf⟩ := tq_let_elim hf
  refine ty_callSJ p3 ([.long (a2 &&& (p1 ^^^ (-1 : Int64)))]) ([]) rX3_safeFor_28 l_X3_122 moX11_leftOf msX11_leftOf rfl rfl (Nat.le_of_ble_eq_true rfl) ⟨rfl, rfl⟩ (CX11_leftOf  e3) ?_
  refine tq_lload rX3_safeFor_31 rfl ?_
  obtain ⟨p4, e4, hf⟩ := tq_let_elim hf
  refine ty_callSJ p4 ([.long (a2 &&& (p1 ^^^ (-1 : Int64)))]) ([.long p3]) rX3_safeFor_33 l_X3_125 moX11_rightOf msX11_rightOf rfl rfl (Nat.le_of_ble_eq_true rfl) ⟨rfl, rfl⟩ (CX11_rightOf  e4) ?_
  refine tq_lor rX3_safeFor_36 ?_
  refine tq_lload rX3_safeFor_37 rfl ?_
  refine tq_bipush (8 : Int32) rX3_safeFor_39 (by decide) ?_
  refine tq_lshl rX3_safeFor_41 ?_
  refine tq_lor rX3_safeFor_42 ?_
  refine tq_lstore ([.ref a0, .int a1, .long a2, tq_u, .long (a2 &&& (p1 ^^^ (-1 : Int64))), tq_u, .long (a2 &&& (p2 ^^^ (-1 : Int64))), tq_u, .long ((p3 ||| p4) ||| ((a2 &&& (p2 ^^^ (-1 : Int64))) <<< (Int32.toInt64 (8 : Int32) &&& 63))), tq_u]) rX3_safeFor_43 (Nat.le_of_ble_eq_true rfl) rfl ?_
  refine tq_aload_n rX3_safeFor_45 rfl ?_
  refine tq_iload_n rX3_safeFor_46 rfl ?_
  refine tq_lload_n rX3_safeFor_47 rfl ?_
  obtain ⟨p5, e5, hf⟩ := Option.bind_eq_some_iff.mp hf
  refine ty_callVJ p5 ([.int a1, .long a2]) ([]) rX3_safeFor_48 l_X3_128 moX3_cuttable mvX3_cuttable h0 rfl rfl (Nat.le_of_ble_eq_true rfl) ⟨rfl, rfl⟩ (CX3_cuttable h0 e5) ?_
  refine tq_lload rX3_safeFor_51 rfl ?_
  refine tq_ldc2 rX3_safeFor_53 (k_X3_49) ?_
  refine tq_lxor rX3_safeFor_56 ?_
  refine tq_land rX3_safeFor_57 ?_
  refine ty_lret rX3_safeFor_58 rfl rfl ?_
  have hf := Option.some.inj hf
  subst hf
  exact ⟨rfl, rfl, rfl⟩

abbrev mX3_nextLayer : tq_M := (yX3_nextLayer, cX3_nextLayer, 8, (Option.some Jvm.ClassFile.FieldType.long), 0, 0)
theorem rX3_nextLayer_0 : tq_D cX3_nextLayer 0 (.aload_n 0) 1 1 := ⟨by decide +kernel, rfl⟩
theorem rX3_nextLayer_1 : tq_D cX3_nextLayer 1 (.invokevirtual 55) 3 4 := ⟨by decide +kernel, rfl⟩
theorem rX3_nextLayer_4 : tq_D cX3_nextLayer 4 (.lload 4) 2 6 := ⟨by decide +kernel, rfl⟩
theorem rX3_nextLayer_6 : tq_D cX3_nextLayer 6 (.land) 1 7 := ⟨by decide +kernel, rfl⟩
theorem rX3_nextLayer_7 : tq_D cX3_nextLayer 7 (.lstore 6) 2 9 := ⟨by decide +kernel, rfl⟩
theorem rX3_nextLayer_9 : tq_D cX3_nextLayer 9 (.lload_n 2) 1 10 := ⟨by decide +kernel, rfl⟩
theorem rX3_nextLayer_10 : tq_D cX3_nextLayer 10 (.lload 6) 2 12 := ⟨by decide +kernel, rfl⟩
theorem rX3_nextLayer_12 : tq_D cX3_nextLayer 12 (.aload_n 0) 1 13 := ⟨by decide +kernel, rfl⟩
theorem rX3_nextLayer_13 : tq_D cX3_nextLayer 13 (.iload_n 1) 1 14 := ⟨by decide +kernel, rfl⟩
theorem rX3_nextLayer_14 : tq_D cX3_nextLayer 14 (.invokevirtual 108) 3 17 := ⟨by decide +kernel, rfl⟩
theorem rX3_nextLayer_17 : tq_D cX3_nextLayer 17 (.lload_n 2) 1 18 := ⟨by decide +kernel, rfl⟩
theorem rX3_nextLayer_18 : tq_D cX3_nextLayer 18 (.invokestatic 119) 3 21 := ⟨by decide +kernel, rfl⟩
theorem rX3_nextLayer_21 : tq_D cX3_nextLayer 21 (.lor) 1 22 := ⟨by decide +kernel, rfl⟩
theorem rX3_nextLayer_22 : tq_D cX3_nextLayer 22 (.land) 1 23 := ⟨by decide +kernel, rfl⟩
theorem rX3_nextLayer_23 : tq_D cX3_nextLayer 23 (.lor) 1 24 := ⟨by decide +kernel, rfl⟩
theorem rX3_nextLayer_24 : tq_D cX3_nextLayer 24 (.aload_n 0) 1 25 := ⟨by decide +kernel, rfl⟩
theorem rX3_nextLayer_25 : tq_D cX3_nextLayer 25 (.getfield 18) 3 28 := ⟨by decide +kernel, rfl⟩
theorem rX3_nextLayer_28 : tq_D cX3_nextLayer 28 (.lload 4) 2 30 := ⟨by decide +kernel, rfl⟩
theorem rX3_nextLayer_30 : tq_D cX3_nextLayer 30 (.ldc2_w 49) 3 33 := ⟨by decide +kernel, rfl⟩
theorem rX3_nextLayer_33 : tq_D cX3_nextLayer 33 (.lxor) 1 34 := ⟨by decide +kernel, rfl⟩
theorem rX3_nextLayer_34 : tq_D cX3_nextLayer 34 (.land) 1 35 := ⟨by decide +kernel, rfl⟩
theorem rX3_nextLayer_35 : tq_D cX3_nextLayer 35 (.invokestatic 111) 3 38 := ⟨by decide +kernel, rfl⟩
theorem rX3_nextLayer_38 : decode cX3_nextLayer 38 = .ok (.lreturn, 1) := by decide +kernel
noncomputable def FX3_nextLayer (I : tq_PI) (L : tq_PL) (a0 : Nat) (a1 : Int32) (a2 : Int64) (a4 : Int64) : Option (Int64) :=
  (tq_let (FX3_stones I L a0) fun p1 => (tq_let (FX3_edge I L a0 a1) fun p2 => (tq_let (FX11_nextTo I L a2) fun p3 => ((FX11_flood I L ((a2 ||| ((p1 &&& a4) &&& (p2 ||| p3)))) (((L a0 2) &&& (a4 ^^^ (-1 : Int64))))).bind fun p4 => some p4))))
set_option maxRecDepth 100000 in
set_option maxHeartbeats 4000000 in
theorem CX3_nextLayer {S : Nat × (Nat → Int32)} {d : Nat} {I : tq_PI} {L : tq_PL} {a0 : Nat} {a1 : Int32} {a2 : Int64} {a4 : Int64} (h0 : tq_sh0 a0 = 3) {out : Int64} (hf : FX3_nextLayer I L a0 a1 a2 a4 = some out) : tq_K S mX3_nextLayer (d + 2) [.ref a0, .int a1, .long a2, .long a4] I L (tq_one2 (some (.long out)) I L) := by
  unfold FX3_nextLayer at hf
  refine tq_K_of (by decide) (Nat.le_of_ble_eq_true rfl) (ls := [.ref a0, .int a1, .long a2, tq_u, .long a4, tq_u, tq_u, tq_u]) rfl ?_
  refine tq_aload_n rX3_nextLayer_0 rfl ?_
  obtain ⟨p1, e1, hf⟩ := tq_let_elim hf
  refine ty_callVJ p1 ([]) ([]) rX3_nextLayer_1 l_X3_55 moX3_stones mvX3_stones h0 rfl rfl (Nat.le_of_ble_eq_true rfl) ⟨rfl, rfl⟩ (CX3_stones h0 e1) ?_
  refine tq_lload rX3_nextLayer_4 rfl ?_
  refine tq_land rX3_nextLayer_6 ?_
  refine tq_lstore ([.ref a0, .int a1, .long a2, tq_u, .long a4, tq_u, .long (p1 &&& a4), tq_u]) rX3_nextLayer_7 (Nat.le_of_ble_eq_true rfl) rfl ?_
  refine tq_lload_n rX3_nextLayer_9 rfl ?_
  refine tq_lload rX3_nextLayer_10 rfl ?_
  refine tq_aload_n rX3_nextLayer_12 rfl ?_
  refine tq_iload_n rX3_nextLayer_13 rfl ?_
  obtain ⟨p2, e2, hf⟩ := tq_let_elim hf
  refine ty_callVJ p2 ([.int a1]) ([.long (p1 &&& a4), .long a2]) rX3_nextLayer_14 l_X3_108 moX3_edge mvX3_edge h0 rfl rfl (Nat.le_of_ble_eq_true rfl) ⟨rfl, rfl⟩ (CX3_edge h0 e2) ?_
  refine tq_lload_n rX3_nextLayer_17 rfl ?_
  obtain ⟨p3, e3, hf⟩ := tq_let_elim hf
  refine ty_callSJ p3 ([.long a2]) ([.long p2, .long (p1 &&& a4), .long a2]) rX3_nextLayer_18 l_X3_119 moX11_nextTo msX11_nextTo rfl rfl (Nat.le_of_ble_eq_true rfl) ⟨rfl, rfl⟩ (CX11_nextTo  e3) ?_
  refine tq_lor rX3_nextLayer_21 ?_
  refine tq_land rX3_nextLayer_22 ?_
  refine tq_lor rX3_nextLayer_23 ?_
  refine tq_aload_n rX3_nextLayer_24 rfl ?_
  refine ty_getL rX3_nextLayer_25 f_X3_18 rfl h0 ?_
  refine tq_lload rX3_nextLayer_28 rfl ?_
  refine tq_ldc2 rX3_nextLayer_30 (k_X3_49) ?_
  refine tq_lxor rX3_nextLayer_33 ?_
  refine tq_land rX3_nextLayer_34 ?_
  obtain ⟨p4, e4, hf⟩ := Option.bind_eq_some_iff.mp hf
  refine ty_callSJ p4 ([.long (a2 ||| ((p1 &&& a4) &&& (p2 ||| p3))), .long ((L a0 2) &&& (a4 ^^^ (-1 : Int64)))]) ([]) rX3_nextLayer_35 l_X3_111 moX11_flood msX11_flood rfl rfl (Nat.le_of_ble_eq_true rfl) ⟨rfl, rfl⟩ (CX11_flood  e4) ?_
  refine ty_lret rX3_nextLayer_38 rfl rfl ?_
  have hf := Option.some.inj hf
  subst hf
  exact ⟨rfl, rfl, rfl⟩

