/-! THE MIRROR, part 2: by program (wip/whole/gen_mirror.py). -/
abbrev mX3_fewestStones : tq_M := (yX3_fewestStones, cX3_fewestStones, 11, (Option.some Jvm.ClassFile.FieldType.int), 0, 0)
theorem moX3_nextLayer : tq_mok mX3_nextLayer 3 := ⟨tq_sg1 _ (List.mem_of_getElem? (i := 3) rfl), tq_sg4 _ (List.mem_of_getElem? (i := 46) rfl), ⟨by decide, by decide, by decide +kernel⟩, by decide⟩
theorem mvX3_nextLayer : 3 < 13 ∧ (tq_cl 3).1 = mX3_nextLayer.1.cls ∧ Cond.instanceMethod mX3_nextLayer.1 ∈ lw_tbl ∧ Cond.selects mX3_nextLayer.1.cls mX3_nextLayer.1 mX3_nextLayer.1 ∈ lw_tbl := ⟨by decide, rfl, tq_sg4 _ (List.mem_of_getElem? (i := 45) rfl), List.mem_append_left _ (List.mem_map.mpr ⟨_, List.mem_of_getElem? (i := 23) rfl, rfl⟩)⟩
theorem l_X3_131 : tq_lok RX3 131 mX3_nextLayer.1 := Or.inl (tq_sg4 _ (List.mem_of_getElem? (i := 43) rfl))
theorem rX3_fewestStones_0 : tq_D cX3_fewestStones 0 (.aload_n 0) 1 1 := ⟨by decide +kernel, rfl⟩
theorem rX3_fewestStones_1 : tq_D cX3_fewestStones 1 (.iload_n 1) 1 2 := ⟨by decide +kernel, rfl⟩
theorem rX3_fewestStones_2 : tq_D cX3_fewestStones 2 (.lload 4) 2 4 := ⟨by decide +kernel, rfl⟩
theorem rX3_fewestStones_4 : tq_D cX3_fewestStones 4 (.invokevirtual 115) 3 7 := ⟨by decide +kernel, rfl⟩
theorem rX3_fewestStones_7 : tq_D cX3_fewestStones 7 (.lstore 6) 2 9 := ⟨by decide +kernel, rfl⟩
theorem rX3_fewestStones_9 : tq_D cX3_fewestStones 9 (.iconst 0) 1 10 := ⟨by decide +kernel, rfl⟩
theorem rX3_fewestStones_10 : tq_D cX3_fewestStones 10 (.istore 8) 2 12 := ⟨by decide +kernel, rfl⟩
theorem rX3_fewestStones_12 : tq_D cX3_fewestStones 12 (.iload 8) 2 14 := ⟨by decide +kernel, rfl⟩
theorem rX3_fewestStones_14 : tq_D cX3_fewestStones 14 (.bipush 48) 2 16 := ⟨by decide +kernel, rfl⟩
theorem rX3_fewestStones_16 : tq_J cX3_fewestStones 16 (.if_icmp .gt) 62 19 := ⟨46, by decide +kernel, by decide, rfl⟩
theorem rX3_fewestStones_19 : tq_D cX3_fewestStones 19 (.lload 6) 2 21 := ⟨by decide +kernel, rfl⟩
theorem rX3_fewestStones_21 : tq_D cX3_fewestStones 21 (.lload_n 2) 1 22 := ⟨by decide +kernel, rfl⟩
theorem rX3_fewestStones_22 : tq_D cX3_fewestStones 22 (.land) 1 23 := ⟨by decide +kernel, rfl⟩
theorem rX3_fewestStones_23 : tq_D cX3_fewestStones 23 (.lconst 0) 1 24 := ⟨by decide +kernel, rfl⟩
theorem rX3_fewestStones_24 : tq_D cX3_fewestStones 24 (.lcmp) 1 25 := ⟨by decide +kernel, rfl⟩
theorem rX3_fewestStones_25 : tq_J cX3_fewestStones 25 (.ifCond .eq) 31 28 := ⟨6, by decide +kernel, by decide, rfl⟩
theorem rX3_fewestStones_28 : tq_D cX3_fewestStones 28 (.iload 8) 2 30 := ⟨by decide +kernel, rfl⟩
theorem rX3_fewestStones_30 : decode cX3_fewestStones 30 = .ok (.ireturn, 1) := by decide +kernel
theorem rX3_fewestStones_31 : tq_D cX3_fewestStones 31 (.aload_n 0) 1 32 := ⟨by decide +kernel, rfl⟩
theorem rX3_fewestStones_32 : tq_D cX3_fewestStones 32 (.iload_n 1) 1 33 := ⟨by decide +kernel, rfl⟩
theorem rX3_fewestStones_33 : tq_D cX3_fewestStones 33 (.lload 6) 2 35 := ⟨by decide +kernel, rfl⟩
theorem rX3_fewestStones_35 : tq_D cX3_fewestStones 35 (.lload 4) 2 37 := ⟨by decide +kernel, rfl⟩
theorem rX3_fewestStones_37 : tq_D cX3_fewestStones 37 (.invokevirtual 131) 3 40 := ⟨by decide +kernel, rfl⟩
theorem rX3_fewestStones_40 : tq_D cX3_fewestStones 40 (.lstore 9) 2 42 := ⟨by decide +kernel, rfl⟩
theorem rX3_fewestStones_42 : tq_D cX3_fewestStones 42 (.lload 9) 2 44 := ⟨by decide +kernel, rfl⟩
theorem rX3_fewestStones_44 : tq_D cX3_fewestStones 44 (.lload 6) 2 46 := ⟨by decide +kernel, rfl⟩
theorem rX3_fewestStones_46 : tq_D cX3_fewestStones 46 (.lcmp) 1 47 := ⟨by decide +kernel, rfl⟩
theorem rX3_fewestStones_47 : tq_J cX3_fewestStones 47 (.ifCond .ne) 52 50 := ⟨5, by decide +kernel, by decide, rfl⟩
theorem rX3_fewestStones_50 : tq_D cX3_fewestStones 50 (.iconst (-1)) 1 51 := ⟨by decide +kernel, rfl⟩
theorem rX3_fewestStones_51 : decode cX3_fewestStones 51 = .ok (.ireturn, 1) := by decide +kernel
theorem rX3_fewestStones_52 : tq_D cX3_fewestStones 52 (.lload 9) 2 54 := ⟨by decide +kernel, rfl⟩
theorem rX3_fewestStones_54 : tq_D cX3_fewestStones 54 (.lstore 6) 2 56 := ⟨by decide +kernel, rfl⟩
theorem rX3_fewestStones_56 : tq_D cX3_fewestStones 56 (.iinc 8 1) 3 59 := ⟨by decide +kernel, rfl⟩
theorem rX3_fewestStones_59 : tq_J cX3_fewestStones 59 .goto 12 62 := ⟨(-47), by decide +kernel, by decide, rfl⟩
theorem rX3_fewestStones_62 : tq_D cX3_fewestStones 62 (.iconst (-1)) 1 63 := ⟨by decide +kernel, rfl⟩
theorem rX3_fewestStones_63 : decode cX3_fewestStones 63 = .ok (.ireturn, 1) := by decide +kernel
noncomputable def FX3_fewestStones_s12 (I : tq_PI) (L : tq_PL) (a0 : Nat) (a1 : Int32) (a2 : Int64) (a4 : Int64) (a6 : Int64) (a8 : Int32) : Option ((Int64 × Int32) ⊕ ((Unit) ⊕ (Int32))) :=
  (if (48 : Int32) < a8 then some (.inr (.inl ())) else (if (lg_cmp (a6 &&& a2) (0 : Int64)) = 0 then ((FX3_nextLayer I L a0 a1 a6 a4).bind fun p4 => (if (lg_cmp p4 a6) = 0 then some (.inr (.inr (-1 : Int32))) else some (.inl (p4, (a8 + 1))))) else some (.inr (.inr a8))))
noncomputable def FX3_fewestStones (I : tq_PI) (L : tq_PL) (a0 : Nat) (a1 : Int32) (a2 : Int64) (a4 : Int64) : Option (Int32) :=
  ((FX3_reached I L a0 a1 a4).bind fun p1 => ((tq_it (fun p : Int64 × Int32 => FX3_fewestStones_s12 I L a0 a1 a2 a4 p.1 p.2) tq_N (p1, (0 : Int32))).bind fun p6 => p6.elim (fun t7 => some (-1 : Int32)) (fun t7 => some t7)))
set_option maxRecDepth 100000 in
set_option maxHeartbeats 4000000 in
theorem FX3_fewestStones_s12_x {S : Nat × (Nat → Int32)} {d : Nat} {I : tq_PI} {L : tq_PL} {a0 : Nat} {a1 : Int32} {a2 : Int64} {a4 : Int64} {a6 : Int64} {a8 : Int32} (h0 : tq_sh0 a0 = 3) {q0 : Option Value → tq_PI → tq_PL → Prop} {out : (Int64 × Int32) ⊕ ((Unit) ⊕ (Int32))} (hf : FX3_fewestStones_s12 I L a0 a1 a2 a4 a6 a8 = some out) (hk : Sum.elim (fun p : Int64 × Int32 => tq_X S mX3_fewestStones (d + 3) tq_k0 12 ([.ref a0, .int a1, .long a2, tq_u, .long a4, tq_u, .long p.1, tq_u, .int p.2, tq_u, tq_u]) [] (tq_st I L) (tq_Q q0)) (Sum.elim (fun p : Unit => tq_X S mX3_fewestStones (d + 3) tq_k0 62 ([tq_u, tq_u, tq_u, tq_u, tq_u, tq_u, tq_u, tq_u, tq_u, tq_u, tq_u]) [] (tq_st I L) (tq_Q q0)) (fun p : Int32 => q0 (some (.int p)) I L)) out) : tq_X S mX3_fewestStones (d + 3) tq_k0 12 ([.ref a0, .int a1, .long a2, tq_u, .long a4, tq_u, .long a6, tq_u, .int a8, tq_u, tq_u]) [] (tq_st I L) (tq_Q q0) := by
  unfold FX3_fewestStones_s12 at hf
  refine tq_iload rX3_fewestStones_12 rfl ?_
  refine tq_bipush (48 : Int32) rX3_fewestStones_14 (by decide) ?_
  refine tq_icmp_gt rX3_fewestStones_16 (fun c2 => ?_) (fun c2 => ?_)
  · rw [if_pos c2] at hf
    have hf := Option.some.inj hf
    subst hf
    exact tq_forget _ (tq_le_u (tq_le_u (tq_le_u (tq_le_u (tq_le_u (tq_le_u (tq_le_u (tq_le_u (tq_le_u (tq_le_u (tq_le_u tq_le_n))))))))))) hk
  · rw [if_neg c2] at hf
    refine tq_lload rX3_fewestStones_19 rfl ?_
    refine tq_lload_n rX3_fewestStones_21 rfl ?_
    refine tq_land rX3_fewestStones_22 ?_
    refine tq_lconst (0 : Int64) rX3_fewestStones_23 (by decide) ?_
    refine tq_lcmp rX3_fewestStones_24 ?_
    refine tq_if_eq rX3_fewestStones_25 (fun c3 => ?_) (fun c3 => ?_)
    · rw [if_pos c3] at hf
      refine tq_aload_n rX3_fewestStones_31 rfl ?_
      refine tq_iload_n rX3_fewestStones_32 rfl ?_
      refine tq_lload rX3_fewestStones_33 rfl ?_
      refine tq_lload rX3_fewestStones_35 rfl ?_
      obtain ⟨p4, e4, hf⟩ := Option.bind_eq_some_iff.mp hf
      refine ty_callVJ p4 ([.int a1, .long a6, .long a4]) ([]) rX3_fewestStones_37 l_X3_131 moX3_nextLayer mvX3_nextLayer h0 rfl rfl (Nat.le_of_ble_eq_true rfl) ⟨rfl, rfl⟩ (CX3_nextLayer h0 e4) ?_
      refine tq_lstore ([.ref a0, .int a1, .long a2, tq_u, .long a4, tq_u, .long a6, tq_u, .int a8, .long p4, tq_u]) rX3_fewestStones_40 (Nat.le_of_ble_eq_true rfl) rfl ?_
      refine tq_lload rX3_fewestStones_42 rfl ?_
      refine tq_lload rX3_fewestStones_44 rfl ?_
      refine tq_lcmp rX3_fewestStones_46 ?_
      refine tq_if_ne rX3_fewestStones_47 (fun c5 => ?_) (fun c5 => ?_)
      · rw [if_neg c5] at hf
        refine tq_lload rX3_fewestStones_52 rfl ?_
        refine tq_lstore ([.ref a0, .int a1, .long a2, tq_u, .long a4, tq_u, .long p4, tq_u, .int a8, .long p4, tq_u]) rX3_fewestStones_54 (Nat.le_of_ble_eq_true rfl) rfl ?_
        refine tq_iinc (a8 + 1) ([.ref a0, .int a1, .long a2, tq_u, .long a4, tq_u, .long p4, tq_u, .int (a8 + 1), .long p4, tq_u]) rX3_fewestStones_56 rfl (tq_inc (by decide)) (Nat.le_of_ble_eq_true rfl) rfl ?_
        refine tq_goto rX3_fewestStones_59 ?_
        have hf := Option.some.inj hf
        subst hf
        exact tq_forget _ (tq_le_s (tq_le_s (tq_le_s (tq_le_u (tq_le_s (tq_le_u (tq_le_s (tq_le_u (tq_le_s (tq_le_u (tq_le_u tq_le_n))))))))))) hk
      · rw [if_pos c5] at hf
        refine tq_iconst (-1 : Int32) rX3_fewestStones_50 (by decide) ?_
        refine ty_iret rX3_fewestStones_51 rfl rfl ?_
        have hf := Option.some.inj hf
        subst hf
        exact hk
    · rw [if_neg c3] at hf
      refine tq_iload rX3_fewestStones_28 rfl ?_
      refine ty_iret rX3_fewestStones_30 rfl rfl ?_
      have hf := Option.some.inj hf
      subst hf
      exact hk

set_option maxRecDepth 100000 in
set_option maxHeartbeats 4000000 in
theorem CX3_fewestStones {S : Nat × (Nat → Int32)} {d : Nat} {I : tq_PI} {L : tq_PL} {a0 : Nat} {a1 : Int32} {a2 : Int64} {a4 : Int64} (h0 : tq_sh0 a0 = 3) {out : Int32} (hf : FX3_fewestStones I L a0 a1 a2 a4 = some out) : tq_K S mX3_fewestStones (d + 3) [.ref a0, .int a1, .long a2, .long a4] I L (tq_one2 (some (.int out)) I L) := by
  unfold FX3_fewestStones at hf
  refine tq_K_of (by decide) (Nat.le_of_ble_eq_true rfl) (ls := [.ref a0, .int a1, .long a2, tq_u, .long a4, tq_u, tq_u, tq_u, tq_u, tq_u, tq_u]) rfl ?_
  refine tq_aload_n rX3_fewestStones_0 rfl ?_
  refine tq_iload_n rX3_fewestStones_1 rfl ?_
  refine tq_lload rX3_fewestStones_2 rfl ?_
  obtain ⟨p1, e1, hf⟩ := Option.bind_eq_some_iff.mp hf
  refine ty_callVJ p1 ([.int a1, .long a4]) ([]) rX3_fewestStones_4 l_X3_115 moX3_reached mvX3_reached h0 rfl rfl (Nat.le_of_ble_eq_true rfl) ⟨rfl, rfl⟩ (CX3_reached h0 e1) ?_
  refine tq_lstore ([.ref a0, .int a1, .long a2, tq_u, .long a4, tq_u, .long p1, tq_u, tq_u, tq_u, tq_u]) rX3_fewestStones_7 (Nat.le_of_ble_eq_true rfl) rfl ?_
  refine tq_iconst (0 : Int32) rX3_fewestStones_9 (by decide) ?_
  refine tq_istore ([.ref a0, .int a1, .long a2, tq_u, .long a4, tq_u, .long p1, tq_u, .int (0 : Int32), tq_u, tq_u]) rX3_fewestStones_10 (Nat.le_of_ble_eq_true rfl) rfl ?_
  obtain ⟨p6, e6, hf⟩ := Option.bind_eq_some_iff.mp hf
  refine tq_forget _ (tq_le_s (tq_le_s (tq_le_s (tq_le_u (tq_le_s (tq_le_u (tq_le_s (tq_le_u (tq_le_s (tq_le_u (tq_le_u tq_le_n))))))))))) ?_
  refine tq_it_elim (P := fun p : Int64 × Int32 => tq_X S mX3_fewestStones (d + 3) tq_k0 12 ([.ref a0, .int a1, .long a2, tq_u, .long a4, tq_u, .long p.1, tq_u, .int p.2, tq_u, tq_u]) [] (tq_st I L) (tq_Q (tq_one2 (some (.int out)) I L))) (R := Sum.elim (fun p : Unit => tq_X S mX3_fewestStones (d + 3) tq_k0 62 ([tq_u, tq_u, tq_u, tq_u, tq_u, tq_u, tq_u, tq_u, tq_u, tq_u, tq_u]) [] (tq_st I L) (tq_Q (tq_one2 (some (.int out)) I L))) (fun p : Int32 => (tq_one2 (some (.int out)) I L) (some (.int p)) I L)) (fun p o hp hk => FX3_fewestStones_s12_x  h0 hp hk) _ ((p1, (0 : Int32))) _ e6 ?_
  rcases tq_selim hf with ⟨t7, t7q, hf⟩ | ⟨t7, t7q, hf⟩
  · rw [t7q]
    show tq_X _ _ _ _ _ _ _ _ _
    refine tq_iconst (-1 : Int32) rX3_fewestStones_62 (by decide) ?_
    refine ty_iret rX3_fewestStones_63 rfl rfl ?_
    have hf := Option.some.inj hf
    subst hf
    exact ⟨rfl, rfl, rfl⟩
  · rw [t7q]
    have hf := Option.some.inj hf
    subst hf
    exact ⟨rfl, rfl, rfl⟩

abbrev mX3_thickness : tq_M := (yX3_thickness, cX3_thickness, 3, (Option.some Jvm.ClassFile.FieldType.int), 0, 0)
theorem moX3_fewestStones : tq_mok mX3_fewestStones 3 := ⟨tq_sg1 _ (List.mem_of_getElem? (i := 3) rfl), tq_sg4 _ (List.mem_of_getElem? (i := 29) rfl), ⟨by decide, by decide, by decide +kernel⟩, by decide⟩
theorem mvX3_fewestStones : 3 < 13 ∧ (tq_cl 3).1 = mX3_fewestStones.1.cls ∧ Cond.instanceMethod mX3_fewestStones.1 ∈ lw_tbl ∧ Cond.selects mX3_fewestStones.1.cls mX3_fewestStones.1 mX3_fewestStones.1 ∈ lw_tbl := ⟨by decide, rfl, tq_sg4 _ (List.mem_of_getElem? (i := 27) rfl), tq_sg4 _ (List.mem_of_getElem? (i := 28) rfl)⟩
theorem l_X3_135 : tq_lok RX3 135 mX3_fewestStones.1 := Or.inl (tq_sg4 _ (List.mem_of_getElem? (i := 26) rfl))
theorem rX3_thickness_0 : tq_D cX3_thickness 0 (.aload_n 0) 1 1 := ⟨by decide +kernel, rfl⟩
theorem rX3_thickness_1 : tq_D cX3_thickness 1 (.iconst 0) 1 2 := ⟨by decide +kernel, rfl⟩
theorem rX3_thickness_2 : tq_D cX3_thickness 2 (.aload_n 0) 1 3 := ⟨by decide +kernel, rfl⟩
theorem rX3_thickness_3 : tq_D cX3_thickness 3 (.getfield 25) 3 6 := ⟨by decide +kernel, rfl⟩
theorem rX3_thickness_6 : tq_D cX3_thickness 6 (.lload_n 1) 1 7 := ⟨by decide +kernel, rfl⟩
theorem rX3_thickness_7 : tq_D cX3_thickness 7 (.invokevirtual 135) 3 10 := ⟨by decide +kernel, rfl⟩
theorem rX3_thickness_10 : decode cX3_thickness 10 = .ok (.ireturn, 1) := by decide +kernel
noncomputable def FX3_thickness (I : tq_PI) (L : tq_PL) (a0 : Nat) (a1 : Int64) : Option (Int32) :=
  ((FX3_fewestStones I L a0 ((0 : Int32)) ((L a0 4)) a1).bind fun p1 => some p1)
set_option maxRecDepth 100000 in
set_option maxHeartbeats 4000000 in
theorem CX3_thickness {S : Nat × (Nat → Int32)} {d : Nat} {I : tq_PI} {L : tq_PL} {a0 : Nat} {a1 : Int64} (h0 : tq_sh0 a0 = 3) {out : Int32} (hf : FX3_thickness I L a0 a1 = some out) : tq_K S mX3_thickness (d + 4) [.ref a0, .long a1] I L (tq_one2 (some (.int out)) I L) := by
  unfold FX3_thickness at hf
  refine tq_K_of (by decide) (Nat.le_of_ble_eq_true rfl) (ls := [.ref a0, .long a1, tq_u]) rfl ?_
  refine tq_aload_n rX3_thickness_0 rfl ?_
  refine tq_iconst (0 : Int32) rX3_thickness_1 (by decide) ?_
  refine tq_aload_n rX3_thickness_2 rfl ?_
  refine ty_getL rX3_thickness_3 f_X3_25 rfl h0 ?_
  refine tq_lload_n rX3_thickness_6 rfl ?_
  obtain ⟨p1, e1, hf⟩ := Option.bind_eq_some_iff.mp hf
  refine ty_callVI p1 ([.int (0 : Int32), .long (L a0 4), .long a1]) ([]) rX3_thickness_7 l_X3_135 moX3_fewestStones mvX3_fewestStones h0 rfl rfl (Nat.le_of_ble_eq_true rfl) ⟨rfl, rfl⟩ (CX3_fewestStones h0 e1) ?_
  refine ty_iret rX3_thickness_10 rfl rfl ?_
  have hf := Option.some.inj hf
  subst hf
  exact ⟨rfl, rfl, rfl⟩

abbrev mX3_isHeardThrough : tq_M := (yX3_isHeardThrough, cX3_isHeardThrough, 3, (Option.some Jvm.ClassFile.FieldType.boolean), 0, 0)
theorem rX3_isHeardThrough_0 : tq_D cX3_isHeardThrough 0 (.aload_n 0) 1 1 := ⟨by decide +kernel, rfl⟩
theorem rX3_isHeardThrough_1 : tq_D cX3_isHeardThrough 1 (.iconst 0) 1 2 := ⟨by decide +kernel, rfl⟩
theorem rX3_isHeardThrough_2 : tq_D cX3_isHeardThrough 2 (.aload_n 0) 1 3 := ⟨by decide +kernel, rfl⟩
theorem rX3_isHeardThrough_3 : tq_D cX3_isHeardThrough 3 (.getfield 25) 3 6 := ⟨by decide +kernel, rfl⟩
theorem rX3_isHeardThrough_6 : tq_D cX3_isHeardThrough 6 (.aload_n 0) 1 7 := ⟨by decide +kernel, rfl⟩
theorem rX3_isHeardThrough_7 : tq_D cX3_isHeardThrough 7 (.invokevirtual 59) 3 10 := ⟨by decide +kernel, rfl⟩
theorem rX3_isHeardThrough_10 : tq_D cX3_isHeardThrough 10 (.invokevirtual 135) 3 13 := ⟨by decide +kernel, rfl⟩
theorem rX3_isHeardThrough_13 : tq_D cX3_isHeardThrough 13 (.istore_n 2) 1 14 := ⟨by decide +kernel, rfl⟩
theorem rX3_isHeardThrough_14 : tq_D cX3_isHeardThrough 14 (.iload_n 2) 1 15 := ⟨by decide +kernel, rfl⟩
theorem rX3_isHeardThrough_15 : tq_D cX3_isHeardThrough 15 (.iconst (-1)) 1 16 := ⟨by decide +kernel, rfl⟩
theorem rX3_isHeardThrough_16 : tq_J cX3_isHeardThrough 16 (.if_icmp .eq) 28 19 := ⟨12, by decide +kernel, by decide, rfl⟩
theorem rX3_isHeardThrough_19 : tq_D cX3_isHeardThrough 19 (.iload_n 2) 1 20 := ⟨by decide +kernel, rfl⟩
theorem rX3_isHeardThrough_20 : tq_D cX3_isHeardThrough 20 (.iload_n 1) 1 21 := ⟨by decide +kernel, rfl⟩
theorem rX3_isHeardThrough_21 : tq_J cX3_isHeardThrough 21 (.if_icmp .gt) 28 24 := ⟨7, by decide +kernel, by decide, rfl⟩
theorem rX3_isHeardThrough_24 : tq_D cX3_isHeardThrough 24 (.iconst 1) 1 25 := ⟨by decide +kernel, rfl⟩
theorem rX3_isHeardThrough_25 : tq_J cX3_isHeardThrough 25 .goto 29 28 := ⟨4, by decide +kernel, by decide, rfl⟩
theorem rX3_isHeardThrough_28 : tq_D cX3_isHeardThrough 28 (.iconst 0) 1 29 := ⟨by decide +kernel, rfl⟩
theorem rX3_isHeardThrough_29 : decode cX3_isHeardThrough 29 = .ok (.ireturn, 1) := by decide +kernel
noncomputable def FX3_isHeardThrough_j28 (I : tq_PI) (L : tq_PL)  : Option (Bool) :=
  some false
noncomputable def FX3_isHeardThrough (I : tq_PI) (L : tq_PL) (a0 : Nat) (a1 : Int32) : Option (Bool) :=
  (tq_let (FX3_solid I L a0) fun p1 => ((FX3_fewestStones I L a0 ((0 : Int32)) ((L a0 4)) p1).bind fun p2 => (if p2 = (-1 : Int32) then (FX3_isHeardThrough_j28 I L ) else (if a1 < p2 then (FX3_isHeardThrough_j28 I L ) else some true))))
set_option maxRecDepth 100000 in
set_option maxHeartbeats 4000000 in
theorem FX3_isHeardThrough_j28_x {S : Nat × (Nat → Int32)} {d : Nat} {I : tq_PI} {L : tq_PL}   {q0 : Option Value → tq_PI → tq_PL → Prop} {out : Bool} (hf : FX3_isHeardThrough_j28 I L = some out) (hk : q0 (some (.int (tq_b out))) I L) : tq_X S mX3_isHeardThrough (d + 4) tq_k0 28 ([tq_u, tq_u, tq_u]) ([]) (tq_st I L) (tq_Q q0) := by
  unfold FX3_isHeardThrough_j28 at hf
  refine tq_iconst (0 : Int32) rX3_isHeardThrough_28 (by decide) ?_
  refine ty_zret (ty := .boolean) rX3_isHeardThrough_29 rfl rfl rfl ?_
  have hf := Option.some.inj hf
  subst hf
  exact hk

set_option maxRecDepth 100000 in
set_option maxHeartbeats 4000000 in
theorem CX3_isHeardThrough {S : Nat × (Nat → Int32)} {d : Nat} {I : tq_PI} {L : tq_PL} {a0 : Nat} {a1 : Int32} (h0 : tq_sh0 a0 = 3) {out : Bool} (hf : FX3_isHeardThrough I L a0 a1 = some out) : tq_K S mX3_isHeardThrough (d + 4) [.ref a0, .int a1] I L (tq_one2 (some (.int (tq_b out))) I L) := by
  unfold FX3_isHeardThrough at hf
  refine tq_K_of (by decide) (Nat.le_of_ble_eq_true rfl) (ls := [.ref a0, .int a1, tq_u]) rfl ?_
  refine tq_aload_n rX3_isHeardThrough_0 rfl ?_
  refine tq_iconst (0 : Int32) rX3_isHeardThrough_1 (by decide) ?_
  refine tq_aload_n rX3_isHeardThrough_2 rfl ?_
  refine ty_getL rX3_isHeardThrough_3 f_X3_25 rfl h0 ?_
  refine tq_aload_n rX3_isHeardThrough_6 rfl ?_
  obtain ⟨p1, e1, hf⟩ := tq_let_elim hf
  refine ty_callVJ p1 ([]) ([.long (L a0 4), .int (0 : Int32), .ref a0]) rX3_isHeardThrough_7 l_X3_59 moX3_solid mvX3_solid h0 rfl rfl (Nat.le_of_ble_eq_true rfl) ⟨rfl, rfl⟩ (CX3_solid h0 e1) ?_
  obtain ⟨p2, e2, hf⟩ := Option.bind_eq_some_iff.mp hf
  refine ty_callVI p2 ([.int (0 : Int32), .long (L a0 4), .long p1]) ([]) rX3_isHeardThrough_10 l_X3_135 moX3_fewestStones mvX3_fewestStones h0 rfl rfl (Nat.le_of_ble_eq_true rfl) ⟨rfl, rfl⟩ (CX3_fewestStones h0 e2) ?_
  refine tq_istore_n ([.ref a0, .int a1, .int p2]) rX3_isHeardThrough_13 (Nat.le_of_ble_eq_true rfl) rfl ?_
  refine tq_iload_n rX3_isHeardThrough_14 rfl ?_
  refine tq_iconst (-1 : Int32) rX3_isHeardThrough_15 (by decide) ?_
  refine tq_icmp_eq rX3_isHeardThrough_16 (fun c3 => ?_) (fun c3 => ?_)
  · rw [if_pos c3] at hf
    exact tq_forget _ (tq_le_u (tq_le_u (tq_le_u tq_le_n))) (FX3_isHeardThrough_j28_x   hf ⟨rfl, rfl, rfl⟩)
  · rw [if_neg c3] at hf
    refine tq_iload_n rX3_isHeardThrough_19 rfl ?_
    refine tq_iload_n rX3_isHeardThrough_20 rfl ?_
    refine tq_icmp_gt rX3_isHeardThrough_21 (fun c4 => ?_) (fun c4 => ?_)
    · rw [if_pos c4] at hf
      exact tq_forget _ (tq_le_u (tq_le_u (tq_le_u tq_le_n))) (FX3_isHeardThrough_j28_x   hf ⟨rfl, rfl, rfl⟩)
    · rw [if_neg c4] at hf
      refine tq_iconst (1 : Int32) rX3_isHeardThrough_24 (by decide) ?_
      refine tq_goto rX3_isHeardThrough_25 ?_
      refine ty_zret (ty := .boolean) rX3_isHeardThrough_29 rfl rfl rfl ?_
      have hf := Option.some.inj hf
      subst hf
      exact ⟨rfl, rfl, rfl⟩

abbrev mX3_isThrough : tq_M := (yX3_isThrough, cX3_isThrough, 1, (Option.some Jvm.ClassFile.FieldType.boolean), 0, 0)
theorem rX3_isThrough_0 : tq_D cX3_isThrough 0 (.aload_n 0) 1 1 := ⟨by decide +kernel, rfl⟩
theorem rX3_isThrough_1 : tq_D cX3_isThrough 1 (.iconst 0) 1 2 := ⟨by decide +kernel, rfl⟩
theorem rX3_isThrough_2 : tq_D cX3_isThrough 2 (.aload_n 0) 1 3 := ⟨by decide +kernel, rfl⟩
theorem rX3_isThrough_3 : tq_D cX3_isThrough 3 (.invokevirtual 59) 3 6 := ⟨by decide +kernel, rfl⟩
theorem rX3_isThrough_6 : tq_D cX3_isThrough 6 (.invokevirtual 115) 3 9 := ⟨by decide +kernel, rfl⟩
theorem rX3_isThrough_9 : tq_D cX3_isThrough 9 (.aload_n 0) 1 10 := ⟨by decide +kernel, rfl⟩
theorem rX3_isThrough_10 : tq_D cX3_isThrough 10 (.getfield 25) 3 13 := ⟨by decide +kernel, rfl⟩
theorem rX3_isThrough_13 : tq_D cX3_isThrough 13 (.land) 1 14 := ⟨by decide +kernel, rfl⟩
theorem rX3_isThrough_14 : tq_D cX3_isThrough 14 (.lconst 0) 1 15 := ⟨by decide +kernel, rfl⟩
theorem rX3_isThrough_15 : tq_D cX3_isThrough 15 (.lcmp) 1 16 := ⟨by decide +kernel, rfl⟩
theorem rX3_isThrough_16 : tq_J cX3_isThrough 16 (.ifCond .eq) 23 19 := ⟨7, by decide +kernel, by decide, rfl⟩
theorem rX3_isThrough_19 : tq_D cX3_isThrough 19 (.iconst 1) 1 20 := ⟨by decide +kernel, rfl⟩
theorem rX3_isThrough_20 : tq_J cX3_isThrough 20 .goto 24 23 := ⟨4, by decide +kernel, by decide, rfl⟩
theorem rX3_isThrough_23 : tq_D cX3_isThrough 23 (.iconst 0) 1 24 := ⟨by decide +kernel, rfl⟩
theorem rX3_isThrough_24 : decode cX3_isThrough 24 = .ok (.ireturn, 1) := by decide +kernel
noncomputable def FX3_isThrough (I : tq_PI) (L : tq_PL) (a0 : Nat) : Option (Bool) :=
  (tq_let (FX3_solid I L a0) fun p1 => ((FX3_reached I L a0 ((0 : Int32)) p1).bind fun p2 => (if (lg_cmp (p2 &&& (L a0 4)) (0 : Int64)) = 0 then some false else some true)))
set_option maxRecDepth 100000 in
set_option maxHeartbeats 4000000 in
theorem CX3_isThrough {S : Nat × (Nat → Int32)} {d : Nat} {I : tq_PI} {L : tq_PL} {a0 : Nat} (h0 : tq_sh0 a0 = 3) {out : Bool} (hf : FX3_isThrough I L a0 = some out) : tq_K S mX3_isThrough (d + 2) [.ref a0] I L (tq_one2 (some (.int (tq_b out))) I L) := by
  unfold FX3_isThrough at hf
  refine tq_K_of (by decide) (Nat.le_of_ble_eq_true rfl) (ls := [.ref a0]) rfl ?_
  refine tq_aload_n rX3_isThrough_0 rfl ?_
  refine tq_iconst (0 : Int32) rX3_isThrough_1 (by decide) ?_
  refine tq_aload_n rX3_isThrough_2 rfl ?_
  obtain ⟨p1, e1, hf⟩ := tq_let_elim hf
  refine ty_callVJ p1 ([]) ([.int (0 : Int32), .ref a0]) rX3_isThrough_3 l_X3_59 moX3_solid mvX3_solid h0 rfl rfl (Nat.le_of_ble_eq_true rfl) ⟨rfl, rfl⟩ (CX3_solid h0 e1) ?_
  obtain ⟨p2, e2, hf⟩ := Option.bind_eq_some_iff.mp hf
  refine ty_callVJ p2 ([.int (0 : Int32), .long p1]) ([]) rX3_isThrough_6 l_X3_115 moX3_reached mvX3_reached h0 rfl rfl (Nat.le_of_ble_eq_true rfl) ⟨rfl, rfl⟩ (CX3_reached h0 e2) ?_
  refine tq_aload_n rX3_isThrough_9 rfl ?_
  refine ty_getL rX3_isThrough_10 f_X3_25 rfl h0 ?_
  refine tq_land rX3_isThrough_13 ?_
  refine tq_lconst (0 : Int64) rX3_isThrough_14 (by decide) ?_
  refine tq_lcmp rX3_isThrough_15 ?_
  refine tq_if_eq rX3_isThrough_16 (fun c3 => ?_) (fun c3 => ?_)
  · rw [if_pos c3] at hf
    refine tq_iconst (0 : Int32) rX3_isThrough_23 (by decide) ?_
    refine ty_zret (ty := .boolean) rX3_isThrough_24 rfl rfl rfl ?_
    have hf := Option.some.inj hf
    subst hf
    exact ⟨rfl, rfl, rfl⟩
  · rw [if_neg c3] at hf
    refine tq_iconst (1 : Int32) rX3_isThrough_19 (by decide) ?_
    refine tq_goto rX3_isThrough_20 ?_
    refine ty_zret (ty := .boolean) rX3_isThrough_24 rfl rfl rfl ?_
    have hf := Option.some.inj hf
    subst hf
    exact ⟨rfl, rfl, rfl⟩

abbrev mX3_shortestWay : tq_M := (yX3_shortestWay, cX3_shortestWay, 7, (Option.some Jvm.ClassFile.FieldType.int), 0, 0)
theorem moX3_air : tq_mok mX3_air 0 := ⟨tq_sg1 _ (List.mem_of_getElem? (i := 3) rfl), tq_sg4 _ (List.mem_of_getElem? (i := 65) rfl), ⟨by decide, by decide, by decide +kernel⟩, by decide⟩
theorem mvX3_air : 3 < 13 ∧ (tq_cl 3).1 = mX3_air.1.cls ∧ Cond.instanceMethod mX3_air.1 ∈ lw_tbl ∧ Cond.selects mX3_air.1.cls mX3_air.1 mX3_air.1 ∈ lw_tbl := ⟨by decide, rfl, tq_sg4 _ (List.mem_of_getElem? (i := 63) rfl), tq_sg4 _ (List.mem_of_getElem? (i := 64) rfl)⟩
theorem l_X3_139 : tq_lok RX3 139 mX3_air.1 := Or.inl (tq_sg5 _ (List.mem_of_getElem? (i := 154) rfl))
theorem rX3_shortestWay_0 : tq_D cX3_shortestWay 0 (.iload_n 1) 1 1 := ⟨by decide +kernel, rfl⟩
theorem rX3_shortestWay_1 : tq_J cX3_shortestWay 1 (.ifCond .lt) 10 4 := ⟨9, by decide +kernel, by decide, rfl⟩
theorem rX3_shortestWay_4 : tq_D cX3_shortestWay 4 (.iload_n 1) 1 5 := ⟨by decide +kernel, rfl⟩
theorem rX3_shortestWay_5 : tq_D cX3_shortestWay 5 (.aload_n 2) 1 6 := ⟨by decide +kernel, rfl⟩
theorem rX3_shortestWay_6 : tq_D cX3_shortestWay 6 (.arraylength) 1 7 := ⟨by decide +kernel, rfl⟩
theorem rX3_shortestWay_7 : tq_J cX3_shortestWay 7 (.if_icmp .lt) 12 10 := ⟨5, by decide +kernel, by decide, rfl⟩
theorem rX3_shortestWay_10 : tq_D cX3_shortestWay 10 (.iconst (-1)) 1 11 := ⟨by decide +kernel, rfl⟩
theorem rX3_shortestWay_11 : decode cX3_shortestWay 11 = .ok (.ireturn, 1) := by decide +kernel
theorem rX3_shortestWay_12 : tq_D cX3_shortestWay 12 (.iconst 0) 1 13 := ⟨by decide +kernel, rfl⟩
theorem rX3_shortestWay_13 : tq_D cX3_shortestWay 13 (.istore_n 3) 1 14 := ⟨by decide +kernel, rfl⟩
theorem rX3_shortestWay_14 : tq_D cX3_shortestWay 14 (.iload_n 3) 1 15 := ⟨by decide +kernel, rfl⟩
theorem rX3_shortestWay_15 : tq_D cX3_shortestWay 15 (.iload_n 1) 1 16 := ⟨by decide +kernel, rfl⟩
theorem rX3_shortestWay_16 : tq_J cX3_shortestWay 16 (.if_icmp .gt) 29 19 := ⟨13, by decide +kernel, by decide, rfl⟩
theorem rX3_shortestWay_19 : tq_D cX3_shortestWay 19 (.aload_n 2) 1 20 := ⟨by decide +kernel, rfl⟩
theorem rX3_shortestWay_20 : tq_D cX3_shortestWay 20 (.iload_n 3) 1 21 := ⟨by decide +kernel, rfl⟩
theorem rX3_shortestWay_21 : tq_D cX3_shortestWay 21 (.lconst 0) 1 22 := ⟨by decide +kernel, rfl⟩
theorem rX3_shortestWay_22 : tq_D cX3_shortestWay 22 (.lastore) 1 23 := ⟨by decide +kernel, rfl⟩
theorem rX3_shortestWay_23 : tq_D cX3_shortestWay 23 (.iinc 3 1) 3 26 := ⟨by decide +kernel, rfl⟩
theorem rX3_shortestWay_26 : tq_J cX3_shortestWay 26 .goto 14 29 := ⟨(-12), by decide +kernel, by decide, rfl⟩
theorem rX3_shortestWay_29 : tq_D cX3_shortestWay 29 (.aload_n 2) 1 30 := ⟨by decide +kernel, rfl⟩
theorem rX3_shortestWay_30 : tq_D cX3_shortestWay 30 (.iconst 0) 1 31 := ⟨by decide +kernel, rfl⟩
theorem rX3_shortestWay_31 : tq_D cX3_shortestWay 31 (.aload_n 0) 1 32 := ⟨by decide +kernel, rfl⟩
theorem rX3_shortestWay_32 : tq_D cX3_shortestWay 32 (.getfield 22) 3 35 := ⟨by decide +kernel, rfl⟩
theorem rX3_shortestWay_35 : tq_D cX3_shortestWay 35 (.aload_n 0) 1 36 := ⟨by decide +kernel, rfl⟩
theorem rX3_shortestWay_36 : tq_D cX3_shortestWay 36 (.invokevirtual 139) 3 39 := ⟨by decide +kernel, rfl⟩
theorem rX3_shortestWay_39 : tq_D cX3_shortestWay 39 (.land) 1 40 := ⟨by decide +kernel, rfl⟩
theorem rX3_shortestWay_40 : tq_D cX3_shortestWay 40 (.lastore) 1 41 := ⟨by decide +kernel, rfl⟩
theorem rX3_shortestWay_41 : tq_D cX3_shortestWay 41 (.iload_n 1) 1 42 := ⟨by decide +kernel, rfl⟩
theorem rX3_shortestWay_42 : tq_J cX3_shortestWay 42 (.ifCond .le) 57 45 := ⟨15, by decide +kernel, by decide, rfl⟩
theorem rX3_shortestWay_45 : tq_D cX3_shortestWay 45 (.aload_n 2) 1 46 := ⟨by decide +kernel, rfl⟩
theorem rX3_shortestWay_46 : tq_D cX3_shortestWay 46 (.iconst 1) 1 47 := ⟨by decide +kernel, rfl⟩
theorem rX3_shortestWay_47 : tq_D cX3_shortestWay 47 (.aload_n 0) 1 48 := ⟨by decide +kernel, rfl⟩
theorem rX3_shortestWay_48 : tq_D cX3_shortestWay 48 (.getfield 22) 3 51 := ⟨by decide +kernel, rfl⟩
theorem rX3_shortestWay_51 : tq_D cX3_shortestWay 51 (.aload_n 0) 1 52 := ⟨by decide +kernel, rfl⟩
theorem rX3_shortestWay_52 : tq_D cX3_shortestWay 52 (.invokevirtual 55) 3 55 := ⟨by decide +kernel, rfl⟩
theorem rX3_shortestWay_55 : tq_D cX3_shortestWay 55 (.land) 1 56 := ⟨by decide +kernel, rfl⟩
theorem rX3_shortestWay_56 : tq_D cX3_shortestWay 56 (.lastore) 1 57 := ⟨by decide +kernel, rfl⟩
theorem rX3_shortestWay_57 : tq_D cX3_shortestWay 57 (.iconst 1) 1 58 := ⟨by decide +kernel, rfl⟩
theorem rX3_shortestWay_58 : tq_D cX3_shortestWay 58 (.istore_n 3) 1 59 := ⟨by decide +kernel, rfl⟩
theorem rX3_shortestWay_59 : tq_D cX3_shortestWay 59 (.iload_n 3) 1 60 := ⟨by decide +kernel, rfl⟩
theorem rX3_shortestWay_60 : tq_D cX3_shortestWay 60 (.bipush 48) 2 62 := ⟨by decide +kernel, rfl⟩
theorem rX3_shortestWay_62 : tq_J cX3_shortestWay 62 (.if_icmp .gt) 144 65 := ⟨82, by decide +kernel, by decide, rfl⟩
theorem rX3_shortestWay_65 : tq_D cX3_shortestWay 65 (.aload_n 2) 1 66 := ⟨by decide +kernel, rfl⟩
theorem rX3_shortestWay_66 : tq_D cX3_shortestWay 66 (.iload_n 1) 1 67 := ⟨by decide +kernel, rfl⟩
theorem rX3_shortestWay_67 : tq_D cX3_shortestWay 67 (.laload) 1 68 := ⟨by decide +kernel, rfl⟩
theorem rX3_shortestWay_68 : tq_D cX3_shortestWay 68 (.aload_n 0) 1 69 := ⟨by decide +kernel, rfl⟩
theorem rX3_shortestWay_69 : tq_D cX3_shortestWay 69 (.getfield 25) 3 72 := ⟨by decide +kernel, rfl⟩
theorem rX3_shortestWay_72 : tq_D cX3_shortestWay 72 (.land) 1 73 := ⟨by decide +kernel, rfl⟩
theorem rX3_shortestWay_73 : tq_D cX3_shortestWay 73 (.lconst 0) 1 74 := ⟨by decide +kernel, rfl⟩
theorem rX3_shortestWay_74 : tq_D cX3_shortestWay 74 (.lcmp) 1 75 := ⟨by decide +kernel, rfl⟩
theorem rX3_shortestWay_75 : tq_J cX3_shortestWay 75 (.ifCond .eq) 80 78 := ⟨5, by decide +kernel, by decide, rfl⟩
theorem rX3_shortestWay_78 : tq_D cX3_shortestWay 78 (.iload_n 3) 1 79 := ⟨by decide +kernel, rfl⟩
theorem rX3_shortestWay_79 : decode cX3_shortestWay 79 = .ok (.ireturn, 1) := by decide +kernel
theorem rX3_shortestWay_80 : tq_D cX3_shortestWay 80 (.iload_n 1) 1 81 := ⟨by decide +kernel, rfl⟩
theorem rX3_shortestWay_81 : tq_D cX3_shortestWay 81 (.istore 4) 2 83 := ⟨by decide +kernel, rfl⟩
theorem rX3_shortestWay_83 : tq_D cX3_shortestWay 83 (.iload 4) 2 85 := ⟨by decide +kernel, rfl⟩
theorem rX3_shortestWay_85 : tq_J cX3_shortestWay 85 (.ifCond .lt) 138 88 := ⟨53, by decide +kernel, by decide, rfl⟩
theorem rX3_shortestWay_88 : tq_D cX3_shortestWay 88 (.iload 4) 2 90 := ⟨by decide +kernel, rfl⟩
theorem rX3_shortestWay_90 : tq_J cX3_shortestWay 90 (.ifCond .le) 102 93 := ⟨12, by decide +kernel, by decide, rfl⟩
theorem rX3_shortestWay_93 : tq_D cX3_shortestWay 93 (.aload_n 2) 1 94 := ⟨by decide +kernel, rfl⟩
theorem rX3_shortestWay_94 : tq_D cX3_shortestWay 94 (.iload 4) 2 96 := ⟨by decide +kernel, rfl⟩
theorem rX3_shortestWay_96 : tq_D cX3_shortestWay 96 (.iconst 1) 1 97 := ⟨by decide +kernel, rfl⟩
theorem rX3_shortestWay_97 : tq_D cX3_shortestWay 97 (.isub) 1 98 := ⟨by decide +kernel, rfl⟩
theorem rX3_shortestWay_98 : tq_D cX3_shortestWay 98 (.laload) 1 99 := ⟨by decide +kernel, rfl⟩
theorem rX3_shortestWay_99 : tq_J cX3_shortestWay 99 .goto 103 102 := ⟨4, by decide +kernel, by decide, rfl⟩
theorem rX3_shortestWay_102 : tq_D cX3_shortestWay 102 (.lconst 0) 1 103 := ⟨by decide +kernel, rfl⟩
theorem rX3_shortestWay_103 : tq_D cX3_shortestWay 103 (.lstore 5) 2 105 := ⟨by decide +kernel, rfl⟩
theorem rX3_shortestWay_105 : tq_D cX3_shortestWay 105 (.aload_n 2) 1 106 := ⟨by decide +kernel, rfl⟩
theorem rX3_shortestWay_106 : tq_D cX3_shortestWay 106 (.iload 4) 2 108 := ⟨by decide +kernel, rfl⟩
theorem rX3_shortestWay_108 : tq_D cX3_shortestWay 108 (.aload_n 2) 1 109 := ⟨by decide +kernel, rfl⟩
theorem rX3_shortestWay_109 : tq_D cX3_shortestWay 109 (.iload 4) 2 111 := ⟨by decide +kernel, rfl⟩
theorem rX3_shortestWay_111 : tq_D cX3_shortestWay 111 (.laload) 1 112 := ⟨by decide +kernel, rfl⟩
theorem rX3_shortestWay_112 : tq_D cX3_shortestWay 112 (.invokestatic 119) 3 115 := ⟨by decide +kernel, rfl⟩
theorem rX3_shortestWay_115 : tq_D cX3_shortestWay 115 (.aload_n 0) 1 116 := ⟨by decide +kernel, rfl⟩
theorem rX3_shortestWay_116 : tq_D cX3_shortestWay 116 (.invokevirtual 139) 3 119 := ⟨by decide +kernel, rfl⟩
theorem rX3_shortestWay_119 : tq_D cX3_shortestWay 119 (.land) 1 120 := ⟨by decide +kernel, rfl⟩
theorem rX3_shortestWay_120 : tq_D cX3_shortestWay 120 (.lload 5) 2 122 := ⟨by decide +kernel, rfl⟩
theorem rX3_shortestWay_122 : tq_D cX3_shortestWay 122 (.invokestatic 119) 3 125 := ⟨by decide +kernel, rfl⟩
theorem rX3_shortestWay_125 : tq_D cX3_shortestWay 125 (.aload_n 0) 1 126 := ⟨by decide +kernel, rfl⟩
theorem rX3_shortestWay_126 : tq_D cX3_shortestWay 126 (.invokevirtual 55) 3 129 := ⟨by decide +kernel, rfl⟩
theorem rX3_shortestWay_129 : tq_D cX3_shortestWay 129 (.land) 1 130 := ⟨by decide +kernel, rfl⟩
theorem rX3_shortestWay_130 : tq_D cX3_shortestWay 130 (.lor) 1 131 := ⟨by decide +kernel, rfl⟩
theorem rX3_shortestWay_131 : tq_D cX3_shortestWay 131 (.lastore) 1 132 := ⟨by decide +kernel, rfl⟩
theorem rX3_shortestWay_132 : tq_D cX3_shortestWay 132 (.iinc 4 (-1)) 3 135 := ⟨by decide +kernel, rfl⟩
theorem rX3_shortestWay_135 : tq_J cX3_shortestWay 135 .goto 83 138 := ⟨(-52), by decide +kernel, by decide, rfl⟩
theorem rX3_shortestWay_138 : tq_D cX3_shortestWay 138 (.iinc 3 1) 3 141 := ⟨by decide +kernel, rfl⟩
theorem rX3_shortestWay_141 : tq_J cX3_shortestWay 141 .goto 59 144 := ⟨(-82), by decide +kernel, by decide, rfl⟩
theorem rX3_shortestWay_144 : tq_D cX3_shortestWay 144 (.iconst (-1)) 1 145 := ⟨by decide +kernel, rfl⟩
theorem rX3_shortestWay_145 : decode cX3_shortestWay 145 = .ok (.ireturn, 1) := by decide +kernel
noncomputable def FX3_shortestWay_j10 (I : tq_PI) (L : tq_PL)  : Option (Int32 × tq_PL) :=
  some ((-1 : Int32), L)
noncomputable def FX3_shortestWay_s14 (I : tq_PI) (L : tq_PL) (a0 : Nat) (a1 : Int32) (a2 : Nat) (a3 : Int32) : Option ((Int32 × tq_PL) ⊕ (tq_PL)) :=
  (if a1 < a3 then some (.inr L) else (if 0 ≤ a3 ∧ a3 < 49 then some (.inl ((a3 + 1), (tq_up2 L a2 a3.toNatClampNeg (0 : Int64)))) else none))
noncomputable def FX3_shortestWay_j103L83 (I : tq_PI) (L : tq_PL) (a0 : Nat) (a1 : Int32) (a2 : Nat) (a3 : Int32) (a4 : Int32) (b0 : Int64) : Option ((Int32 × tq_PL) ⊕ (tq_PL)) :=
  (if 0 ≤ a4 ∧ a4 < 49 then (tq_let (FX11_nextTo I L ((L a2 a4.toNatClampNeg))) fun p15 => (tq_let (FX3_air I L a0) fun p16 => (tq_let (FX11_nextTo I L b0) fun p17 => (tq_let (FX3_stones I L a0) fun p18 => (if 0 ≤ a4 ∧ a4 < 49 then some (.inl ((a4 + (-1)), (tq_up2 L a2 a4.toNatClampNeg ((p15 &&& p16) ||| (p17 &&& p18))))) else none))))) else none)
noncomputable def FX3_shortestWay_s83 (I : tq_PI) (L : tq_PL) (a0 : Nat) (a1 : Int32) (a2 : Nat) (a3 : Int32) (a4 : Int32) : Option ((Int32 × tq_PL) ⊕ (tq_PL)) :=
  (if a4 < 0 then some (.inr L) else (if a4 ≤ 0 then (FX3_shortestWay_j103L83 I L a0 a1 a2 a3 a4 ((0 : Int64))) else (if 0 ≤ (a4 - (1 : Int32)) ∧ (a4 - (1 : Int32)) < 49 then (FX3_shortestWay_j103L83 I L a0 a1 a2 a3 a4 ((L a2 ((a4 - (1 : Int32))).toNatClampNeg))) else none)))
noncomputable def FX3_shortestWay_s59 (I : tq_PI) (L : tq_PL) (a0 : Nat) (a1 : Int32) (a2 : Nat) (a3 : Int32) : Option ((Int32 × tq_PL) ⊕ ((tq_PL) ⊕ (Int32 × tq_PL))) :=
  (if (48 : Int32) < a3 then some (.inr (.inl L)) else (if 0 ≤ a1 ∧ a1 < 49 then (if (lg_cmp ((L a2 a1.toNatClampNeg) &&& (L a0 4)) (0 : Int64)) = 0 then ((tq_it (fun p : Int32 × tq_PL => FX3_shortestWay_s83 I p.2 a0 a1 a2 a3 p.1) tq_N (a1, L)).bind fun p21 => some (.inl ((a3 + 1), p21))) else some (.inr (.inr (a3, L)))) else none))
noncomputable def FX3_shortestWay_j57 (I : tq_PI) (L : tq_PL) (a0 : Nat) (a1 : Int32) (a2 : Nat) : Option (Int32 × tq_PL) :=
  ((tq_it (fun p : Int32 × tq_PL => FX3_shortestWay_s59 I p.2 a0 a1 a2 p.1) tq_N ((1 : Int32), L)).bind fun p22 => p22.elim (fun t23 => some ((-1 : Int32), t23)) (fun t23 => some t23))
noncomputable def FX3_shortestWay (I : tq_PI) (L : tq_PL) (a0 : Nat) (a1 : Int32) (a2 : Nat) : Option (Int32 × tq_PL) :=
  (if a1 < 0 then (FX3_shortestWay_j10 I L ) else (if a1 < (49 : Int32) then ((tq_it (fun p : Int32 × tq_PL => FX3_shortestWay_s14 I p.2 a0 a1 a2 p.1) tq_N ((0 : Int32), L)).bind fun p5 => (tq_let (FX3_air I p5 a0) fun p6 => (if 0 ≤ (0 : Int32) ∧ (0 : Int32) < 49 then (if a1 ≤ 0 then (FX3_shortestWay_j57 I ((tq_up2 p5 a2 ((0 : Int32)).toNatClampNeg ((p5 a0 3) &&& p6))) a0 a1 a2) else (tq_let (FX3_stones I ((tq_up2 p5 a2 ((0 : Int32)).toNatClampNeg ((p5 a0 3) &&& p6))) a0) fun p24 => (if 0 ≤ (1 : Int32) ∧ (1 : Int32) < 49 then (FX3_shortestWay_j57 I ((tq_up2 (tq_up2 p5 a2 ((0 : Int32)).toNatClampNeg ((p5 a0 3) &&& p6)) a2 ((1 : Int32)).toNatClampNeg ((((tq_up2 p5 a2 ((0 : Int32)).toNatClampNeg ((p5 a0 3) &&& p6))) a0 3) &&& p24))) a0 a1 a2) else none))) else none))) else (FX3_shortestWay_j10 I L )))
set_option maxRecDepth 100000 in
set_option maxHeartbeats 4000000 in
theorem FX3_shortestWay_j10_x {S : Nat × (Nat → Int32)} {d : Nat} {I : tq_PI} {L : tq_PL}   {q0 : Option Value → tq_PI → tq_PL → Prop} {out : Int32 × tq_PL} (hf : FX3_shortestWay_j10 I L = some out) (hk : q0 (some (.int out.1)) I out.2) : tq_X S mX3_shortestWay (d + 3) tq_k0 10 ([tq_u, tq_u, tq_u, tq_u, tq_u, tq_u, tq_u]) ([]) (tq_st I L) (tq_Q q0) := by
  unfold FX3_shortestWay_j10 at hf
  refine tq_iconst (-1 : Int32) rX3_shortestWay_10 (by decide) ?_
  refine ty_iret rX3_shortestWay_11 rfl rfl ?_
  have hf := Option.some.inj hf
  subst hf
  exact hk

set_option maxRecDepth 100000 in
set_option maxHeartbeats 4000000 in
theorem FX3_shortestWay_s14_x {S : Nat × (Nat → Int32)} {d : Nat} {I : tq_PI} {L : tq_PL} {a0 : Nat} {a1 : Int32} {a2 : Nat} {a3 : Int32} (h0 : tq_sh0 a0 = 3) (h2 : tq_sh0 a2 = 101) (h2n : tq_ln0 a2 = 49) {q0 : Option Value → tq_PI → tq_PL → Prop} {out : (Int32 × tq_PL) ⊕ (tq_PL)} (hf : FX3_shortestWay_s14 I L a0 a1 a2 a3 = some out) (hk : Sum.elim (fun p : Int32 × tq_PL => tq_X S mX3_shortestWay (d + 3) tq_k0 14 ([.ref a0, .int a1, .ref a2, .int p.1, tq_u, tq_u, tq_u]) [] (tq_st I p.2) (tq_Q q0)) (fun p : tq_PL => tq_X S mX3_shortestWay (d + 3) tq_k0 29 ([.ref a0, .int a1, .ref a2, tq_u, tq_u, tq_u, tq_u]) [] (tq_st I p) (tq_Q q0)) out) : tq_X S mX3_shortestWay (d + 3) tq_k0 14 ([.ref a0, .int a1, .ref a2, .int a3, tq_u, tq_u, tq_u]) [] (tq_st I L) (tq_Q q0) := by
  unfold FX3_shortestWay_s14 at hf
  refine tq_iload_n rX3_shortestWay_14 rfl ?_
  refine tq_iload_n rX3_shortestWay_15 rfl ?_
  refine tq_icmp_gt rX3_shortestWay_16 (fun c3 => ?_) (fun c3 => ?_)
  · rw [if_pos c3] at hf
    have hf := Option.some.inj hf
    subst hf
    exact tq_forget _ (tq_le_s (tq_le_s (tq_le_s (tq_le_u (tq_le_u (tq_le_u (tq_le_u tq_le_n))))))) hk
  · rw [if_neg c3] at hf
    refine tq_aload_n rX3_shortestWay_19 rfl ?_
    refine tq_iload_n rX3_shortestWay_20 rfl ?_
    refine tq_lconst (0 : Int64) rX3_shortestWay_21 (by decide) ?_
    obtain ⟨g4, hf⟩ := tq_chk hf
    refine ty_last (v := 49) rX3_shortestWay_22 h2 h2n rfl (by decide) g4 ?_
    refine tq_iinc (a3 + 1) ([.ref a0, .int a1, .ref a2, .int (a3 + 1), tq_u, tq_u, tq_u]) rX3_shortestWay_23 rfl (tq_inc (by decide)) (Nat.le_of_ble_eq_true rfl) rfl ?_
    refine tq_goto rX3_shortestWay_26 ?_
    have hf := Option.some.inj hf
    subst hf
    exact tq_forget _ (tq_le_s (tq_le_s (tq_le_s (tq_le_s (tq_le_u (tq_le_u (tq_le_u tq_le_n))))))) hk

set_option maxRecDepth 100000 in
set_option maxHeartbeats 4000000 in
theorem FX3_shortestWay_j103L83_x {S : Nat × (Nat → Int32)} {d : Nat} {I : tq_PI} {L : tq_PL} {a0 : Nat} {a1 : Int32} {a2 : Nat} {a3 : Int32} {a4 : Int32} {b0 : Int64} (h0 : tq_sh0 a0 = 3) (h2 : tq_sh0 a2 = 101) (h2n : tq_ln0 a2 = 49) {q0 : Option Value → tq_PI → tq_PL → Prop} {out : (Int32 × tq_PL) ⊕ (tq_PL)} (hf : FX3_shortestWay_j103L83 I L a0 a1 a2 a3 a4 b0 = some out) (hk : Sum.elim (fun p : Int32 × tq_PL => tq_X S mX3_shortestWay (d + 3) tq_k0 83 ([.ref a0, .int a1, .ref a2, .int a3, .int p.1, tq_u, tq_u]) [] (tq_st I p.2) (tq_Q q0)) (fun p : tq_PL => tq_X S mX3_shortestWay (d + 3) tq_k0 138 ([.ref a0, .int a1, .ref a2, .int a3, tq_u, tq_u, tq_u]) [] (tq_st I p) (tq_Q q0)) out) : tq_X S mX3_shortestWay (d + 3) tq_k0 103 ([.ref a0, .int a1, .ref a2, .int a3, .int a4, tq_u, tq_u]) ([.long b0]) (tq_st I L) (tq_Q q0) := by
  unfold FX3_shortestWay_j103L83 at hf
  refine tq_lstore ([.ref a0, .int a1, .ref a2, .int a3, .int a4, .long b0, tq_u]) rX3_shortestWay_103 (Nat.le_of_ble_eq_true rfl) rfl ?_
  refine tq_aload_n rX3_shortestWay_105 rfl ?_
  refine tq_iload rX3_shortestWay_106 rfl ?_
  refine tq_aload_n rX3_shortestWay_108 rfl ?_
  refine tq_iload rX3_shortestWay_109 rfl ?_
  obtain ⟨g14, hf⟩ := tq_chk hf
  refine ty_lald (v := 49) rX3_shortestWay_111 h2 h2n rfl (by decide) g14 ?_
  obtain ⟨p15, e15, hf⟩ := tq_let_elim hf
  refine ty_callSJ p15 ([.long (L a2 a4.toNatClampNeg)]) ([.int a4, .ref a2]) rX3_shortestWay_112 l_X3_119 moX11_nextTo msX11_nextTo rfl rfl (Nat.le_of_ble_eq_true rfl) ⟨rfl, rfl⟩ (CX11_nextTo  e15) ?_
  refine tq_aload_n rX3_shortestWay_115 rfl ?_
  obtain ⟨p16, e16, hf⟩ := tq_let_elim hf
  refine ty_callVJ p16 ([]) ([.long p15, .int a4, .ref a2]) rX3_shortestWay_116 l_X3_139 moX3_air mvX3_air h0 rfl rfl (Nat.le_of_ble_eq_true rfl) ⟨rfl, rfl⟩ (CX3_air h0 e16) ?_
  refine tq_land rX3_shortestWay_119 ?_
  refine tq_lload rX3_shortestWay_120 rfl ?_
  obtain ⟨p17, e17, hf⟩ := tq_let_elim hf
  refine ty_callSJ p17 ([.long b0]) ([.long (p15 &&& p16), .int a4, .ref a2]) rX3_shortestWay_122 l_X3_119 moX11_nextTo msX11_nextTo rfl rfl (Nat.le_of_ble_eq_true rfl) ⟨rfl, rfl⟩ (CX11_nextTo  e17) ?_
  refine tq_aload_n rX3_shortestWay_125 rfl ?_
  obtain ⟨p18, e18, hf⟩ := tq_let_elim hf
  refine ty_callVJ p18 ([]) ([.long p17, .long (p15 &&& p16), .int a4, .ref a2]) rX3_shortestWay_126 l_X3_55 moX3_stones mvX3_stones h0 rfl rfl (Nat.le_of_ble_eq_true rfl) ⟨rfl, rfl⟩ (CX3_stones h0 e18) ?_
  refine tq_land rX3_shortestWay_129 ?_
  refine tq_lor rX3_shortestWay_130 ?_
  obtain ⟨g19, hf⟩ := tq_chk hf
  refine ty_last (v := 49) rX3_shortestWay_131 h2 h2n rfl (by decide) g19 ?_
  refine tq_iinc (a4 + (-1)) ([.ref a0, .int a1, .ref a2, .int a3, .int (a4 + (-1)), .long b0, tq_u]) rX3_shortestWay_132 rfl (tq_inc (by decide)) (Nat.le_of_ble_eq_true rfl) rfl ?_
  refine tq_goto rX3_shortestWay_135 ?_
  have hf := Option.some.inj hf
  subst hf
  exact tq_forget _ (tq_le_s (tq_le_s (tq_le_s (tq_le_s (tq_le_s (tq_le_u (tq_le_u tq_le_n))))))) hk

set_option maxRecDepth 100000 in
set_option maxHeartbeats 4000000 in
theorem FX3_shortestWay_s83_x {S : Nat × (Nat → Int32)} {d : Nat} {I : tq_PI} {L : tq_PL} {a0 : Nat} {a1 : Int32} {a2 : Nat} {a3 : Int32} {a4 : Int32} (h0 : tq_sh0 a0 = 3) (h2 : tq_sh0 a2 = 101) (h2n : tq_ln0 a2 = 49) {q0 : Option Value → tq_PI → tq_PL → Prop} {out : (Int32 × tq_PL) ⊕ (tq_PL)} (hf : FX3_shortestWay_s83 I L a0 a1 a2 a3 a4 = some out) (hk : Sum.elim (fun p : Int32 × tq_PL => tq_X S mX3_shortestWay (d + 3) tq_k0 83 ([.ref a0, .int a1, .ref a2, .int a3, .int p.1, tq_u, tq_u]) [] (tq_st I p.2) (tq_Q q0)) (fun p : tq_PL => tq_X S mX3_shortestWay (d + 3) tq_k0 138 ([.ref a0, .int a1, .ref a2, .int a3, tq_u, tq_u, tq_u]) [] (tq_st I p) (tq_Q q0)) out) : tq_X S mX3_shortestWay (d + 3) tq_k0 83 ([.ref a0, .int a1, .ref a2, .int a3, .int a4, tq_u, tq_u]) [] (tq_st I L) (tq_Q q0) := by
  unfold FX3_shortestWay_s83 at hf
  refine tq_iload rX3_shortestWay_83 rfl ?_
  refine tq_if_lt rX3_shortestWay_85 (fun c12 => ?_) (fun c12 => ?_)
  · rw [if_pos c12] at hf
    have hf := Option.some.inj hf
    subst hf
    exact tq_forget _ (tq_le_s (tq_le_s (tq_le_s (tq_le_s (tq_le_u (tq_le_u (tq_le_u tq_le_n))))))) hk
  · rw [if_neg c12] at hf
    refine tq_iload rX3_shortestWay_88 rfl ?_
    refine tq_if_le rX3_shortestWay_90 (fun c13 => ?_) (fun c13 => ?_)
    · rw [if_pos c13] at hf
      refine tq_lconst (0 : Int64) rX3_shortestWay_102 (by decide) ?_
      exact tq_forget _ (tq_le_s (tq_le_s (tq_le_s (tq_le_s (tq_le_s (tq_le_u (tq_le_u tq_le_n))))))) (FX3_shortestWay_j103L83_x  h0 h2 h2n hf hk)
    · rw [if_neg c13] at hf
      refine tq_aload_n rX3_shortestWay_93 rfl ?_
      refine tq_iload rX3_shortestWay_94 rfl ?_
      refine tq_iconst (1 : Int32) rX3_shortestWay_96 (by decide) ?_
      refine tq_isub rX3_shortestWay_97 ?_
      obtain ⟨g20, hf⟩ := tq_chk hf
      refine ty_lald (v := 49) rX3_shortestWay_98 h2 h2n rfl (by decide) g20 ?_
      refine tq_goto rX3_shortestWay_99 ?_
      exact tq_forget _ (tq_le_s (tq_le_s (tq_le_s (tq_le_s (tq_le_s (tq_le_u (tq_le_u tq_le_n))))))) (FX3_shortestWay_j103L83_x  h0 h2 h2n hf hk)

set_option maxRecDepth 100000 in
set_option maxHeartbeats 4000000 in
theorem FX3_shortestWay_s59_x {S : Nat × (Nat → Int32)} {d : Nat} {I : tq_PI} {L : tq_PL} {a0 : Nat} {a1 : Int32} {a2 : Nat} {a3 : Int32} (h0 : tq_sh0 a0 = 3) (h2 : tq_sh0 a2 = 101) (h2n : tq_ln0 a2 = 49) {q0 : Option Value → tq_PI → tq_PL → Prop} {out : (Int32 × tq_PL) ⊕ ((tq_PL) ⊕ (Int32 × tq_PL))} (hf : FX3_shortestWay_s59 I L a0 a1 a2 a3 = some out) (hk : Sum.elim (fun p : Int32 × tq_PL => tq_X S mX3_shortestWay (d + 3) tq_k0 59 ([.ref a0, .int a1, .ref a2, .int p.1, tq_u, tq_u, tq_u]) [] (tq_st I p.2) (tq_Q q0)) (Sum.elim (fun p : tq_PL => tq_X S mX3_shortestWay (d + 3) tq_k0 144 ([tq_u, tq_u, tq_u, tq_u, tq_u, tq_u, tq_u]) [] (tq_st I p) (tq_Q q0)) (fun p : Int32 × tq_PL => q0 (some (.int p.1)) I p.2)) out) : tq_X S mX3_shortestWay (d + 3) tq_k0 59 ([.ref a0, .int a1, .ref a2, .int a3, tq_u, tq_u, tq_u]) [] (tq_st I L) (tq_Q q0) := by
  unfold FX3_shortestWay_s59 at hf
  refine tq_iload_n rX3_shortestWay_59 rfl ?_
  refine tq_bipush (48 : Int32) rX3_shortestWay_60 (by decide) ?_
  refine tq_icmp_gt rX3_shortestWay_62 (fun c9 => ?_) (fun c9 => ?_)
  · rw [if_pos c9] at hf
    have hf := Option.some.inj hf
    subst hf
    exact tq_forget _ (tq_le_u (tq_le_u (tq_le_u (tq_le_u (tq_le_u (tq_le_u (tq_le_u tq_le_n))))))) hk
  · rw [if_neg c9] at hf
    refine tq_aload_n rX3_shortestWay_65 rfl ?_
    refine tq_iload_n rX3_shortestWay_66 rfl ?_
    obtain ⟨g10, hf⟩ := tq_chk hf
    refine ty_lald (v := 49) rX3_shortestWay_67 h2 h2n rfl (by decide) g10 ?_
    refine tq_aload_n rX3_shortestWay_68 rfl ?_
    refine ty_getL rX3_shortestWay_69 f_X3_25 rfl h0 ?_
    refine tq_land rX3_shortestWay_72 ?_
    refine tq_lconst (0 : Int64) rX3_shortestWay_73 (by decide) ?_
    refine tq_lcmp rX3_shortestWay_74 ?_
    refine tq_if_eq rX3_shortestWay_75 (fun c11 => ?_) (fun c11 => ?_)
    · rw [if_pos c11] at hf
      refine tq_iload_n rX3_shortestWay_80 rfl ?_
      refine tq_istore ([.ref a0, .int a1, .ref a2, .int a3, .int a1, tq_u, tq_u]) rX3_shortestWay_81 (Nat.le_of_ble_eq_true rfl) rfl ?_
      obtain ⟨p21, e21, hf⟩ := Option.bind_eq_some_iff.mp hf
      refine tq_forget _ (tq_le_s (tq_le_s (tq_le_s (tq_le_s (tq_le_s (tq_le_u (tq_le_u tq_le_n))))))) ?_
      refine tq_it_elim (P := fun p : Int32 × tq_PL => tq_X S mX3_shortestWay (d + 3) tq_k0 83 ([.ref a0, .int a1, .ref a2, .int a3, .int p.1, tq_u, tq_u]) [] (tq_st I p.2) (tq_Q q0)) (R := fun p : tq_PL => tq_X S mX3_shortestWay (d + 3) tq_k0 138 ([.ref a0, .int a1, .ref a2, .int a3, tq_u, tq_u, tq_u]) [] (tq_st I p) (tq_Q q0)) (fun p o hp hk => FX3_shortestWay_s83_x  h0 h2 h2n hp hk) _ ((a1, L)) _ e21 ?_
      show tq_X _ _ _ _ _ _ _ _ _
      refine tq_iinc (a3 + 1) ([.ref a0, .int a1, .ref a2, .int (a3 + 1), tq_u, tq_u, tq_u]) rX3_shortestWay_138 rfl (tq_inc (by decide)) (Nat.le_of_ble_eq_true rfl) rfl ?_
      refine tq_goto rX3_shortestWay_141 ?_
      have hf := Option.some.inj hf
      subst hf
      exact tq_forget _ (tq_le_s (tq_le_s (tq_le_s (tq_le_s (tq_le_u (tq_le_u (tq_le_u tq_le_n))))))) hk
    · rw [if_neg c11] at hf
      refine tq_iload_n rX3_shortestWay_78 rfl ?_
      refine ty_iret rX3_shortestWay_79 rfl rfl ?_
      have hf := Option.some.inj hf
      subst hf
      exact hk

set_option maxRecDepth 100000 in
set_option maxHeartbeats 4000000 in
theorem FX3_shortestWay_j57_x {S : Nat × (Nat → Int32)} {d : Nat} {I : tq_PI} {L : tq_PL} {a0 : Nat} {a1 : Int32} {a2 : Nat} (h0 : tq_sh0 a0 = 3) (h2 : tq_sh0 a2 = 101) (h2n : tq_ln0 a2 = 49) {q0 : Option Value → tq_PI → tq_PL → Prop} {out : Int32 × tq_PL} (hf : FX3_shortestWay_j57 I L a0 a1 a2 = some out) (hk : q0 (some (.int out.1)) I out.2) : tq_X S mX3_shortestWay (d + 3) tq_k0 57 ([.ref a0, .int a1, .ref a2, tq_u, tq_u, tq_u, tq_u]) ([]) (tq_st I L) (tq_Q q0) := by
  unfold FX3_shortestWay_j57 at hf
  refine tq_iconst (1 : Int32) rX3_shortestWay_57 (by decide) ?_
  refine tq_istore_n ([.ref a0, .int a1, .ref a2, .int (1 : Int32), tq_u, tq_u, tq_u]) rX3_shortestWay_58 (Nat.le_of_ble_eq_true rfl) rfl ?_
  obtain ⟨p22, e22, hf⟩ := Option.bind_eq_some_iff.mp hf
  refine tq_forget _ (tq_le_s (tq_le_s (tq_le_s (tq_le_s (tq_le_u (tq_le_u (tq_le_u tq_le_n))))))) ?_
  refine tq_it_elim (P := fun p : Int32 × tq_PL => tq_X S mX3_shortestWay (d + 3) tq_k0 59 ([.ref a0, .int a1, .ref a2, .int p.1, tq_u, tq_u, tq_u]) [] (tq_st I p.2) (tq_Q q0)) (R := Sum.elim (fun p : tq_PL => tq_X S mX3_shortestWay (d + 3) tq_k0 144 ([tq_u, tq_u, tq_u, tq_u, tq_u, tq_u, tq_u]) [] (tq_st I p) (tq_Q q0)) (fun p : Int32 × tq_PL => q0 (some (.int p.1)) I p.2)) (fun p o hp hk => FX3_shortestWay_s59_x  h0 h2 h2n hp hk) _ (((1 : Int32), L)) _ e22 ?_
  rcases tq_selim hf with ⟨t23, t23q, hf⟩ | ⟨t23, t23q, hf⟩
  · rw [t23q]
    show tq_X _ _ _ _ _ _ _ _ _
    refine tq_iconst (-1 : Int32) rX3_shortestWay_144 (by decide) ?_
    refine ty_iret rX3_shortestWay_145 rfl rfl ?_
    have hf := Option.some.inj hf
    subst hf
    exact hk
  · rw [t23q]
    have hf := Option.some.inj hf
    subst hf
    exact hk

set_option maxRecDepth 100000 in
set_option maxHeartbeats 4000000 in
theorem CX3_shortestWay {S : Nat × (Nat → Int32)} {d : Nat} {I : tq_PI} {L : tq_PL} {a0 : Nat} {a1 : Int32} {a2 : Nat} (h0 : tq_sh0 a0 = 3) (h2 : tq_sh0 a2 = 101) (h2n : tq_ln0 a2 = 49) {out : Int32 × tq_PL} (hf : FX3_shortestWay I L a0 a1 a2 = some out) : tq_K S mX3_shortestWay (d + 3) [.ref a0, .int a1, .ref a2] I L (tq_one2 (some (.int out.1)) I out.2) := by
  unfold FX3_shortestWay at hf
  refine tq_K_of (by decide) (Nat.le_of_ble_eq_true rfl) (ls := [.ref a0, .int a1, .ref a2, tq_u, tq_u, tq_u, tq_u]) rfl ?_
  refine tq_iload_n rX3_shortestWay_0 rfl ?_
  refine tq_if_lt rX3_shortestWay_1 (fun c1 => ?_) (fun c1 => ?_)
  · rw [if_pos c1] at hf
    exact tq_forget _ (tq_le_u (tq_le_u (tq_le_u (tq_le_u (tq_le_u (tq_le_u (tq_le_u tq_le_n))))))) (FX3_shortestWay_j10_x   hf ⟨rfl, rfl, rfl⟩)
  · rw [if_neg c1] at hf
    refine tq_iload_n rX3_shortestWay_4 rfl ?_
    refine tq_aload_n rX3_shortestWay_5 rfl ?_
    refine ty_alen (v := 49) rX3_shortestWay_6 h2 (by decide) h2n rfl ?_
    refine tq_icmp_lt rX3_shortestWay_7 (fun c2 => ?_) (fun c2 => ?_)
    · rw [if_pos c2] at hf
      refine tq_iconst (0 : Int32) rX3_shortestWay_12 (by decide) ?_
      refine tq_istore_n ([.ref a0, .int a1, .ref a2, .int (0 : Int32), tq_u, tq_u, tq_u]) rX3_shortestWay_13 (Nat.le_of_ble_eq_true rfl) rfl ?_
      obtain ⟨p5, e5, hf⟩ := Option.bind_eq_some_iff.mp hf
      refine tq_forget _ (tq_le_s (tq_le_s (tq_le_s (tq_le_s (tq_le_u (tq_le_u (tq_le_u tq_le_n))))))) ?_
      refine tq_it_elim (P := fun p : Int32 × tq_PL => tq_X S mX3_shortestWay (d + 3) tq_k0 14 ([.ref a0, .int a1, .ref a2, .int p.1, tq_u, tq_u, tq_u]) [] (tq_st I p.2) (tq_Q (tq_one2 (some (.int out.1)) I out.2))) (R := fun p : tq_PL => tq_X S mX3_shortestWay (d + 3) tq_k0 29 ([.ref a0, .int a1, .ref a2, tq_u, tq_u, tq_u, tq_u]) [] (tq_st I p) (tq_Q (tq_one2 (some (.int out.1)) I out.2))) (fun p o hp hk => FX3_shortestWay_s14_x  h0 h2 h2n hp hk) _ (((0 : Int32), L)) _ e5 ?_
      show tq_X _ _ _ _ _ _ _ _ _
      refine tq_aload_n rX3_shortestWay_29 rfl ?_
      refine tq_iconst (0 : Int32) rX3_shortestWay_30 (by decide) ?_
      refine tq_aload_n rX3_shortestWay_31 rfl ?_
      refine ty_getL rX3_shortestWay_32 f_X3_22 rfl h0 ?_
      refine tq_aload_n rX3_shortestWay_35 rfl ?_
      obtain ⟨p6, e6, hf⟩ := tq_let_elim hf
      refine ty_callVJ p6 ([]) ([.long (p5 a0 3), .int (0 : Int32), .ref a2]) rX3_shortestWay_36 l_X3_139 moX3_air mvX3_air h0 rfl rfl (Nat.le_of_ble_eq_true rfl) ⟨rfl, rfl⟩ (CX3_air h0 e6) ?_
      refine tq_land rX3_shortestWay_39 ?_
      obtain ⟨g7, hf⟩ := tq_chk hf
      refine ty_last (v := 49) rX3_shortestWay_40 h2 h2n rfl (by decide) g7 ?_
      refine tq_iload_n rX3_shortestWay_41 rfl ?_
      refine tq_if_le rX3_shortestWay_42 (fun c8 => ?_) (fun c8 => ?_)
      · rw [if_pos c8] at hf
        exact tq_forget _ (tq_le_s (tq_le_s (tq_le_s (tq_le_u (tq_le_u (tq_le_u (tq_le_u tq_le_n))))))) (FX3_shortestWay_j57_x  h0 h2 h2n hf ⟨rfl, rfl, rfl⟩)
      · rw [if_neg c8] at hf
        refine tq_aload_n rX3_shortestWay_45 rfl ?_
        refine tq_iconst (1 : Int32) rX3_shortestWay_46 (by decide) ?_
        refine tq_aload_n rX3_shortestWay_47 rfl ?_
        refine ty_getL rX3_shortestWay_48 f_X3_22 rfl h0 ?_
        refine tq_aload_n rX3_shortestWay_51 rfl ?_
        obtain ⟨p24, e24, hf⟩ := tq_let_elim hf
        refine ty_callVJ p24 ([]) ([.long (((tq_up2 p5 a2 ((0 : Int32)).toNatClampNeg ((p5 a0 3) &&& p6))) a0 3), .int (1 : Int32), .ref a2]) rX3_shortestWay_52 l_X3_55 moX3_stones mvX3_stones h0 rfl rfl (Nat.le_of_ble_eq_true rfl) ⟨rfl, rfl⟩ (CX3_stones h0 e24) ?_
        refine tq_land rX3_shortestWay_55 ?_
        obtain ⟨g25, hf⟩ := tq_chk hf
        refine ty_last (v := 49) rX3_shortestWay_56 h2 h2n rfl (by decide) g25 ?_
        exact tq_forget _ (tq_le_s (tq_le_s (tq_le_s (tq_le_u (tq_le_u (tq_le_u (tq_le_u tq_le_n))))))) (FX3_shortestWay_j57_x  h0 h2 h2n hf ⟨rfl, rfl, rfl⟩)
    · rw [if_neg c2] at hf
      exact tq_forget _ (tq_le_u (tq_le_u (tq_le_u (tq_le_u (tq_le_u (tq_le_u (tq_le_u tq_le_n))))))) (FX3_shortestWay_j10_x   hf ⟨rfl, rfl, rfl⟩)

abbrev mX3_sooner : tq_M := (yX3_sooner, cX3_sooner, 14, (Option.some Jvm.ClassFile.FieldType.long), 0, 0)
theorem rX3_sooner_0 : tq_D cX3_sooner 0 (.iload_n 1) 1 1 := ⟨by decide +kernel, rfl⟩
theorem rX3_sooner_1 : tq_J cX3_sooner 1 (.ifCond .ne) 8 4 := ⟨7, by decide +kernel, by decide, rfl⟩
theorem rX3_sooner_4 : tq_D cX3_sooner 4 (.iconst 1) 1 5 := ⟨by decide +kernel, rfl⟩
theorem rX3_sooner_5 : tq_J cX3_sooner 5 .goto 9 8 := ⟨4, by decide +kernel, by decide, rfl⟩
theorem rX3_sooner_8 : tq_D cX3_sooner 8 (.iconst 0) 1 9 := ⟨by decide +kernel, rfl⟩
theorem rX3_sooner_9 : tq_D cX3_sooner 9 (.istore_n 2) 1 10 := ⟨by decide +kernel, rfl⟩
theorem rX3_sooner_10 : tq_D cX3_sooner 10 (.aload_n 0) 1 11 := ⟨by decide +kernel, rfl⟩
theorem rX3_sooner_11 : tq_D cX3_sooner 11 (.iload_n 1) 1 12 := ⟨by decide +kernel, rfl⟩
theorem rX3_sooner_12 : tq_D cX3_sooner 12 (.aload_n 0) 1 13 := ⟨by decide +kernel, rfl⟩
theorem rX3_sooner_13 : tq_D cX3_sooner 13 (.invokevirtual 59) 3 16 := ⟨by decide +kernel, rfl⟩
theorem rX3_sooner_16 : tq_D cX3_sooner 16 (.invokevirtual 115) 3 19 := ⟨by decide +kernel, rfl⟩
theorem rX3_sooner_19 : tq_D cX3_sooner 19 (.lstore_n 3) 1 20 := ⟨by decide +kernel, rfl⟩
theorem rX3_sooner_20 : tq_D cX3_sooner 20 (.aload_n 0) 1 21 := ⟨by decide +kernel, rfl⟩
theorem rX3_sooner_21 : tq_D cX3_sooner 21 (.iload_n 2) 1 22 := ⟨by decide +kernel, rfl⟩
theorem rX3_sooner_22 : tq_D cX3_sooner 22 (.aload_n 0) 1 23 := ⟨by decide +kernel, rfl⟩
theorem rX3_sooner_23 : tq_D cX3_sooner 23 (.invokevirtual 59) 3 26 := ⟨by decide +kernel, rfl⟩
theorem rX3_sooner_26 : tq_D cX3_sooner 26 (.invokevirtual 115) 3 29 := ⟨by decide +kernel, rfl⟩
theorem rX3_sooner_29 : tq_D cX3_sooner 29 (.lstore 5) 2 31 := ⟨by decide +kernel, rfl⟩
theorem rX3_sooner_31 : tq_D cX3_sooner 31 (.lconst 0) 1 32 := ⟨by decide +kernel, rfl⟩
theorem rX3_sooner_32 : tq_D cX3_sooner 32 (.lstore 7) 2 34 := ⟨by decide +kernel, rfl⟩
theorem rX3_sooner_34 : tq_D cX3_sooner 34 (.iconst 0) 1 35 := ⟨by decide +kernel, rfl⟩
theorem rX3_sooner_35 : tq_D cX3_sooner 35 (.istore 9) 2 37 := ⟨by decide +kernel, rfl⟩
theorem rX3_sooner_37 : tq_D cX3_sooner 37 (.iload 9) 2 39 := ⟨by decide +kernel, rfl⟩
theorem rX3_sooner_39 : tq_D cX3_sooner 39 (.bipush 48) 2 41 := ⟨by decide +kernel, rfl⟩
theorem rX3_sooner_41 : tq_J cX3_sooner 41 (.if_icmp .gt) 118 44 := ⟨77, by decide +kernel, by decide, rfl⟩
theorem rX3_sooner_44 : tq_D cX3_sooner 44 (.lload 7) 2 46 := ⟨by decide +kernel, rfl⟩
theorem rX3_sooner_46 : tq_D cX3_sooner 46 (.lload_n 3) 1 47 := ⟨by decide +kernel, rfl⟩
theorem rX3_sooner_47 : tq_D cX3_sooner 47 (.lload 5) 2 49 := ⟨by decide +kernel, rfl⟩
theorem rX3_sooner_49 : tq_D cX3_sooner 49 (.ldc2_w 49) 3 52 := ⟨by decide +kernel, rfl⟩
theorem rX3_sooner_52 : tq_D cX3_sooner 52 (.lxor) 1 53 := ⟨by decide +kernel, rfl⟩
theorem rX3_sooner_53 : tq_D cX3_sooner 53 (.land) 1 54 := ⟨by decide +kernel, rfl⟩
theorem rX3_sooner_54 : tq_D cX3_sooner 54 (.aload_n 0) 1 55 := ⟨by decide +kernel, rfl⟩
theorem rX3_sooner_55 : tq_D cX3_sooner 55 (.invokevirtual 55) 3 58 := ⟨by decide +kernel, rfl⟩
theorem rX3_sooner_58 : tq_D cX3_sooner 58 (.land) 1 59 := ⟨by decide +kernel, rfl⟩
theorem rX3_sooner_59 : tq_D cX3_sooner 59 (.lor) 1 60 := ⟨by decide +kernel, rfl⟩
theorem rX3_sooner_60 : tq_D cX3_sooner 60 (.lstore 7) 2 62 := ⟨by decide +kernel, rfl⟩
theorem rX3_sooner_62 : tq_D cX3_sooner 62 (.aload_n 0) 1 63 := ⟨by decide +kernel, rfl⟩
theorem rX3_sooner_63 : tq_D cX3_sooner 63 (.iload_n 1) 1 64 := ⟨by decide +kernel, rfl⟩
theorem rX3_sooner_64 : tq_D cX3_sooner 64 (.lload_n 3) 1 65 := ⟨by decide +kernel, rfl⟩
theorem rX3_sooner_65 : tq_D cX3_sooner 65 (.aload_n 0) 1 66 := ⟨by decide +kernel, rfl⟩
theorem rX3_sooner_66 : tq_D cX3_sooner 66 (.invokevirtual 59) 3 69 := ⟨by decide +kernel, rfl⟩
theorem rX3_sooner_69 : tq_D cX3_sooner 69 (.invokevirtual 131) 3 72 := ⟨by decide +kernel, rfl⟩
theorem rX3_sooner_72 : tq_D cX3_sooner 72 (.lstore 10) 2 74 := ⟨by decide +kernel, rfl⟩
theorem rX3_sooner_74 : tq_D cX3_sooner 74 (.aload_n 0) 1 75 := ⟨by decide +kernel, rfl⟩
theorem rX3_sooner_75 : tq_D cX3_sooner 75 (.iload_n 2) 1 76 := ⟨by decide +kernel, rfl⟩
theorem rX3_sooner_76 : tq_D cX3_sooner 76 (.lload 5) 2 78 := ⟨by decide +kernel, rfl⟩
theorem rX3_sooner_78 : tq_D cX3_sooner 78 (.aload_n 0) 1 79 := ⟨by decide +kernel, rfl⟩
theorem rX3_sooner_79 : tq_D cX3_sooner 79 (.invokevirtual 59) 3 82 := ⟨by decide +kernel, rfl⟩
theorem rX3_sooner_82 : tq_D cX3_sooner 82 (.invokevirtual 131) 3 85 := ⟨by decide +kernel, rfl⟩
theorem rX3_sooner_85 : tq_D cX3_sooner 85 (.lstore 12) 2 87 := ⟨by decide +kernel, rfl⟩
theorem rX3_sooner_87 : tq_D cX3_sooner 87 (.lload 10) 2 89 := ⟨by decide +kernel, rfl⟩
theorem rX3_sooner_89 : tq_D cX3_sooner 89 (.lload_n 3) 1 90 := ⟨by decide +kernel, rfl⟩
theorem rX3_sooner_90 : tq_D cX3_sooner 90 (.lcmp) 1 91 := ⟨by decide +kernel, rfl⟩
theorem rX3_sooner_91 : tq_J cX3_sooner 91 (.ifCond .ne) 105 94 := ⟨14, by decide +kernel, by decide, rfl⟩
theorem rX3_sooner_94 : tq_D cX3_sooner 94 (.lload 12) 2 96 := ⟨by decide +kernel, rfl⟩
theorem rX3_sooner_96 : tq_D cX3_sooner 96 (.lload 5) 2 98 := ⟨by decide +kernel, rfl⟩
theorem rX3_sooner_98 : tq_D cX3_sooner 98 (.lcmp) 1 99 := ⟨by decide +kernel, rfl⟩
theorem rX3_sooner_99 : tq_J cX3_sooner 99 (.ifCond .ne) 105 102 := ⟨6, by decide +kernel, by decide, rfl⟩
theorem rX3_sooner_102 : tq_J cX3_sooner 102 .goto 118 105 := ⟨16, by decide +kernel, by decide, rfl⟩
theorem rX3_sooner_105 : tq_D cX3_sooner 105 (.lload 10) 2 107 := ⟨by decide +kernel, rfl⟩
theorem rX3_sooner_107 : tq_D cX3_sooner 107 (.lstore_n 3) 1 108 := ⟨by decide +kernel, rfl⟩
theorem rX3_sooner_108 : tq_D cX3_sooner 108 (.lload 12) 2 110 := ⟨by decide +kernel, rfl⟩
theorem rX3_sooner_110 : tq_D cX3_sooner 110 (.lstore 5) 2 112 := ⟨by decide +kernel, rfl⟩
theorem rX3_sooner_112 : tq_D cX3_sooner 112 (.iinc 9 1) 3 115 := ⟨by decide +kernel, rfl⟩
theorem rX3_sooner_115 : tq_J cX3_sooner 115 .goto 37 118 := ⟨(-78), by decide +kernel, by decide, rfl⟩
theorem rX3_sooner_118 : tq_D cX3_sooner 118 (.lload 7) 2 120 := ⟨by decide +kernel, rfl⟩
theorem rX3_sooner_120 : decode cX3_sooner 120 = .ok (.lreturn, 1) := by decide +kernel
noncomputable def FX3_sooner_j105L37 (I : tq_PI) (L : tq_PL) (a0 : Nat) (a1 : Int32) (a2 : Int32) (a7 : Int64) (a9 : Int32) (a10 : Int64) (a12 : Int64) : Option ((Int64 × Int64 × Int64 × Int32) ⊕ (Int64)) :=
  some (.inl (a10, a12, a7, (a9 + 1)))
noncomputable def FX3_sooner_s37 (I : tq_PI) (L : tq_PL) (a0 : Nat) (a1 : Int32) (a2 : Int32) (a3 : Int64) (a5 : Int64) (a7 : Int64) (a9 : Int32) : Option ((Int64 × Int64 × Int64 × Int32) ⊕ (Int64)) :=
  (if (48 : Int32) < a9 then some (.inr a7) else (tq_let (FX3_stones I L a0) fun p7 => (tq_let (FX3_solid I L a0) fun p8 => ((FX3_nextLayer I L a0 a1 a3 p8).bind fun p9 => (tq_let (FX3_solid I L a0) fun p10 => ((FX3_nextLayer I L a0 a2 a5 p10).bind fun p11 => (if (lg_cmp p9 a3) = 0 then (if (lg_cmp p11 a5) = 0 then some (.inr (a7 ||| ((a3 &&& (a5 ^^^ (-1 : Int64))) &&& p7))) else (FX3_sooner_j105L37 I L a0 a1 a2 ((a7 ||| ((a3 &&& (a5 ^^^ (-1 : Int64))) &&& p7))) a9 p9 p11)) else (FX3_sooner_j105L37 I L a0 a1 a2 ((a7 ||| ((a3 &&& (a5 ^^^ (-1 : Int64))) &&& p7))) a9 p9 p11))))))))
noncomputable def FX3_sooner_j9 (I : tq_PI) (L : tq_PL) (a0 : Nat) (a1 : Int32) (b0 : Int32) : Option (Int64) :=
  (tq_let (FX3_solid I L a0) fun p2 => ((FX3_reached I L a0 a1 p2).bind fun p3 => (tq_let (FX3_solid I L a0) fun p4 => ((FX3_reached I L a0 b0 p4).bind fun p5 => ((tq_it (fun p : Int64 × Int64 × Int64 × Int32 => FX3_sooner_s37 I L a0 a1 b0 p.1 p.2.1 p.2.2.1 p.2.2.2) tq_N (p3, p5, (0 : Int64), (0 : Int32))).bind fun p14 => some p14)))))
noncomputable def FX3_sooner (I : tq_PI) (L : tq_PL) (a0 : Nat) (a1 : Int32) : Option (Int64) :=
  (if a1 = 0 then (FX3_sooner_j9 I L a0 a1 ((1 : Int32))) else (FX3_sooner_j9 I L a0 a1 ((0 : Int32))))
set_option maxRecDepth 100000 in
set_option maxHeartbeats 4000000 in
theorem FX3_sooner_j105L37_x {S : Nat × (Nat → Int32)} {d : Nat} {I : tq_PI} {L : tq_PL} {a0 : Nat} {a1 : Int32} {a2 : Int32} {a7 : Int64} {a9 : Int32} {a10 : Int64} {a12 : Int64} (h0 : tq_sh0 a0 = 3) {q0 : Option Value → tq_PI → tq_PL → Prop} {out : (Int64 × Int64 × Int64 × Int32) ⊕ (Int64)} (hf : FX3_sooner_j105L37 I L a0 a1 a2 a7 a9 a10 a12 = some out) (hk : Sum.elim (fun p : Int64 × Int64 × Int64 × Int32 => tq_X S mX3_sooner (d + 3) tq_k0 37 ([.ref a0, .int a1, .int a2, .long p.1, tq_u, .long p.2.1, tq_u, .long p.2.2.1, tq_u, .int p.2.2.2, tq_u, tq_u, tq_u, tq_u]) [] (tq_st I L) (tq_Q q0)) (fun p : Int64 => tq_X S mX3_sooner (d + 3) tq_k0 118 ([tq_u, tq_u, tq_u, tq_u, tq_u, tq_u, tq_u, .long p, tq_u, tq_u, tq_u, tq_u, tq_u, tq_u]) [] (tq_st I L) (tq_Q q0)) out) : tq_X S mX3_sooner (d + 3) tq_k0 105 ([.ref a0, .int a1, .int a2, tq_u, tq_u, tq_u, tq_u, .long a7, tq_u, .int a9, .long a10, tq_u, .long a12, tq_u]) ([]) (tq_st I L) (tq_Q q0) := by
  unfold FX3_sooner_j105L37 at hf
  refine tq_lload rX3_sooner_105 rfl ?_
  refine tq_lstore_n ([.ref a0, .int a1, .int a2, .long a10, tq_u, tq_u, tq_u, .long a7, tq_u, .int a9, .long a10, tq_u, .long a12, tq_u]) rX3_sooner_107 (Nat.le_of_ble_eq_true rfl) rfl ?_
  refine tq_lload rX3_sooner_108 rfl ?_
  refine tq_lstore ([.ref a0, .int a1, .int a2, .long a10, tq_u, .long a12, tq_u, .long a7, tq_u, .int a9, .long a10, tq_u, .long a12, tq_u]) rX3_sooner_110 (Nat.le_of_ble_eq_true rfl) rfl ?_
  refine tq_iinc (a9 + 1) ([.ref a0, .int a1, .int a2, .long a10, tq_u, .long a12, tq_u, .long a7, tq_u, .int (a9 + 1), .long a10, tq_u, .long a12, tq_u]) rX3_sooner_112 rfl (tq_inc (by decide)) (Nat.le_of_ble_eq_true rfl) rfl ?_
  refine tq_goto rX3_sooner_115 ?_
  have hf := Option.some.inj hf
  subst hf
  exact tq_forget _ (tq_le_s (tq_le_s (tq_le_s (tq_le_s (tq_le_u (tq_le_s (tq_le_u (tq_le_s (tq_le_u (tq_le_s (tq_le_u (tq_le_u (tq_le_u (tq_le_u tq_le_n)))))))))))))) hk

set_option maxRecDepth 100000 in
set_option maxHeartbeats 4000000 in
theorem FX3_sooner_s37_x {S : Nat × (Nat → Int32)} {d : Nat} {I : tq_PI} {L : tq_PL} {a0 : Nat} {a1 : Int32} {a2 : Int32} {a3 : Int64} {a5 : Int64} {a7 : Int64} {a9 : Int32} (h0 : tq_sh0 a0 = 3) {q0 : Option Value → tq_PI → tq_PL → Prop} {out : (Int64 × Int64 × Int64 × Int32) ⊕ (Int64)} (hf : FX3_sooner_s37 I L a0 a1 a2 a3 a5 a7 a9 = some out) (hk : Sum.elim (fun p : Int64 × Int64 × Int64 × Int32 => tq_X S mX3_sooner (d + 3) tq_k0 37 ([.ref a0, .int a1, .int a2, .long p.1, tq_u, .long p.2.1, tq_u, .long p.2.2.1, tq_u, .int p.2.2.2, tq_u, tq_u, tq_u, tq_u]) [] (tq_st I L) (tq_Q q0)) (fun p : Int64 => tq_X S mX3_sooner (d + 3) tq_k0 118 ([tq_u, tq_u, tq_u, tq_u, tq_u, tq_u, tq_u, .long p, tq_u, tq_u, tq_u, tq_u, tq_u, tq_u]) [] (tq_st I L) (tq_Q q0)) out) : tq_X S mX3_sooner (d + 3) tq_k0 37 ([.ref a0, .int a1, .int a2, .long a3, tq_u, .long a5, tq_u, .long a7, tq_u, .int a9, tq_u, tq_u, tq_u, tq_u]) [] (tq_st I L) (tq_Q q0) := by
  unfold FX3_sooner_s37 at hf
  refine tq_iload rX3_sooner_37 rfl ?_
  refine tq_bipush (48 : Int32) rX3_sooner_39 (by decide) ?_
  refine tq_icmp_gt rX3_sooner_41 (fun c6 => ?_) (fun c6 => ?_)
  · rw [if_pos c6] at hf
    have hf := Option.some.inj hf
    subst hf
    exact tq_forget _ (tq_le_u (tq_le_u (tq_le_u (tq_le_u (tq_le_u (tq_le_u (tq_le_u (tq_le_s (tq_le_u (tq_le_u (tq_le_u (tq_le_u (tq_le_u (tq_le_u tq_le_n)))))))))))))) hk
  · rw [if_neg c6] at hf
    refine tq_lload rX3_sooner_44 rfl ?_
    refine tq_lload_n rX3_sooner_46 rfl ?_
    refine tq_lload rX3_sooner_47 rfl ?_
    refine tq_ldc2 rX3_sooner_49 (k_X3_49) ?_
    refine tq_lxor rX3_sooner_52 ?_
    refine tq_land rX3_sooner_53 ?_
    refine tq_aload_n rX3_sooner_54 rfl ?_
    obtain ⟨p7, e7, hf⟩ := tq_let_elim hf
    refine ty_callVJ p7 ([]) ([.long (a3 &&& (a5 ^^^ (-1 : Int64))), .long a7]) rX3_sooner_55 l_X3_55 moX3_stones mvX3_stones h0 rfl rfl (Nat.le_of_ble_eq_true rfl) ⟨rfl, rfl⟩ (CX3_stones h0 e7) ?_
    refine tq_land rX3_sooner_58 ?_
    refine tq_lor rX3_sooner_59 ?_
    refine tq_lstore ([.ref a0, .int a1, .int a2, .long a3, tq_u, .long a5, tq_u, .long (a7 ||| ((a3 &&& (a5 ^^^ (-1 : Int64))) &&& p7)), tq_u, .int a9, tq_u, tq_u, tq_u, tq_u]) rX3_sooner_60 (Nat.le_of_ble_eq_true rfl) rfl ?_
    refine tq_aload_n rX3_sooner_62 rfl ?_
    refine tq_iload_n rX3_sooner_63 rfl ?_
    refine tq_lload_n rX3_sooner_64 rfl ?_
    refine tq_aload_n rX3_sooner_65 rfl ?_
    obtain ⟨p8, e8, hf⟩ := tq_let_elim hf
    refine ty_callVJ p8 ([]) ([.long a3, .int a1, .ref a0]) rX3_sooner_66 l_X3_59 moX3_solid mvX3_solid h0 rfl rfl (Nat.le_of_ble_eq_true rfl) ⟨rfl, rfl⟩ (CX3_solid h0 e8) ?_
    obtain ⟨p9, e9, hf⟩ := Option.bind_eq_some_iff.mp hf
    refine ty_callVJ p9 ([.int a1, .long a3, .long p8]) ([]) rX3_sooner_69 l_X3_131 moX3_nextLayer mvX3_nextLayer h0 rfl rfl (Nat.le_of_ble_eq_true rfl) ⟨rfl, rfl⟩ (CX3_nextLayer h0 e9) ?_
    refine tq_lstore ([.ref a0, .int a1, .int a2, .long a3, tq_u, .long a5, tq_u, .long (a7 ||| ((a3 &&& (a5 ^^^ (-1 : Int64))) &&& p7)), tq_u, .int a9, .long p9, tq_u, tq_u, tq_u]) rX3_sooner_72 (Nat.le_of_ble_eq_true rfl) rfl ?_
    refine tq_aload_n rX3_sooner_74 rfl ?_
    refine tq_iload_n rX3_sooner_75 rfl ?_
    refine tq_lload rX3_sooner_76 rfl ?_
    refine tq_aload_n rX3_sooner_78 rfl ?_
    obtain ⟨p10, e10, hf⟩ := tq_let_elim hf
    refine ty_callVJ p10 ([]) ([.long a5, .int a2, .ref a0]) rX3_sooner_79 l_X3_59 moX3_solid mvX3_solid h0 rfl rfl (Nat.le_of_ble_eq_true rfl) ⟨rfl, rfl⟩ (CX3_solid h0 e10) ?_
    obtain ⟨p11, e11, hf⟩ := Option.bind_eq_some_iff.mp hf
    refine ty_callVJ p11 ([.int a2, .long a5, .long p10]) ([]) rX3_sooner_82 l_X3_131 moX3_nextLayer mvX3_nextLayer h0 rfl rfl (Nat.le_of_ble_eq_true rfl) ⟨rfl, rfl⟩ (CX3_nextLayer h0 e11) ?_
    refine tq_lstore ([.ref a0, .int a1, .int a2, .long a3, tq_u, .long a5, tq_u, .long (a7 ||| ((a3 &&& (a5 ^^^ (-1 : Int64))) &&& p7)), tq_u, .int a9, .long p9, tq_u, .long p11, tq_u]) rX3_sooner_85 (Nat.le_of_ble_eq_true rfl) rfl ?_
    refine tq_lload rX3_sooner_87 rfl ?_
    refine tq_lload_n rX3_sooner_89 rfl ?_
    refine tq_lcmp rX3_sooner_90 ?_
    refine tq_if_ne rX3_sooner_91 (fun c12 => ?_) (fun c12 => ?_)
    · rw [if_neg c12] at hf
      exact tq_forget _ (tq_le_s (tq_le_s (tq_le_s (tq_le_u (tq_le_u (tq_le_u (tq_le_u (tq_le_s (tq_le_u (tq_le_s (tq_le_s (tq_le_u (tq_le_s (tq_le_u tq_le_n)))))))))))))) (FX3_sooner_j105L37_x  h0 hf hk)
    · rw [if_pos c12] at hf
      refine tq_lload rX3_sooner_94 rfl ?_
      refine tq_lload rX3_sooner_96 rfl ?_
      refine tq_lcmp rX3_sooner_98 ?_
      refine tq_if_ne rX3_sooner_99 (fun c13 => ?_) (fun c13 => ?_)
      · rw [if_neg c13] at hf
        exact tq_forget _ (tq_le_s (tq_le_s (tq_le_s (tq_le_u (tq_le_u (tq_le_u (tq_le_u (tq_le_s (tq_le_u (tq_le_s (tq_le_s (tq_le_u (tq_le_s (tq_le_u tq_le_n)))))))))))))) (FX3_sooner_j105L37_x  h0 hf hk)
      · rw [if_pos c13] at hf
        refine tq_goto rX3_sooner_102 ?_
        have hf := Option.some.inj hf
        subst hf
        exact tq_forget _ (tq_le_u (tq_le_u (tq_le_u (tq_le_u (tq_le_u (tq_le_u (tq_le_u (tq_le_s (tq_le_u (tq_le_u (tq_le_u (tq_le_u (tq_le_u (tq_le_u tq_le_n)))))))))))))) hk

set_option maxRecDepth 100000 in
set_option maxHeartbeats 4000000 in
theorem FX3_sooner_j9_x {S : Nat × (Nat → Int32)} {d : Nat} {I : tq_PI} {L : tq_PL} {a0 : Nat} {a1 : Int32} {b0 : Int32} (h0 : tq_sh0 a0 = 3) {q0 : Option Value → tq_PI → tq_PL → Prop} {out : Int64} (hf : FX3_sooner_j9 I L a0 a1 b0 = some out) (hk : q0 (some (.long out)) I L) : tq_X S mX3_sooner (d + 3) tq_k0 9 ([.ref a0, .int a1, tq_u, tq_u, tq_u, tq_u, tq_u, tq_u, tq_u, tq_u, tq_u, tq_u, tq_u, tq_u]) ([.int b0]) (tq_st I L) (tq_Q q0) := by
  unfold FX3_sooner_j9 at hf
  refine tq_istore_n ([.ref a0, .int a1, .int b0, tq_u, tq_u, tq_u, tq_u, tq_u, tq_u, tq_u, tq_u, tq_u, tq_u, tq_u]) rX3_sooner_9 (Nat.le_of_ble_eq_true rfl) rfl ?_
  refine tq_aload_n rX3_sooner_10 rfl ?_
  refine tq_iload_n rX3_sooner_11 rfl ?_
  refine tq_aload_n rX3_sooner_12 rfl ?_
  obtain ⟨p2, e2, hf⟩ := tq_let_elim hf
  refine ty_callVJ p2 ([]) ([.int a1, .ref a0]) rX3_sooner_13 l_X3_59 moX3_solid mvX3_solid h0 rfl rfl (Nat.le_of_ble_eq_true rfl) ⟨rfl, rfl⟩ (CX3_solid h0 e2) ?_
  obtain ⟨p3, e3, hf⟩ := Option.bind_eq_some_iff.mp hf
  refine ty_callVJ p3 ([.int a1, .long p2]) ([]) rX3_sooner_16 l_X3_115 moX3_reached mvX3_reached h0 rfl rfl (Nat.le_of_ble_eq_true rfl) ⟨rfl, rfl⟩ (CX3_reached h0 e3) ?_
  refine tq_lstore_n ([.ref a0, .int a1, .int b0, .long p3, tq_u, tq_u, tq_u, tq_u, tq_u, tq_u, tq_u, tq_u, tq_u, tq_u]) rX3_sooner_19 (Nat.le_of_ble_eq_true rfl) rfl ?_
  refine tq_aload_n rX3_sooner_20 rfl ?_
  refine tq_iload_n rX3_sooner_21 rfl ?_
  refine tq_aload_n rX3_sooner_22 rfl ?_
  obtain ⟨p4, e4, hf⟩ := tq_let_elim hf
  refine ty_callVJ p4 ([]) ([.int b0, .ref a0]) rX3_sooner_23 l_X3_59 moX3_solid mvX3_solid h0 rfl rfl (Nat.le_of_ble_eq_true rfl) ⟨rfl, rfl⟩ (CX3_solid h0 e4) ?_
  obtain ⟨p5, e5, hf⟩ := Option.bind_eq_some_iff.mp hf
  refine ty_callVJ p5 ([.int b0, .long p4]) ([]) rX3_sooner_26 l_X3_115 moX3_reached mvX3_reached h0 rfl rfl (Nat.le_of_ble_eq_true rfl) ⟨rfl, rfl⟩ (CX3_reached h0 e5) ?_
  refine tq_lstore ([.ref a0, .int a1, .int b0, .long p3, tq_u, .long p5, tq_u, tq_u, tq_u, tq_u, tq_u, tq_u, tq_u, tq_u]) rX3_sooner_29 (Nat.le_of_ble_eq_true rfl) rfl ?_
  refine tq_lconst (0 : Int64) rX3_sooner_31 (by decide) ?_
  refine tq_lstore ([.ref a0, .int a1, .int b0, .long p3, tq_u, .long p5, tq_u, .long (0 : Int64), tq_u, tq_u, tq_u, tq_u, tq_u, tq_u]) rX3_sooner_32 (Nat.le_of_ble_eq_true rfl) rfl ?_
  refine tq_iconst (0 : Int32) rX3_sooner_34 (by decide) ?_
  refine tq_istore ([.ref a0, .int a1, .int b0, .long p3, tq_u, .long p5, tq_u, .long (0 : Int64), tq_u, .int (0 : Int32), tq_u, tq_u, tq_u, tq_u]) rX3_sooner_35 (Nat.le_of_ble_eq_true rfl) rfl ?_
  obtain ⟨p14, e14, hf⟩ := Option.bind_eq_some_iff.mp hf
  refine tq_forget _ (tq_le_s (tq_le_s (tq_le_s (tq_le_s (tq_le_u (tq_le_s (tq_le_u (tq_le_s (tq_le_u (tq_le_s (tq_le_u (tq_le_u (tq_le_u (tq_le_u tq_le_n)))))))))))))) ?_
  refine tq_it_elim (P := fun p : Int64 × Int64 × Int64 × Int32 => tq_X S mX3_sooner (d + 3) tq_k0 37 ([.ref a0, .int a1, .int b0, .long p.1, tq_u, .long p.2.1, tq_u, .long p.2.2.1, tq_u, .int p.2.2.2, tq_u, tq_u, tq_u, tq_u]) [] (tq_st I L) (tq_Q q0)) (R := fun p : Int64 => tq_X S mX3_sooner (d + 3) tq_k0 118 ([tq_u, tq_u, tq_u, tq_u, tq_u, tq_u, tq_u, .long p, tq_u, tq_u, tq_u, tq_u, tq_u, tq_u]) [] (tq_st I L) (tq_Q q0)) (fun p o hp hk => FX3_sooner_s37_x  h0 hp hk) _ ((p3, p5, (0 : Int64), (0 : Int32))) _ e14 ?_
  show tq_X _ _ _ _ _ _ _ _ _
  refine tq_lload rX3_sooner_118 rfl ?_
  refine ty_lret rX3_sooner_120 rfl rfl ?_
  have hf := Option.some.inj hf
  subst hf
  exact hk

set_option maxRecDepth 100000 in
set_option maxHeartbeats 4000000 in
theorem CX3_sooner {S : Nat × (Nat → Int32)} {d : Nat} {I : tq_PI} {L : tq_PL} {a0 : Nat} {a1 : Int32} (h0 : tq_sh0 a0 = 3) {out : Int64} (hf : FX3_sooner I L a0 a1 = some out) : tq_K S mX3_sooner (d + 3) [.ref a0, .int a1] I L (tq_one2 (some (.long out)) I L) := by
  unfold FX3_sooner at hf
  refine tq_K_of (by decide) (Nat.le_of_ble_eq_true rfl) (ls := [.ref a0, .int a1, tq_u, tq_u, tq_u, tq_u, tq_u, tq_u, tq_u, tq_u, tq_u, tq_u, tq_u, tq_u]) rfl ?_
  refine tq_iload_n rX3_sooner_0 rfl ?_
  refine tq_if_ne rX3_sooner_1 (fun c1 => ?_) (fun c1 => ?_)
  · rw [if_neg c1] at hf
    refine tq_iconst (0 : Int32) rX3_sooner_8 (by decide) ?_
    exact tq_forget _ (tq_le_s (tq_le_s (tq_le_u (tq_le_u (tq_le_u (tq_le_u (tq_le_u (tq_le_u (tq_le_u (tq_le_u (tq_le_u (tq_le_u (tq_le_u (tq_le_u tq_le_n)))))))))))))) (FX3_sooner_j9_x  h0 hf ⟨rfl, rfl, rfl⟩)
  · rw [if_pos c1] at hf
    refine tq_iconst (1 : Int32) rX3_sooner_4 (by decide) ?_
    refine tq_goto rX3_sooner_5 ?_
    exact tq_forget _ (tq_le_s (tq_le_s (tq_le_u (tq_le_u (tq_le_u (tq_le_u (tq_le_u (tq_le_u (tq_le_u (tq_le_u (tq_le_u (tq_le_u (tq_le_u (tq_le_u tq_le_n)))))))))))))) (FX3_sooner_j9_x  h0 hf ⟨rfl, rfl, rfl⟩)

abbrev mX3_steadyCuts : tq_M := (yX3_steadyCuts, cX3_steadyCuts, 7, (Option.some Jvm.ClassFile.FieldType.long), 0, 0)
theorem moX3_safeFor : tq_mok mX3_safeFor 2 := ⟨tq_sg1 _ (List.mem_of_getElem? (i := 3) rfl), tq_sg4 _ (List.mem_of_getElem? (i := 123) rfl), ⟨by decide, by decide, by decide +kernel⟩, by decide⟩
theorem mvX3_safeFor : 3 < 13 ∧ (tq_cl 3).1 = mX3_safeFor.1.cls ∧ Cond.instanceMethod mX3_safeFor.1 ∈ lw_tbl ∧ Cond.selects mX3_safeFor.1.cls mX3_safeFor.1 mX3_safeFor.1 ∈ lw_tbl := ⟨by decide, rfl, tq_sg4 _ (List.mem_of_getElem? (i := 121) rfl), tq_sg4 _ (List.mem_of_getElem? (i := 122) rfl)⟩
theorem l_X3_142 : tq_lok RX3 142 mX3_safeFor.1 := Or.inl (tq_sg5 _ (List.mem_of_getElem? (i := 200) rfl))
theorem rX3_steadyCuts_0 : tq_D cX3_steadyCuts 0 (.aload_n 0) 1 1 := ⟨by decide +kernel, rfl⟩
theorem rX3_steadyCuts_1 : tq_D cX3_steadyCuts 1 (.invokevirtual 59) 3 4 := ⟨by decide +kernel, rfl⟩
theorem rX3_steadyCuts_4 : tq_D cX3_steadyCuts 4 (.lstore_n 2) 1 5 := ⟨by decide +kernel, rfl⟩
theorem rX3_steadyCuts_5 : tq_D cX3_steadyCuts 5 (.iconst 0) 1 6 := ⟨by decide +kernel, rfl⟩
theorem rX3_steadyCuts_6 : tq_D cX3_steadyCuts 6 (.istore 4) 2 8 := ⟨by decide +kernel, rfl⟩
theorem rX3_steadyCuts_8 : tq_D cX3_steadyCuts 8 (.iload 4) 2 10 := ⟨by decide +kernel, rfl⟩
theorem rX3_steadyCuts_10 : tq_D cX3_steadyCuts 10 (.bipush 48) 2 12 := ⟨by decide +kernel, rfl⟩
theorem rX3_steadyCuts_12 : tq_J cX3_steadyCuts 12 (.if_icmp .ge) 51 15 := ⟨39, by decide +kernel, by decide, rfl⟩
theorem rX3_steadyCuts_15 : tq_D cX3_steadyCuts 15 (.aload_n 0) 1 16 := ⟨by decide +kernel, rfl⟩
theorem rX3_steadyCuts_16 : tq_D cX3_steadyCuts 16 (.iload_n 1) 1 17 := ⟨by decide +kernel, rfl⟩
theorem rX3_steadyCuts_17 : tq_D cX3_steadyCuts 17 (.lload_n 2) 1 18 := ⟨by decide +kernel, rfl⟩
theorem rX3_steadyCuts_18 : tq_D cX3_steadyCuts 18 (.invokevirtual 142) 3 21 := ⟨by decide +kernel, rfl⟩
theorem rX3_steadyCuts_21 : tq_D cX3_steadyCuts 21 (.invokestatic 76) 3 24 := ⟨by decide +kernel, rfl⟩
theorem rX3_steadyCuts_24 : tq_D cX3_steadyCuts 24 (.lstore 5) 2 26 := ⟨by decide +kernel, rfl⟩
theorem rX3_steadyCuts_26 : tq_D cX3_steadyCuts 26 (.lload 5) 2 28 := ⟨by decide +kernel, rfl⟩
theorem rX3_steadyCuts_28 : tq_D cX3_steadyCuts 28 (.lconst 0) 1 29 := ⟨by decide +kernel, rfl⟩
theorem rX3_steadyCuts_29 : tq_D cX3_steadyCuts 29 (.lcmp) 1 30 := ⟨by decide +kernel, rfl⟩
theorem rX3_steadyCuts_30 : tq_J cX3_steadyCuts 30 (.ifCond .ne) 36 33 := ⟨6, by decide +kernel, by decide, rfl⟩
theorem rX3_steadyCuts_33 : tq_J cX3_steadyCuts 33 .goto 51 36 := ⟨18, by decide +kernel, by decide, rfl⟩
theorem rX3_steadyCuts_36 : tq_D cX3_steadyCuts 36 (.lload_n 2) 1 37 := ⟨by decide +kernel, rfl⟩
theorem rX3_steadyCuts_37 : tq_D cX3_steadyCuts 37 (.lload 5) 2 39 := ⟨by decide +kernel, rfl⟩
theorem rX3_steadyCuts_39 : tq_D cX3_steadyCuts 39 (.ldc2_w 49) 3 42 := ⟨by decide +kernel, rfl⟩
theorem rX3_steadyCuts_42 : tq_D cX3_steadyCuts 42 (.lxor) 1 43 := ⟨by decide +kernel, rfl⟩
theorem rX3_steadyCuts_43 : tq_D cX3_steadyCuts 43 (.land) 1 44 := ⟨by decide +kernel, rfl⟩
theorem rX3_steadyCuts_44 : tq_D cX3_steadyCuts 44 (.lstore_n 2) 1 45 := ⟨by decide +kernel, rfl⟩
theorem rX3_steadyCuts_45 : tq_D cX3_steadyCuts 45 (.iinc 4 1) 3 48 := ⟨by decide +kernel, rfl⟩
theorem rX3_steadyCuts_48 : tq_J cX3_steadyCuts 48 .goto 8 51 := ⟨(-40), by decide +kernel, by decide, rfl⟩
theorem rX3_steadyCuts_51 : tq_D cX3_steadyCuts 51 (.aload_n 0) 1 52 := ⟨by decide +kernel, rfl⟩
theorem rX3_steadyCuts_52 : tq_D cX3_steadyCuts 52 (.invokevirtual 59) 3 55 := ⟨by decide +kernel, rfl⟩
theorem rX3_steadyCuts_55 : tq_D cX3_steadyCuts 55 (.lload_n 2) 1 56 := ⟨by decide +kernel, rfl⟩
theorem rX3_steadyCuts_56 : tq_D cX3_steadyCuts 56 (.ldc2_w 49) 3 59 := ⟨by decide +kernel, rfl⟩
theorem rX3_steadyCuts_59 : tq_D cX3_steadyCuts 59 (.lxor) 1 60 := ⟨by decide +kernel, rfl⟩
theorem rX3_steadyCuts_60 : tq_D cX3_steadyCuts 60 (.land) 1 61 := ⟨by decide +kernel, rfl⟩
theorem rX3_steadyCuts_61 : decode cX3_steadyCuts 61 = .ok (.lreturn, 1) := by decide +kernel
noncomputable def FX3_steadyCuts_s8 (I : tq_PI) (L : tq_PL) (a0 : Nat) (a1 : Int32) (a2 : Int64) (a4 : Int32) : Option ((Int64 × Int32) ⊕ (Int64)) :=
  (if (48 : Int32) ≤ a4 then some (.inr a2) else ((FX3_safeFor I L a0 a1 a2).bind fun p3 => (tq_let (FX11_lowest I L p3) fun p4 => (if (lg_cmp p4 (0 : Int64)) = 0 then some (.inr a2) else some (.inl ((a2 &&& (p4 ^^^ (-1 : Int64))), (a4 + 1)))))))
noncomputable def FX3_steadyCuts (I : tq_PI) (L : tq_PL) (a0 : Nat) (a1 : Int32) : Option (Int64) :=
  (tq_let (FX3_solid I L a0) fun p1 => ((tq_it (fun p : Int64 × Int32 => FX3_steadyCuts_s8 I L a0 a1 p.1 p.2) tq_N (p1, (0 : Int32))).bind fun p6 => (tq_let (FX3_solid I L a0) fun p7 => some (p7 &&& (p6 ^^^ (-1 : Int64))))))
set_option maxRecDepth 100000 in
set_option maxHeartbeats 4000000 in
theorem FX3_steadyCuts_s8_x {S : Nat × (Nat → Int32)} {d : Nat} {I : tq_PI} {L : tq_PL} {a0 : Nat} {a1 : Int32} {a2 : Int64} {a4 : Int32} (h0 : tq_sh0 a0 = 3) {q0 : Option Value → tq_PI → tq_PL → Prop} {out : (Int64 × Int32) ⊕ (Int64)} (hf : FX3_steadyCuts_s8 I L a0 a1 a2 a4 = some out) (hk : Sum.elim (fun p : Int64 × Int32 => tq_X S mX3_steadyCuts (d + 4) tq_k0 8 ([.ref a0, .int a1, .long p.1, tq_u, .int p.2, tq_u, tq_u]) [] (tq_st I L) (tq_Q q0)) (fun p : Int64 => tq_X S mX3_steadyCuts (d + 4) tq_k0 51 ([.ref a0, tq_u, .long p, tq_u, tq_u, tq_u, tq_u]) [] (tq_st I L) (tq_Q q0)) out) : tq_X S mX3_steadyCuts (d + 4) tq_k0 8 ([.ref a0, .int a1, .long a2, tq_u, .int a4, tq_u, tq_u]) [] (tq_st I L) (tq_Q q0) := by
  unfold FX3_steadyCuts_s8 at hf
  refine tq_iload rX3_steadyCuts_8 rfl ?_
  refine tq_bipush (48 : Int32) rX3_steadyCuts_10 (by decide) ?_
  refine tq_icmp_ge rX3_steadyCuts_12 (fun c2 => ?_) (fun c2 => ?_)
  · rw [if_pos c2] at hf
    have hf := Option.some.inj hf
    subst hf
    exact tq_forget _ (tq_le_s (tq_le_u (tq_le_s (tq_le_u (tq_le_u (tq_le_u (tq_le_u tq_le_n))))))) hk
  · rw [if_neg c2] at hf
    refine tq_aload_n rX3_steadyCuts_15 rfl ?_
    refine tq_iload_n rX3_steadyCuts_16 rfl ?_
    refine tq_lload_n rX3_steadyCuts_17 rfl ?_
    obtain ⟨p3, e3, hf⟩ := Option.bind_eq_some_iff.mp hf
    refine ty_callVJ p3 ([.int a1, .long a2]) ([]) rX3_steadyCuts_18 l_X3_142 moX3_safeFor mvX3_safeFor h0 rfl rfl (Nat.le_of_ble_eq_true rfl) ⟨rfl, rfl⟩ (CX3_safeFor h0 e3) ?_
    obtain ⟨p4, e4, hf⟩ := tq_let_elim hf
    refine ty_callSJ p4 ([.long p3]) ([]) rX3_steadyCuts_21 l_X3_76 moX11_lowest msX11_lowest rfl rfl (Nat.le_of_ble_eq_true rfl) ⟨rfl, rfl⟩ (CX11_lowest  e4) ?_
    refine tq_lstore ([.ref a0, .int a1, .long a2, tq_u, .int a4, .long p4, tq_u]) rX3_steadyCuts_24 (Nat.le_of_ble_eq_true rfl) rfl ?_
    refine tq_lload rX3_steadyCuts_26 rfl ?_
    refine tq_lconst (0 : Int64) rX3_steadyCuts_28 (by decide) ?_
    refine tq_lcmp rX3_steadyCuts_29 ?_
    refine tq_if_ne rX3_steadyCuts_30 (fun c5 => ?_) (fun c5 => ?_)
    · rw [if_neg c5] at hf
      refine tq_lload_n rX3_steadyCuts_36 rfl ?_
      refine tq_lload rX3_steadyCuts_37 rfl ?_
      refine tq_ldc2 rX3_steadyCuts_39 (k_X3_49) ?_
      refine tq_lxor rX3_steadyCuts_42 ?_
      refine tq_land rX3_steadyCuts_43 ?_
      refine tq_lstore_n ([.ref a0, .int a1, .long (a2 &&& (p4 ^^^ (-1 : Int64))), tq_u, .int a4, .long p4, tq_u]) rX3_steadyCuts_44 (Nat.le_of_ble_eq_true rfl) rfl ?_
      refine tq_iinc (a4 + 1) ([.ref a0, .int a1, .long (a2 &&& (p4 ^^^ (-1 : Int64))), tq_u, .int (a4 + 1), .long p4, tq_u]) rX3_steadyCuts_45 rfl (tq_inc (by decide)) (Nat.le_of_ble_eq_true rfl) rfl ?_
      refine tq_goto rX3_steadyCuts_48 ?_
      have hf := Option.some.inj hf
      subst hf
      exact tq_forget _ (tq_le_s (tq_le_s (tq_le_s (tq_le_u (tq_le_s (tq_le_u (tq_le_u tq_le_n))))))) hk
    · rw [if_pos c5] at hf
      refine tq_goto rX3_steadyCuts_33 ?_
      have hf := Option.some.inj hf
      subst hf
      exact tq_forget _ (tq_le_s (tq_le_u (tq_le_s (tq_le_u (tq_le_u (tq_le_u (tq_le_u tq_le_n))))))) hk

set_option maxRecDepth 100000 in
set_option maxHeartbeats 4000000 in
theorem CX3_steadyCuts {S : Nat × (Nat → Int32)} {d : Nat} {I : tq_PI} {L : tq_PL} {a0 : Nat} {a1 : Int32} (h0 : tq_sh0 a0 = 3) {out : Int64} (hf : FX3_steadyCuts I L a0 a1 = some out) : tq_K S mX3_steadyCuts (d + 4) [.ref a0, .int a1] I L (tq_one2 (some (.long out)) I L) := by
  unfold FX3_steadyCuts at hf
  refine tq_K_of (by decide) (Nat.le_of_ble_eq_true rfl) (ls := [.ref a0, .int a1, tq_u, tq_u, tq_u, tq_u, tq_u]) rfl ?_
  refine tq_aload_n rX3_steadyCuts_0 rfl ?_
  obtain ⟨p1, e1, hf⟩ := tq_let_elim hf
  refine ty_callVJ p1 ([]) ([]) rX3_steadyCuts_1 l_X3_59 moX3_solid mvX3_solid h0 rfl rfl (Nat.le_of_ble_eq_true rfl) ⟨rfl, rfl⟩ (CX3_solid h0 e1) ?_
  refine tq_lstore_n ([.ref a0, .int a1, .long p1, tq_u, tq_u, tq_u, tq_u]) rX3_steadyCuts_4 (Nat.le_of_ble_eq_true rfl) rfl ?_
  refine tq_iconst (0 : Int32) rX3_steadyCuts_5 (by decide) ?_
  refine tq_istore ([.ref a0, .int a1, .long p1, tq_u, .int (0 : Int32), tq_u, tq_u]) rX3_steadyCuts_6 (Nat.le_of_ble_eq_true rfl) rfl ?_
  obtain ⟨p6, e6, hf⟩ := Option.bind_eq_some_iff.mp hf
  refine tq_forget _ (tq_le_s (tq_le_s (tq_le_s (tq_le_u (tq_le_s (tq_le_u (tq_le_u tq_le_n))))))) ?_
  refine tq_it_elim (P := fun p : Int64 × Int32 => tq_X S mX3_steadyCuts (d + 4) tq_k0 8 ([.ref a0, .int a1, .long p.1, tq_u, .int p.2, tq_u, tq_u]) [] (tq_st I L) (tq_Q (tq_one2 (some (.long out)) I L))) (R := fun p : Int64 => tq_X S mX3_steadyCuts (d + 4) tq_k0 51 ([.ref a0, tq_u, .long p, tq_u, tq_u, tq_u, tq_u]) [] (tq_st I L) (tq_Q (tq_one2 (some (.long out)) I L))) (fun p o hp hk => FX3_steadyCuts_s8_x  h0 hp hk) _ ((p1, (0 : Int32))) _ e6 ?_
  show tq_X _ _ _ _ _ _ _ _ _
  refine tq_aload_n rX3_steadyCuts_51 rfl ?_
  obtain ⟨p7, e7, hf⟩ := tq_let_elim hf
  refine ty_callVJ p7 ([]) ([]) rX3_steadyCuts_52 l_X3_59 moX3_solid mvX3_solid h0 rfl rfl (Nat.le_of_ble_eq_true rfl) ⟨rfl, rfl⟩ (CX3_solid h0 e7) ?_
  refine tq_lload_n rX3_steadyCuts_55 rfl ?_
  refine tq_ldc2 rX3_steadyCuts_56 (k_X3_49) ?_
  refine tq_lxor rX3_steadyCuts_59 ?_
  refine tq_land rX3_steadyCuts_60 ?_
  refine ty_lret rX3_steadyCuts_61 rfl rfl ?_
  have hf := Option.some.inj hf
  subst hf
  exact ⟨rfl, rfl, rfl⟩

abbrev mX3_worthAhead : tq_M := (yX3_worthAhead, cX3_worthAhead, 4, (Option.some Jvm.ClassFile.FieldType.int), 0, 0)
theorem moX3_worthOf : tq_mok mX3_worthOf 1 := ⟨tq_sg1 _ (List.mem_of_getElem? (i := 3) rfl), tq_sg3 _ (List.mem_of_getElem? (i := 200) rfl), ⟨by decide, by decide, by decide +kernel⟩, by decide⟩
theorem mvX3_worthOf : 3 < 13 ∧ (tq_cl 3).1 = mX3_worthOf.1.cls ∧ Cond.instanceMethod mX3_worthOf.1 ∈ lw_tbl ∧ Cond.selects mX3_worthOf.1.cls mX3_worthOf.1 mX3_worthOf.1 ∈ lw_tbl := ⟨by decide, rfl, tq_sg3 _ (List.mem_of_getElem? (i := 198) rfl), tq_sg3 _ (List.mem_of_getElem? (i := 199) rfl)⟩
theorem l_X3_145 : tq_lok RX3 145 mX3_worthOf.1 := Or.inl (tq_sg4 _ (List.mem_of_getElem? (i := 215) rfl))
theorem rX3_worthAhead_0 : tq_D cX3_worthAhead 0 (.iconst 0) 1 1 := ⟨by decide +kernel, rfl⟩
theorem rX3_worthAhead_1 : tq_D cX3_worthAhead 1 (.istore_n 2) 1 2 := ⟨by decide +kernel, rfl⟩
theorem rX3_worthAhead_2 : tq_D cX3_worthAhead 2 (.iconst 0) 1 3 := ⟨by decide +kernel, rfl⟩
theorem rX3_worthAhead_3 : tq_D cX3_worthAhead 3 (.istore_n 3) 1 4 := ⟨by decide +kernel, rfl⟩
theorem rX3_worthAhead_4 : tq_D cX3_worthAhead 4 (.iload_n 3) 1 5 := ⟨by decide +kernel, rfl⟩
theorem rX3_worthAhead_5 : tq_D cX3_worthAhead 5 (.aload_n 0) 1 6 := ⟨by decide +kernel, rfl⟩
theorem rX3_worthAhead_6 : tq_D cX3_worthAhead 6 (.getfield 15) 3 9 := ⟨by decide +kernel, rfl⟩
theorem rX3_worthAhead_9 : tq_J cX3_worthAhead 9 (.if_icmp .ge) 35 12 := ⟨26, by decide +kernel, by decide, rfl⟩
theorem rX3_worthAhead_12 : tq_D cX3_worthAhead 12 (.iload_n 2) 1 13 := ⟨by decide +kernel, rfl⟩
theorem rX3_worthAhead_13 : tq_D cX3_worthAhead 13 (.aload_n 0) 1 14 := ⟨by decide +kernel, rfl⟩
theorem rX3_worthAhead_14 : tq_D cX3_worthAhead 14 (.lconst 1) 1 15 := ⟨by decide +kernel, rfl⟩
theorem rX3_worthAhead_15 : tq_D cX3_worthAhead 15 (.iload_n 1) 1 16 := ⟨by decide +kernel, rfl⟩
theorem rX3_worthAhead_16 : tq_D cX3_worthAhead 16 (.lshl) 1 17 := ⟨by decide +kernel, rfl⟩
theorem rX3_worthAhead_17 : tq_D cX3_worthAhead 17 (.lconst 1) 1 18 := ⟨by decide +kernel, rfl⟩
theorem rX3_worthAhead_18 : tq_D cX3_worthAhead 18 (.lsub) 1 19 := ⟨by decide +kernel, rfl⟩
theorem rX3_worthAhead_19 : tq_D cX3_worthAhead 19 (.bipush 8) 2 21 := ⟨by decide +kernel, rfl⟩
theorem rX3_worthAhead_21 : tq_D cX3_worthAhead 21 (.iload_n 3) 1 22 := ⟨by decide +kernel, rfl⟩
theorem rX3_worthAhead_22 : tq_D cX3_worthAhead 22 (.imul) 1 23 := ⟨by decide +kernel, rfl⟩
theorem rX3_worthAhead_23 : tq_D cX3_worthAhead 23 (.lshl) 1 24 := ⟨by decide +kernel, rfl⟩
theorem rX3_worthAhead_24 : tq_D cX3_worthAhead 24 (.invokevirtual 145) 3 27 := ⟨by decide +kernel, rfl⟩
theorem rX3_worthAhead_27 : tq_D cX3_worthAhead 27 (.iadd) 1 28 := ⟨by decide +kernel, rfl⟩
theorem rX3_worthAhead_28 : tq_D cX3_worthAhead 28 (.istore_n 2) 1 29 := ⟨by decide +kernel, rfl⟩
theorem rX3_worthAhead_29 : tq_D cX3_worthAhead 29 (.iinc 3 1) 3 32 := ⟨by decide +kernel, rfl⟩
theorem rX3_worthAhead_32 : tq_J cX3_worthAhead 32 .goto 4 35 := ⟨(-28), by decide +kernel, by decide, rfl⟩
theorem rX3_worthAhead_35 : tq_D cX3_worthAhead 35 (.iload_n 2) 1 36 := ⟨by decide +kernel, rfl⟩
theorem rX3_worthAhead_36 : decode cX3_worthAhead 36 = .ok (.ireturn, 1) := by decide +kernel
noncomputable def FX3_worthAhead_s4 (I : tq_PI) (L : tq_PL) (a0 : Nat) (a1 : Int32) (a2 : Int32) (a3 : Int32) : Option ((Int32 × Int32) ⊕ (Int32)) :=
  (if (I a0 1) ≤ a3 then some (.inr a2) else (tq_let (FX3_worthOf I L a0 (((((1 : Int64) <<< (Int32.toInt64 a1 &&& 63)) - (1 : Int64)) <<< (Int32.toInt64 ((8 : Int32) * a3) &&& 63)))) fun p2 => some (.inl ((a2 + p2), (a3 + 1)))))
noncomputable def FX3_worthAhead (I : tq_PI) (L : tq_PL) (a0 : Nat) (a1 : Int32) : Option (Int32) :=
  ((tq_it (fun p : Int32 × Int32 => FX3_worthAhead_s4 I L a0 a1 p.1 p.2) tq_N ((0 : Int32), (0 : Int32))).bind fun p3 => some p3)
set_option maxRecDepth 100000 in
set_option maxHeartbeats 4000000 in
theorem FX3_worthAhead_s4_x {S : Nat × (Nat → Int32)} {d : Nat} {I : tq_PI} {L : tq_PL} {a0 : Nat} {a1 : Int32} {a2 : Int32} {a3 : Int32} (h0 : tq_sh0 a0 = 3) {q0 : Option Value → tq_PI → tq_PL → Prop} {out : (Int32 × Int32) ⊕ (Int32)} (hf : FX3_worthAhead_s4 I L a0 a1 a2 a3 = some out) (hk : Sum.elim (fun p : Int32 × Int32 => tq_X S mX3_worthAhead (d + 2) tq_k0 4 ([.ref a0, .int a1, .int p.1, .int p.2]) [] (tq_st I L) (tq_Q q0)) (fun p : Int32 => tq_X S mX3_worthAhead (d + 2) tq_k0 35 ([tq_u, tq_u, .int p, tq_u]) [] (tq_st I L) (tq_Q q0)) out) : tq_X S mX3_worthAhead (d + 2) tq_k0 4 ([.ref a0, .int a1, .int a2, .int a3]) [] (tq_st I L) (tq_Q q0) := by
  unfold FX3_worthAhead_s4 at hf
  refine tq_iload_n rX3_worthAhead_4 rfl ?_
  refine tq_aload_n rX3_worthAhead_5 rfl ?_
  refine ty_getI rX3_worthAhead_6 f_X3_15 rfl h0 ?_
  refine tq_icmp_ge rX3_worthAhead_9 (fun c1 => ?_) (fun c1 => ?_)
  · rw [if_pos c1] at hf
    have hf := Option.some.inj hf
    subst hf
    exact tq_forget _ (tq_le_u (tq_le_u (tq_le_s (tq_le_u tq_le_n)))) hk
  · rw [if_neg c1] at hf
    refine tq_iload_n rX3_worthAhead_12 rfl ?_
    refine tq_aload_n rX3_worthAhead_13 rfl ?_
    refine tq_lconst (1 : Int64) rX3_worthAhead_14 (by decide) ?_
    refine tq_iload_n rX3_worthAhead_15 rfl ?_
    refine tq_lshl rX3_worthAhead_16 ?_
    refine tq_lconst (1 : Int64) rX3_worthAhead_17 (by decide) ?_
    refine tq_lsub rX3_worthAhead_18 ?_
    refine tq_bipush (8 : Int32) rX3_worthAhead_19 (by decide) ?_
    refine tq_iload_n rX3_worthAhead_21 rfl ?_
    refine tq_imul rX3_worthAhead_22 ?_
    refine tq_lshl rX3_worthAhead_23 ?_
    obtain ⟨p2, e2, hf⟩ := tq_let_elim hf
    refine ty_callVI p2 ([.long ((((1 : Int64) <<< (Int32.toInt64 a1 &&& 63)) - (1 : Int64)) <<< (Int32.toInt64 ((8 : Int32) * a3) &&& 63))]) ([.int a2]) rX3_worthAhead_24 l_X3_145 moX3_worthOf mvX3_worthOf h0 rfl rfl (Nat.le_of_ble_eq_true rfl) ⟨rfl, rfl⟩ (CX3_worthOf h0 e2) ?_
    refine tq_iadd rX3_worthAhead_27 ?_
    refine tq_istore_n ([.ref a0, .int a1, .int (a2 + p2), .int a3]) rX3_worthAhead_28 (Nat.le_of_ble_eq_true rfl) rfl ?_
    refine tq_iinc (a3 + 1) ([.ref a0, .int a1, .int (a2 + p2), .int (a3 + 1)]) rX3_worthAhead_29 rfl (tq_inc (by decide)) (Nat.le_of_ble_eq_true rfl) rfl ?_
    refine tq_goto rX3_worthAhead_32 ?_
    have hf := Option.some.inj hf
    subst hf
    exact tq_forget _ (tq_le_s (tq_le_s (tq_le_s (tq_le_s tq_le_n)))) hk

set_option maxRecDepth 100000 in
set_option maxHeartbeats 4000000 in
theorem CX3_worthAhead {S : Nat × (Nat → Int32)} {d : Nat} {I : tq_PI} {L : tq_PL} {a0 : Nat} {a1 : Int32} (h0 : tq_sh0 a0 = 3) {out : Int32} (hf : FX3_worthAhead I L a0 a1 = some out) : tq_K S mX3_worthAhead (d + 2) [.ref a0, .int a1] I L (tq_one2 (some (.int out)) I L) := by
  unfold FX3_worthAhead at hf
  refine tq_K_of (by decide) (Nat.le_of_ble_eq_true rfl) (ls := [.ref a0, .int a1, tq_u, tq_u]) rfl ?_
  refine tq_iconst (0 : Int32) rX3_worthAhead_0 (by decide) ?_
  refine tq_istore_n ([.ref a0, .int a1, .int (0 : Int32), tq_u]) rX3_worthAhead_1 (Nat.le_of_ble_eq_true rfl) rfl ?_
  refine tq_iconst (0 : Int32) rX3_worthAhead_2 (by decide) ?_
  refine tq_istore_n ([.ref a0, .int a1, .int (0 : Int32), .int (0 : Int32)]) rX3_worthAhead_3 (Nat.le_of_ble_eq_true rfl) rfl ?_
  obtain ⟨p3, e3, hf⟩ := Option.bind_eq_some_iff.mp hf
  refine tq_forget _ (tq_le_s (tq_le_s (tq_le_s (tq_le_s tq_le_n)))) ?_
  refine tq_it_elim (P := fun p : Int32 × Int32 => tq_X S mX3_worthAhead (d + 2) tq_k0 4 ([.ref a0, .int a1, .int p.1, .int p.2]) [] (tq_st I L) (tq_Q (tq_one2 (some (.int out)) I L))) (R := fun p : Int32 => tq_X S mX3_worthAhead (d + 2) tq_k0 35 ([tq_u, tq_u, .int p, tq_u]) [] (tq_st I L) (tq_Q (tq_one2 (some (.int out)) I L))) (fun p o hp hk => FX3_worthAhead_s4_x  h0 hp hk) _ (((0 : Int32), (0 : Int32))) _ e3 ?_
  show tq_X _ _ _ _ _ _ _ _ _
  refine tq_iload_n rX3_worthAhead_35 rfl ?_
  refine ty_iret rX3_worthAhead_36 rfl rfl ?_
  have hf := Option.some.inj hf
  subst hf
  exact ⟨rfl, rfl, rfl⟩

abbrev mX3_unfairness : tq_M := (yX3_unfairness, cX3_unfairness, 2, (Option.some Jvm.ClassFile.FieldType.int), 0, 0)
theorem moX3_worthAhead : tq_mok mX3_worthAhead 1 := ⟨tq_sg1 _ (List.mem_of_getElem? (i := 3) rfl), tq_sg4 _ (List.mem_of_getElem? (i := 214) rfl), ⟨by decide, by decide, by decide +kernel⟩, by decide⟩
theorem mvX3_worthAhead : 3 < 13 ∧ (tq_cl 3).1 = mX3_worthAhead.1.cls ∧ Cond.instanceMethod mX3_worthAhead.1 ∈ lw_tbl ∧ Cond.selects mX3_worthAhead.1.cls mX3_worthAhead.1 mX3_worthAhead.1 ∈ lw_tbl := ⟨by decide, rfl, tq_sg4 _ (List.mem_of_getElem? (i := 213) rfl), List.mem_append_left _ (List.mem_map.mpr ⟨_, List.mem_of_getElem? (i := 29) rfl, rfl⟩)⟩
theorem l_X3_148 : tq_lok RX3 148 mX3_worthAhead.1 := Or.inl (tq_sg4 _ (List.mem_of_getElem? (i := 211) rfl))
theorem n_X3_152 : Cond.methodLink RX3 152 Lib.Math.abs.name ∈ lw_tbl ∧ Cond.static Lib.Math.abs.name ∈ lw_tbl ∧ Cond.initialized "java/lang/Math" ∈ lw_tbl ∧ Cond.code Lib.Math.abs.name Lib.Math.abs.code 1 (some .int) ∈ lw_tbl := ⟨tq_sg4 _ (List.mem_of_getElem? (i := 216) rfl), tq_sg4 _ (List.mem_of_getElem? (i := 217) rfl), tq_sg1 _ (List.mem_of_getElem? (i := 14) rfl), tq_sg4 _ (List.mem_of_getElem? (i := 218) rfl)⟩
theorem rX3_unfairness_0 : tq_D cX3_unfairness 0 (.iconst 2) 1 1 := ⟨by decide +kernel, rfl⟩
theorem rX3_unfairness_1 : tq_D cX3_unfairness 1 (.aload_n 0) 1 2 := ⟨by decide +kernel, rfl⟩
theorem rX3_unfairness_2 : tq_D cX3_unfairness 2 (.iload_n 1) 1 3 := ⟨by decide +kernel, rfl⟩
theorem rX3_unfairness_3 : tq_D cX3_unfairness 3 (.invokevirtual 148) 3 6 := ⟨by decide +kernel, rfl⟩
theorem rX3_unfairness_6 : tq_D cX3_unfairness 6 (.imul) 1 7 := ⟨by decide +kernel, rfl⟩
theorem rX3_unfairness_7 : tq_D cX3_unfairness 7 (.aload_n 0) 1 8 := ⟨by decide +kernel, rfl⟩
theorem rX3_unfairness_8 : tq_D cX3_unfairness 8 (.aload_n 0) 1 9 := ⟨by decide +kernel, rfl⟩
theorem rX3_unfairness_9 : tq_D cX3_unfairness 9 (.getfield 18) 3 12 := ⟨by decide +kernel, rfl⟩
theorem rX3_unfairness_12 : tq_D cX3_unfairness 12 (.invokevirtual 145) 3 15 := ⟨by decide +kernel, rfl⟩
theorem rX3_unfairness_15 : tq_D cX3_unfairness 15 (.isub) 1 16 := ⟨by decide +kernel, rfl⟩
theorem rX3_unfairness_16 : tq_D cX3_unfairness 16 (.invokestatic 152) 3 19 := ⟨by decide +kernel, rfl⟩
theorem rX3_unfairness_19 : decode cX3_unfairness 19 = .ok (.ireturn, 1) := by decide +kernel
noncomputable def FX3_unfairness (I : tq_PI) (L : tq_PL) (a0 : Nat) (a1 : Int32) : Option (Int32) :=
  ((FX3_worthAhead I L a0 a1).bind fun p1 => (tq_let (FX3_worthOf I L a0 ((L a0 2))) fun p2 => some (if 0 ≤ (((2 : Int32) * p1) - p2) then (((2 : Int32) * p1) - p2) else 0 - (((2 : Int32) * p1) - p2))))
set_option maxRecDepth 100000 in
set_option maxHeartbeats 4000000 in
theorem CX3_unfairness {S : Nat × (Nat → Int32)} {d : Nat} {I : tq_PI} {L : tq_PL} {a0 : Nat} {a1 : Int32} (h0 : tq_sh0 a0 = 3) {out : Int32} (hf : FX3_unfairness I L a0 a1 = some out) : tq_K S mX3_unfairness (d + 3) [.ref a0, .int a1] I L (tq_one2 (some (.int out)) I L) := by
  unfold FX3_unfairness at hf
  refine tq_K_of (by decide) (Nat.le_of_ble_eq_true rfl) (ls := [.ref a0, .int a1]) rfl ?_
  refine tq_iconst (2 : Int32) rX3_unfairness_0 (by decide) ?_
  refine tq_aload_n rX3_unfairness_1 rfl ?_
  refine tq_iload_n rX3_unfairness_2 rfl ?_
  obtain ⟨p1, e1, hf⟩ := Option.bind_eq_some_iff.mp hf
  refine ty_callVI p1 ([.int a1]) ([.int (2 : Int32)]) rX3_unfairness_3 l_X3_148 moX3_worthAhead mvX3_worthAhead h0 rfl rfl (Nat.le_of_ble_eq_true rfl) ⟨rfl, rfl⟩ (CX3_worthAhead h0 e1) ?_
  refine tq_imul rX3_unfairness_6 ?_
  refine tq_aload_n rX3_unfairness_7 rfl ?_
  refine tq_aload_n rX3_unfairness_8 rfl ?_
  refine ty_getL rX3_unfairness_9 f_X3_18 rfl h0 ?_
  obtain ⟨p2, e2, hf⟩ := tq_let_elim hf
  refine ty_callVI p2 ([.long (L a0 2)]) ([.int ((2 : Int32) * p1)]) rX3_unfairness_12 l_X3_145 moX3_worthOf mvX3_worthOf h0 rfl rfl (Nat.le_of_ble_eq_true rfl) ⟨rfl, rfl⟩ (CX3_worthOf h0 e2) ?_
  refine tq_isub rX3_unfairness_15 ?_
  refine tq_mabs rX3_unfairness_16 (Nat.le_of_ble_eq_true rfl) n_X3_152 ?_
  refine ty_iret rX3_unfairness_19 rfl rfl ?_
  have hf := Option.some.inj hf
  subst hf
  exact ⟨rfl, rfl, rfl⟩

abbrev mX3_fairColumn : tq_M := (yX3_fairColumn, cX3_fairColumn, 3, (Option.some Jvm.ClassFile.FieldType.int), 0, 0)
theorem moX3_unfairness : tq_mok mX3_unfairness 1 := ⟨tq_sg1 _ (List.mem_of_getElem? (i := 3) rfl), tq_sg4 _ (List.mem_of_getElem? (i := 210) rfl), ⟨by decide, by decide, by decide +kernel⟩, by decide⟩
theorem mvX3_unfairness : 3 < 13 ∧ (tq_cl 3).1 = mX3_unfairness.1.cls ∧ Cond.instanceMethod mX3_unfairness.1 ∈ lw_tbl ∧ Cond.selects mX3_unfairness.1.cls mX3_unfairness.1 mX3_unfairness.1 ∈ lw_tbl := ⟨by decide, rfl, tq_sg4 _ (List.mem_of_getElem? (i := 208) rfl), tq_sg4 _ (List.mem_of_getElem? (i := 209) rfl)⟩
theorem l_X3_157 : tq_lok RX3 157 mX3_unfairness.1 := Or.inl (tq_sg4 _ (List.mem_of_getElem? (i := 207) rfl))
theorem rX3_fairColumn_0 : tq_D cX3_fairColumn 0 (.iconst 0) 1 1 := ⟨by decide +kernel, rfl⟩
theorem rX3_fairColumn_1 : tq_D cX3_fairColumn 1 (.istore_n 1) 1 2 := ⟨by decide +kernel, rfl⟩
theorem rX3_fairColumn_2 : tq_D cX3_fairColumn 2 (.iconst 1) 1 3 := ⟨by decide +kernel, rfl⟩
theorem rX3_fairColumn_3 : tq_D cX3_fairColumn 3 (.istore_n 2) 1 4 := ⟨by decide +kernel, rfl⟩
theorem rX3_fairColumn_4 : tq_D cX3_fairColumn 4 (.iload_n 2) 1 5 := ⟨by decide +kernel, rfl⟩
theorem rX3_fairColumn_5 : tq_D cX3_fairColumn 5 (.aload_n 0) 1 6 := ⟨by decide +kernel, rfl⟩
theorem rX3_fairColumn_6 : tq_D cX3_fairColumn 6 (.getfield 9) 3 9 := ⟨by decide +kernel, rfl⟩
theorem rX3_fairColumn_9 : tq_J cX3_fairColumn 9 (.if_icmp .gt) 33 12 := ⟨24, by decide +kernel, by decide, rfl⟩
theorem rX3_fairColumn_12 : tq_D cX3_fairColumn 12 (.aload_n 0) 1 13 := ⟨by decide +kernel, rfl⟩
theorem rX3_fairColumn_13 : tq_D cX3_fairColumn 13 (.iload_n 2) 1 14 := ⟨by decide +kernel, rfl⟩
theorem rX3_fairColumn_14 : tq_D cX3_fairColumn 14 (.invokevirtual 157) 3 17 := ⟨by decide +kernel, rfl⟩
theorem rX3_fairColumn_17 : tq_D cX3_fairColumn 17 (.aload_n 0) 1 18 := ⟨by decide +kernel, rfl⟩
theorem rX3_fairColumn_18 : tq_D cX3_fairColumn 18 (.iload_n 1) 1 19 := ⟨by decide +kernel, rfl⟩
theorem rX3_fairColumn_19 : tq_D cX3_fairColumn 19 (.invokevirtual 157) 3 22 := ⟨by decide +kernel, rfl⟩
theorem rX3_fairColumn_22 : tq_J cX3_fairColumn 22 (.if_icmp .ge) 27 25 := ⟨5, by decide +kernel, by decide, rfl⟩
theorem rX3_fairColumn_25 : tq_D cX3_fairColumn 25 (.iload_n 2) 1 26 := ⟨by decide +kernel, rfl⟩
theorem rX3_fairColumn_26 : tq_D cX3_fairColumn 26 (.istore_n 1) 1 27 := ⟨by decide +kernel, rfl⟩
theorem rX3_fairColumn_27 : tq_D cX3_fairColumn 27 (.iinc 2 1) 3 30 := ⟨by decide +kernel, rfl⟩
theorem rX3_fairColumn_30 : tq_J cX3_fairColumn 30 .goto 4 33 := ⟨(-26), by decide +kernel, by decide, rfl⟩
theorem rX3_fairColumn_33 : tq_D cX3_fairColumn 33 (.iload_n 1) 1 34 := ⟨by decide +kernel, rfl⟩
theorem rX3_fairColumn_34 : decode cX3_fairColumn 34 = .ok (.ireturn, 1) := by decide +kernel
noncomputable def FX3_fairColumn_j27L4 (I : tq_PI) (L : tq_PL) (a0 : Nat) (a1 : Int32) (a2 : Int32) : Option ((Int32 × Int32) ⊕ (Int32)) :=
  some (.inl (a1, (a2 + 1)))
noncomputable def FX3_fairColumn_s4 (I : tq_PI) (L : tq_PL) (a0 : Nat) (a1 : Int32) (a2 : Int32) : Option ((Int32 × Int32) ⊕ (Int32)) :=
  (if (I a0 0) < a2 then some (.inr a1) else ((FX3_unfairness I L a0 a2).bind fun p2 => ((FX3_unfairness I L a0 a1).bind fun p3 => (if p3 ≤ p2 then (FX3_fairColumn_j27L4 I L a0 a1 a2) else (FX3_fairColumn_j27L4 I L a0 a2 a2)))))
noncomputable def FX3_fairColumn (I : tq_PI) (L : tq_PL) (a0 : Nat) : Option (Int32) :=
  ((tq_it (fun p : Int32 × Int32 => FX3_fairColumn_s4 I L a0 p.1 p.2) tq_N ((0 : Int32), (1 : Int32))).bind fun p5 => some p5)
set_option maxRecDepth 100000 in
set_option maxHeartbeats 4000000 in
theorem FX3_fairColumn_j27L4_x {S : Nat × (Nat → Int32)} {d : Nat} {I : tq_PI} {L : tq_PL} {a0 : Nat} {a1 : Int32} {a2 : Int32} (h0 : tq_sh0 a0 = 3) {q0 : Option Value → tq_PI → tq_PL → Prop} {out : (Int32 × Int32) ⊕ (Int32)} (hf : FX3_fairColumn_j27L4 I L a0 a1 a2 = some out) (hk : Sum.elim (fun p : Int32 × Int32 => tq_X S mX3_fairColumn (d + 4) tq_k0 4 ([.ref a0, .int p.1, .int p.2]) [] (tq_st I L) (tq_Q q0)) (fun p : Int32 => tq_X S mX3_fairColumn (d + 4) tq_k0 33 ([tq_u, .int p, tq_u]) [] (tq_st I L) (tq_Q q0)) out) : tq_X S mX3_fairColumn (d + 4) tq_k0 27 ([.ref a0, .int a1, .int a2]) ([]) (tq_st I L) (tq_Q q0) := by
  unfold FX3_fairColumn_j27L4 at hf
  refine tq_iinc (a2 + 1) ([.ref a0, .int a1, .int (a2 + 1)]) rX3_fairColumn_27 rfl (tq_inc (by decide)) (Nat.le_of_ble_eq_true rfl) rfl ?_
  refine tq_goto rX3_fairColumn_30 ?_
  have hf := Option.some.inj hf
  subst hf
  exact tq_forget _ (tq_le_s (tq_le_s (tq_le_s tq_le_n))) hk

set_option maxRecDepth 100000 in
set_option maxHeartbeats 4000000 in
theorem FX3_fairColumn_s4_x {S : Nat × (Nat → Int32)} {d : Nat} {I : tq_PI} {L : tq_PL} {a0 : Nat} {a1 : Int32} {a2 : Int32} (h0 : tq_sh0 a0 = 3) {q0 : Option Value → tq_PI → tq_PL → Prop} {out : (Int32 × Int32) ⊕ (Int32)} (hf : FX3_fairColumn_s4 I L a0 a1 a2 = some out) (hk : Sum.elim (fun p : Int32 × Int32 => tq_X S mX3_fairColumn (d + 4) tq_k0 4 ([.ref a0, .int p.1, .int p.2]) [] (tq_st I L) (tq_Q q0)) (fun p : Int32 => tq_X S mX3_fairColumn (d + 4) tq_k0 33 ([tq_u, .int p, tq_u]) [] (tq_st I L) (tq_Q q0)) out) : tq_X S mX3_fairColumn (d + 4) tq_k0 4 ([.ref a0, .int a1, .int a2]) [] (tq_st I L) (tq_Q q0) := by
  unfold FX3_fairColumn_s4 at hf
  refine tq_iload_n rX3_fairColumn_4 rfl ?_
  refine tq_aload_n rX3_fairColumn_5 rfl ?_
  refine ty_getI rX3_fairColumn_6 f_X3_9 rfl h0 ?_
  refine tq_icmp_gt rX3_fairColumn_9 (fun c1 => ?_) (fun c1 => ?_)
  · rw [if_pos c1] at hf
    have hf := Option.some.inj hf
    subst hf
    exact tq_forget _ (tq_le_u (tq_le_s (tq_le_u tq_le_n))) hk
  · rw [if_neg c1] at hf
    refine tq_aload_n rX3_fairColumn_12 rfl ?_
    refine tq_iload_n rX3_fairColumn_13 rfl ?_
    obtain ⟨p2, e2, hf⟩ := Option.bind_eq_some_iff.mp hf
    refine ty_callVI p2 ([.int a2]) ([]) rX3_fairColumn_14 l_X3_157 moX3_unfairness mvX3_unfairness h0 rfl rfl (Nat.le_of_ble_eq_true rfl) ⟨rfl, rfl⟩ (CX3_unfairness h0 e2) ?_
    refine tq_aload_n rX3_fairColumn_17 rfl ?_
    refine tq_iload_n rX3_fairColumn_18 rfl ?_
    obtain ⟨p3, e3, hf⟩ := Option.bind_eq_some_iff.mp hf
    refine ty_callVI p3 ([.int a1]) ([.int p2]) rX3_fairColumn_19 l_X3_157 moX3_unfairness mvX3_unfairness h0 rfl rfl (Nat.le_of_ble_eq_true rfl) ⟨rfl, rfl⟩ (CX3_unfairness h0 e3) ?_
    refine tq_icmp_ge rX3_fairColumn_22 (fun c4 => ?_) (fun c4 => ?_)
    · rw [if_pos c4] at hf
      exact tq_forget _ (tq_le_s (tq_le_s (tq_le_s tq_le_n))) (FX3_fairColumn_j27L4_x  h0 hf hk)
    · rw [if_neg c4] at hf
      refine tq_iload_n rX3_fairColumn_25 rfl ?_
      refine tq_istore_n ([.ref a0, .int a2, .int a2]) rX3_fairColumn_26 (Nat.le_of_ble_eq_true rfl) rfl ?_
      exact tq_forget _ (tq_le_s (tq_le_s (tq_le_s tq_le_n))) (FX3_fairColumn_j27L4_x  h0 hf hk)

set_option maxRecDepth 100000 in
set_option maxHeartbeats 4000000 in
theorem CX3_fairColumn {S : Nat × (Nat → Int32)} {d : Nat} {I : tq_PI} {L : tq_PL} {a0 : Nat} (h0 : tq_sh0 a0 = 3) {out : Int32} (hf : FX3_fairColumn I L a0 = some out) : tq_K S mX3_fairColumn (d + 4) [.ref a0] I L (tq_one2 (some (.int out)) I L) := by
  unfold FX3_fairColumn at hf
  refine tq_K_of (by decide) (Nat.le_of_ble_eq_true rfl) (ls := [.ref a0, tq_u, tq_u]) rfl ?_
  refine tq_iconst (0 : Int32) rX3_fairColumn_0 (by decide) ?_
  refine tq_istore_n ([.ref a0, .int (0 : Int32), tq_u]) rX3_fairColumn_1 (Nat.le_of_ble_eq_true rfl) rfl ?_
  refine tq_iconst (1 : Int32) rX3_fairColumn_2 (by decide) ?_
  refine tq_istore_n ([.ref a0, .int (0 : Int32), .int (1 : Int32)]) rX3_fairColumn_3 (Nat.le_of_ble_eq_true rfl) rfl ?_
  obtain ⟨p5, e5, hf⟩ := Option.bind_eq_some_iff.mp hf
  refine tq_forget _ (tq_le_s (tq_le_s (tq_le_s tq_le_n))) ?_
  refine tq_it_elim (P := fun p : Int32 × Int32 => tq_X S mX3_fairColumn (d + 4) tq_k0 4 ([.ref a0, .int p.1, .int p.2]) [] (tq_st I L) (tq_Q (tq_one2 (some (.int out)) I L))) (R := fun p : Int32 => tq_X S mX3_fairColumn (d + 4) tq_k0 33 ([tq_u, .int p, tq_u]) [] (tq_st I L) (tq_Q (tq_one2 (some (.int out)) I L))) (fun p o hp hk => FX3_fairColumn_s4_x  h0 hp hk) _ (((0 : Int32), (1 : Int32))) _ e5 ?_
  show tq_X _ _ _ _ _ _ _ _ _
  refine tq_iload_n rX3_fairColumn_33 rfl ?_
  refine ty_iret rX3_fairColumn_34 rfl rfl ?_
  have hf := Option.some.inj hf
  subst hf
  exact ⟨rfl, rfl, rfl⟩

abbrev mX3_richestRow : tq_M := (yX3_richestRow, cX3_richestRow, 3, (Option.some Jvm.ClassFile.FieldType.int), 0, 0)
theorem rX3_richestRow_0 : tq_D cX3_richestRow 0 (.iconst 0) 1 1 := ⟨by decide +kernel, rfl⟩
theorem rX3_richestRow_1 : tq_D cX3_richestRow 1 (.istore_n 1) 1 2 := ⟨by decide +kernel, rfl⟩
theorem rX3_richestRow_2 : tq_D cX3_richestRow 2 (.iconst 1) 1 3 := ⟨by decide +kernel, rfl⟩
theorem rX3_richestRow_3 : tq_D cX3_richestRow 3 (.istore_n 2) 1 4 := ⟨by decide +kernel, rfl⟩
theorem rX3_richestRow_4 : tq_D cX3_richestRow 4 (.iload_n 2) 1 5 := ⟨by decide +kernel, rfl⟩
theorem rX3_richestRow_5 : tq_D cX3_richestRow 5 (.aload_n 0) 1 6 := ⟨by decide +kernel, rfl⟩
theorem rX3_richestRow_6 : tq_D cX3_richestRow 6 (.getfield 15) 3 9 := ⟨by decide +kernel, rfl⟩
theorem rX3_richestRow_9 : tq_J cX3_richestRow 9 (.if_icmp .ge) 41 12 := ⟨32, by decide +kernel, by decide, rfl⟩
theorem rX3_richestRow_12 : tq_D cX3_richestRow 12 (.aload_n 0) 1 13 := ⟨by decide +kernel, rfl⟩
theorem rX3_richestRow_13 : tq_D cX3_richestRow 13 (.aload_n 0) 1 14 := ⟨by decide +kernel, rfl⟩
theorem rX3_richestRow_14 : tq_D cX3_richestRow 14 (.iload_n 2) 1 15 := ⟨by decide +kernel, rfl⟩
theorem rX3_richestRow_15 : tq_D cX3_richestRow 15 (.invokevirtual 43) 3 18 := ⟨by decide +kernel, rfl⟩
theorem rX3_richestRow_18 : tq_D cX3_richestRow 18 (.invokevirtual 145) 3 21 := ⟨by decide +kernel, rfl⟩
theorem rX3_richestRow_21 : tq_D cX3_richestRow 21 (.aload_n 0) 1 22 := ⟨by decide +kernel, rfl⟩
theorem rX3_richestRow_22 : tq_D cX3_richestRow 22 (.aload_n 0) 1 23 := ⟨by decide +kernel, rfl⟩
theorem rX3_richestRow_23 : tq_D cX3_richestRow 23 (.iload_n 1) 1 24 := ⟨by decide +kernel, rfl⟩
theorem rX3_richestRow_24 : tq_D cX3_richestRow 24 (.invokevirtual 43) 3 27 := ⟨by decide +kernel, rfl⟩
theorem rX3_richestRow_27 : tq_D cX3_richestRow 27 (.invokevirtual 145) 3 30 := ⟨by decide +kernel, rfl⟩
theorem rX3_richestRow_30 : tq_J cX3_richestRow 30 (.if_icmp .le) 35 33 := ⟨5, by decide +kernel, by decide, rfl⟩
theorem rX3_richestRow_33 : tq_D cX3_richestRow 33 (.iload_n 2) 1 34 := ⟨by decide +kernel, rfl⟩
theorem rX3_richestRow_34 : tq_D cX3_richestRow 34 (.istore_n 1) 1 35 := ⟨by decide +kernel, rfl⟩
theorem rX3_richestRow_35 : tq_D cX3_richestRow 35 (.iinc 2 1) 3 38 := ⟨by decide +kernel, rfl⟩
theorem rX3_richestRow_38 : tq_J cX3_richestRow 38 .goto 4 41 := ⟨(-34), by decide +kernel, by decide, rfl⟩
theorem rX3_richestRow_41 : tq_D cX3_richestRow 41 (.iload_n 1) 1 42 := ⟨by decide +kernel, rfl⟩
theorem rX3_richestRow_42 : decode cX3_richestRow 42 = .ok (.ireturn, 1) := by decide +kernel
noncomputable def FX3_richestRow_j35L4 (I : tq_PI) (L : tq_PL) (a0 : Nat) (a1 : Int32) (a2 : Int32) : Option ((Int32 × Int32) ⊕ (Int32)) :=
  some (.inl (a1, (a2 + 1)))
noncomputable def FX3_richestRow_s4 (I : tq_PI) (L : tq_PL) (a0 : Nat) (a1 : Int32) (a2 : Int32) : Option ((Int32 × Int32) ⊕ (Int32)) :=
  (if (I a0 1) ≤ a2 then some (.inr a1) else (tq_let (FX3_rowMask I L a0 a2) fun p2 => (tq_let (FX3_worthOf I L a0 p2) fun p3 => (tq_let (FX3_rowMask I L a0 a1) fun p4 => (tq_let (FX3_worthOf I L a0 p4) fun p5 => (if p3 ≤ p5 then (FX3_richestRow_j35L4 I L a0 a1 a2) else (FX3_richestRow_j35L4 I L a0 a2 a2)))))))
noncomputable def FX3_richestRow (I : tq_PI) (L : tq_PL) (a0 : Nat) : Option (Int32) :=
  ((tq_it (fun p : Int32 × Int32 => FX3_richestRow_s4 I L a0 p.1 p.2) tq_N ((0 : Int32), (1 : Int32))).bind fun p7 => some p7)
set_option maxRecDepth 100000 in
set_option maxHeartbeats 4000000 in
theorem FX3_richestRow_j35L4_x {S : Nat × (Nat → Int32)} {d : Nat} {I : tq_PI} {L : tq_PL} {a0 : Nat} {a1 : Int32} {a2 : Int32} (h0 : tq_sh0 a0 = 3) {q0 : Option Value → tq_PI → tq_PL → Prop} {out : (Int32 × Int32) ⊕ (Int32)} (hf : FX3_richestRow_j35L4 I L a0 a1 a2 = some out) (hk : Sum.elim (fun p : Int32 × Int32 => tq_X S mX3_richestRow (d + 2) tq_k0 4 ([.ref a0, .int p.1, .int p.2]) [] (tq_st I L) (tq_Q q0)) (fun p : Int32 => tq_X S mX3_richestRow (d + 2) tq_k0 41 ([tq_u, .int p, tq_u]) [] (tq_st I L) (tq_Q q0)) out) : tq_X S mX3_richestRow (d + 2) tq_k0 35 ([.ref a0, .int a1, .int a2]) ([]) (tq_st I L) (tq_Q q0) := by
  unfold FX3_richestRow_j35L4 at hf
  refine tq_iinc (a2 + 1) ([.ref a0, .int a1, .int (a2 + 1)]) rX3_richestRow_35 rfl (tq_inc (by decide)) (Nat.le_of_ble_eq_true rfl) rfl ?_
  refine tq_goto rX3_richestRow_38 ?_
  have hf := Option.some.inj hf
  subst hf
  exact tq_forget _ (tq_le_s (tq_le_s (tq_le_s tq_le_n))) hk

set_option maxRecDepth 100000 in
set_option maxHeartbeats 4000000 in
theorem FX3_richestRow_s4_x {S : Nat × (Nat → Int32)} {d : Nat} {I : tq_PI} {L : tq_PL} {a0 : Nat} {a1 : Int32} {a2 : Int32} (h0 : tq_sh0 a0 = 3) {q0 : Option Value → tq_PI → tq_PL → Prop} {out : (Int32 × Int32) ⊕ (Int32)} (hf : FX3_richestRow_s4 I L a0 a1 a2 = some out) (hk : Sum.elim (fun p : Int32 × Int32 => tq_X S mX3_richestRow (d + 2) tq_k0 4 ([.ref a0, .int p.1, .int p.2]) [] (tq_st I L) (tq_Q q0)) (fun p : Int32 => tq_X S mX3_richestRow (d + 2) tq_k0 41 ([tq_u, .int p, tq_u]) [] (tq_st I L) (tq_Q q0)) out) : tq_X S mX3_richestRow (d + 2) tq_k0 4 ([.ref a0, .int a1, .int a2]) [] (tq_st I L) (tq_Q q0) := by
  unfold FX3_richestRow_s4 at hf
  refine tq_iload_n rX3_richestRow_4 rfl ?_
  refine tq_aload_n rX3_richestRow_5 rfl ?_
  refine ty_getI rX3_richestRow_6 f_X3_15 rfl h0 ?_
  refine tq_icmp_ge rX3_richestRow_9 (fun c1 => ?_) (fun c1 => ?_)
  · rw [if_pos c1] at hf
    have hf := Option.some.inj hf
    subst hf
    exact tq_forget _ (tq_le_u (tq_le_s (tq_le_u tq_le_n))) hk
  · rw [if_neg c1] at hf
    refine tq_aload_n rX3_richestRow_12 rfl ?_
    refine tq_aload_n rX3_richestRow_13 rfl ?_
    refine tq_iload_n rX3_richestRow_14 rfl ?_
    obtain ⟨p2, e2, hf⟩ := tq_let_elim hf
    refine ty_callVJ p2 ([.int a2]) ([.ref a0]) rX3_richestRow_15 l_X3_43 moX3_rowMask mvX3_rowMask h0 rfl rfl (Nat.le_of_ble_eq_true rfl) ⟨rfl, rfl⟩ (CX3_rowMask h0 e2) ?_
    obtain ⟨p3, e3, hf⟩ := tq_let_elim hf
    refine ty_callVI p3 ([.long p2]) ([]) rX3_richestRow_18 l_X3_145 moX3_worthOf mvX3_worthOf h0 rfl rfl (Nat.le_of_ble_eq_true rfl) ⟨rfl, rfl⟩ (CX3_worthOf h0 e3) ?_
    refine tq_aload_n rX3_richestRow_21 rfl ?_
    refine tq_aload_n rX3_richestRow_22 rfl ?_
    refine tq_iload_n rX3_richestRow_23 rfl ?_
    obtain ⟨p4, e4, hf⟩ := tq_let_elim hf
    refine ty_callVJ p4 ([.int a1]) ([.ref a0, .int p3]) rX3_richestRow_24 l_X3_43 moX3_rowMask mvX3_rowMask h0 rfl rfl (Nat.le_of_ble_eq_true rfl) ⟨rfl, rfl⟩ (CX3_rowMask h0 e4) ?_
    obtain ⟨p5, e5, hf⟩ := tq_let_elim hf
    refine ty_callVI p5 ([.long p4]) ([.int p3]) rX3_richestRow_27 l_X3_145 moX3_worthOf mvX3_worthOf h0 rfl rfl (Nat.le_of_ble_eq_true rfl) ⟨rfl, rfl⟩ (CX3_worthOf h0 e5) ?_
    refine tq_icmp_le rX3_richestRow_30 (fun c6 => ?_) (fun c6 => ?_)
    · rw [if_pos c6] at hf
      exact tq_forget _ (tq_le_s (tq_le_s (tq_le_s tq_le_n))) (FX3_richestRow_j35L4_x  h0 hf hk)
    · rw [if_neg c6] at hf
      refine tq_iload_n rX3_richestRow_33 rfl ?_
      refine tq_istore_n ([.ref a0, .int a2, .int a2]) rX3_richestRow_34 (Nat.le_of_ble_eq_true rfl) rfl ?_
      exact tq_forget _ (tq_le_s (tq_le_s (tq_le_s tq_le_n))) (FX3_richestRow_j35L4_x  h0 hf hk)

set_option maxRecDepth 100000 in
set_option maxHeartbeats 4000000 in
theorem CX3_richestRow {S : Nat × (Nat → Int32)} {d : Nat} {I : tq_PI} {L : tq_PL} {a0 : Nat} (h0 : tq_sh0 a0 = 3) {out : Int32} (hf : FX3_richestRow I L a0 = some out) : tq_K S mX3_richestRow (d + 2) [.ref a0] I L (tq_one2 (some (.int out)) I L) := by
  unfold FX3_richestRow at hf
  refine tq_K_of (by decide) (Nat.le_of_ble_eq_true rfl) (ls := [.ref a0, tq_u, tq_u]) rfl ?_
  refine tq_iconst (0 : Int32) rX3_richestRow_0 (by decide) ?_
  refine tq_istore_n ([.ref a0, .int (0 : Int32), tq_u]) rX3_richestRow_1 (Nat.le_of_ble_eq_true rfl) rfl ?_
  refine tq_iconst (1 : Int32) rX3_richestRow_2 (by decide) ?_
  refine tq_istore_n ([.ref a0, .int (0 : Int32), .int (1 : Int32)]) rX3_richestRow_3 (Nat.le_of_ble_eq_true rfl) rfl ?_
  obtain ⟨p7, e7, hf⟩ := Option.bind_eq_some_iff.mp hf
  refine tq_forget _ (tq_le_s (tq_le_s (tq_le_s tq_le_n))) ?_
  refine tq_it_elim (P := fun p : Int32 × Int32 => tq_X S mX3_richestRow (d + 2) tq_k0 4 ([.ref a0, .int p.1, .int p.2]) [] (tq_st I L) (tq_Q (tq_one2 (some (.int out)) I L))) (R := fun p : Int32 => tq_X S mX3_richestRow (d + 2) tq_k0 41 ([tq_u, .int p, tq_u]) [] (tq_st I L) (tq_Q (tq_one2 (some (.int out)) I L))) (fun p o hp hk => FX3_richestRow_s4_x  h0 hp hk) _ (((0 : Int32), (1 : Int32))) _ e7 ?_
  show tq_X _ _ _ _ _ _ _ _ _
  refine tq_iload_n rX3_richestRow_41 rfl ?_
  refine ty_iret rX3_richestRow_42 rfl rfl ?_
  have hf := Option.some.inj hf
  subst hf
  exact ⟨rfl, rfl, rfl⟩

abbrev mX11_power : tq_M := (yX11_power, cX11_power, 6, (Option.some Jvm.ClassFile.FieldType.long), 0, 0)
theorem rX11_power_0 : tq_D cX11_power 0 (.lconst 1) 1 1 := ⟨by decide +kernel, rfl⟩
theorem rX11_power_1 : tq_D cX11_power 1 (.lstore_n 3) 1 2 := ⟨by decide +kernel, rfl⟩
theorem rX11_power_2 : tq_D cX11_power 2 (.iconst 0) 1 3 := ⟨by decide +kernel, rfl⟩
theorem rX11_power_3 : tq_D cX11_power 3 (.istore 5) 2 5 := ⟨by decide +kernel, rfl⟩
theorem rX11_power_5 : tq_D cX11_power 5 (.iload 5) 2 7 := ⟨by decide +kernel, rfl⟩
theorem rX11_power_7 : tq_D cX11_power 7 (.iload_n 2) 1 8 := ⟨by decide +kernel, rfl⟩
theorem rX11_power_8 : tq_J cX11_power 8 (.if_icmp .ge) 28 11 := ⟨20, by decide +kernel, by decide, rfl⟩
theorem rX11_power_11 : tq_D cX11_power 11 (.iload 5) 2 13 := ⟨by decide +kernel, rfl⟩
theorem rX11_power_13 : tq_D cX11_power 13 (.bipush 8) 2 15 := ⟨by decide +kernel, rfl⟩
theorem rX11_power_15 : tq_J cX11_power 15 (.if_icmp .ge) 28 18 := ⟨13, by decide +kernel, by decide, rfl⟩
theorem rX11_power_18 : tq_D cX11_power 18 (.lload_n 3) 1 19 := ⟨by decide +kernel, rfl⟩
theorem rX11_power_19 : tq_D cX11_power 19 (.lload_n 0) 1 20 := ⟨by decide +kernel, rfl⟩
theorem rX11_power_20 : tq_D cX11_power 20 (.lmul) 1 21 := ⟨by decide +kernel, rfl⟩
theorem rX11_power_21 : tq_D cX11_power 21 (.lstore_n 3) 1 22 := ⟨by decide +kernel, rfl⟩
theorem rX11_power_22 : tq_D cX11_power 22 (.iinc 5 1) 3 25 := ⟨by decide +kernel, rfl⟩
theorem rX11_power_25 : tq_J cX11_power 25 .goto 5 28 := ⟨(-20), by decide +kernel, by decide, rfl⟩
theorem rX11_power_28 : tq_D cX11_power 28 (.lload_n 3) 1 29 := ⟨by decide +kernel, rfl⟩
theorem rX11_power_29 : decode cX11_power 29 = .ok (.lreturn, 1) := by decide +kernel
noncomputable def FX11_power_s5 (I : tq_PI) (L : tq_PL) (a0 : Int64) (a2 : Int32) (a3 : Int64) (a5 : Int32) : Option ((Int64 × Int32) ⊕ (Int64)) :=
  (if a2 ≤ a5 then some (.inr a3) else (if (8 : Int32) ≤ a5 then some (.inr a3) else some (.inl ((a3 * a0), (a5 + 1)))))
noncomputable def FX11_power (I : tq_PI) (L : tq_PL) (a0 : Int64) (a2 : Int32) : Option (Int64) :=
  ((tq_it (fun p : Int64 × Int32 => FX11_power_s5 I L a0 a2 p.1 p.2) tq_N ((1 : Int64), (0 : Int32))).bind fun p3 => some p3)
set_option maxRecDepth 100000 in
set_option maxHeartbeats 4000000 in
theorem FX11_power_s5_x {S : Nat × (Nat → Int32)} {d : Nat} {I : tq_PI} {L : tq_PL} {a0 : Int64} {a2 : Int32} {a3 : Int64} {a5 : Int32}  {q0 : Option Value → tq_PI → tq_PL → Prop} {out : (Int64 × Int32) ⊕ (Int64)} (hf : FX11_power_s5 I L a0 a2 a3 a5 = some out) (hk : Sum.elim (fun p : Int64 × Int32 => tq_X S mX11_power d tq_k0 5 ([.long a0, tq_u, .int a2, .long p.1, tq_u, .int p.2]) [] (tq_st I L) (tq_Q q0)) (fun p : Int64 => tq_X S mX11_power d tq_k0 28 ([tq_u, tq_u, tq_u, .long p, tq_u, tq_u]) [] (tq_st I L) (tq_Q q0)) out) : tq_X S mX11_power d tq_k0 5 ([.long a0, tq_u, .int a2, .long a3, tq_u, .int a5]) [] (tq_st I L) (tq_Q q0) := by
  unfold FX11_power_s5 at hf
  refine tq_iload rX11_power_5 rfl ?_
  refine tq_iload_n rX11_power_7 rfl ?_
  refine tq_icmp_ge rX11_power_8 (fun c1 => ?_) (fun c1 => ?_)
  · rw [if_pos c1] at hf
    have hf := Option.some.inj hf
    subst hf
    exact tq_forget _ (tq_le_u (tq_le_u (tq_le_u (tq_le_s (tq_le_u (tq_le_u tq_le_n)))))) hk
  · rw [if_neg c1] at hf
    refine tq_iload rX11_power_11 rfl ?_
    refine tq_bipush (8 : Int32) rX11_power_13 (by decide) ?_
    refine tq_icmp_ge rX11_power_15 (fun c2 => ?_) (fun c2 => ?_)
    · rw [if_pos c2] at hf
      have hf := Option.some.inj hf
      subst hf
      exact tq_forget _ (tq_le_u (tq_le_u (tq_le_u (tq_le_s (tq_le_u (tq_le_u tq_le_n)))))) hk
    · rw [if_neg c2] at hf
      refine tq_lload_n rX11_power_18 rfl ?_
      refine tq_lload_n rX11_power_19 rfl ?_
      refine tq_lmul rX11_power_20 ?_
      refine tq_lstore_n ([.long a0, tq_u, .int a2, .long (a3 * a0), tq_u, .int a5]) rX11_power_21 (Nat.le_of_ble_eq_true rfl) rfl ?_
      refine tq_iinc (a5 + 1) ([.long a0, tq_u, .int a2, .long (a3 * a0), tq_u, .int (a5 + 1)]) rX11_power_22 rfl (tq_inc (by decide)) (Nat.le_of_ble_eq_true rfl) rfl ?_
      refine tq_goto rX11_power_25 ?_
      have hf := Option.some.inj hf
      subst hf
      exact tq_forget _ (tq_le_s (tq_le_u (tq_le_s (tq_le_s (tq_le_u (tq_le_s tq_le_n)))))) hk

set_option maxRecDepth 100000 in
set_option maxHeartbeats 4000000 in
theorem CX11_power {S : Nat × (Nat → Int32)} {d : Nat} {I : tq_PI} {L : tq_PL} {a0 : Int64} {a2 : Int32}  {out : Int64} (hf : FX11_power I L a0 a2 = some out) : tq_K S mX11_power d [.long a0, .int a2] I L (tq_one2 (some (.long out)) I L) := by
  unfold FX11_power at hf
  refine tq_K_of (by decide) (Nat.le_of_ble_eq_true rfl) (ls := [.long a0, tq_u, .int a2, tq_u, tq_u, tq_u]) rfl ?_
  refine tq_lconst (1 : Int64) rX11_power_0 (by decide) ?_
  refine tq_lstore_n ([.long a0, tq_u, .int a2, .long (1 : Int64), tq_u, tq_u]) rX11_power_1 (Nat.le_of_ble_eq_true rfl) rfl ?_
  refine tq_iconst (0 : Int32) rX11_power_2 (by decide) ?_
  refine tq_istore ([.long a0, tq_u, .int a2, .long (1 : Int64), tq_u, .int (0 : Int32)]) rX11_power_3 (Nat.le_of_ble_eq_true rfl) rfl ?_
  obtain ⟨p3, e3, hf⟩ := Option.bind_eq_some_iff.mp hf
  refine tq_forget _ (tq_le_s (tq_le_u (tq_le_s (tq_le_s (tq_le_u (tq_le_s tq_le_n)))))) ?_
  refine tq_it_elim (P := fun p : Int64 × Int32 => tq_X S mX11_power d tq_k0 5 ([.long a0, tq_u, .int a2, .long p.1, tq_u, .int p.2]) [] (tq_st I L) (tq_Q (tq_one2 (some (.long out)) I L))) (R := fun p : Int64 => tq_X S mX11_power d tq_k0 28 ([tq_u, tq_u, tq_u, .long p, tq_u, tq_u]) [] (tq_st I L) (tq_Q (tq_one2 (some (.long out)) I L))) (fun p o hp hk => FX11_power_s5_x   hp hk) _ (((1 : Int64), (0 : Int32))) _ e3 ?_
  show tq_X _ _ _ _ _ _ _ _ _
  refine tq_lload_n rX11_power_28 rfl ?_
  refine ty_lret rX11_power_29 rfl rfl ?_
  have hf := Option.some.inj hf
  subst hf
  exact ⟨rfl, rfl, rfl⟩

abbrev mX3_quakeLosses : tq_M := (yX3_quakeLosses, cX3_quakeLosses, 13, (Option.some Jvm.ClassFile.FieldType.long), 0, 0)
theorem moX11_power : tq_mok mX11_power 2 := ⟨tq_sg1 _ (List.mem_of_getElem? (i := 1) rfl), tq_sg5 _ (List.mem_of_getElem? (i := 14) rfl), ⟨by decide, by decide, by decide +kernel⟩, by decide⟩
theorem msX11_power : Cond.static mX11_power.1 ∈ lw_tbl := tq_sg5 _ (List.mem_of_getElem? (i := 13) rfl)
theorem l_X3_160 : tq_lok RX3 160 mX11_power.1 := Or.inr ⟨_, tq_sg5 _ (List.mem_of_getElem? (i := 12) rfl)⟩
theorem rX3_quakeLosses_0 : tq_D cX3_quakeLosses 0 (.aload_n 0) 1 1 := ⟨by decide +kernel, rfl⟩
theorem rX3_quakeLosses_1 : tq_D cX3_quakeLosses 1 (.invokevirtual 55) 3 4 := ⟨by decide +kernel, rfl⟩
theorem rX3_quakeLosses_4 : tq_D cX3_quakeLosses 4 (.aload_n 0) 1 5 := ⟨by decide +kernel, rfl⟩
theorem rX3_quakeLosses_5 : tq_D cX3_quakeLosses 5 (.getfield 28) 3 8 := ⟨by decide +kernel, rfl⟩
theorem rX3_quakeLosses_8 : tq_D cX3_quakeLosses 8 (.land) 1 9 := ⟨by decide +kernel, rfl⟩
theorem rX3_quakeLosses_9 : tq_D cX3_quakeLosses 9 (.lstore_n 2) 1 10 := ⟨by decide +kernel, rfl⟩
theorem rX3_quakeLosses_10 : tq_D cX3_quakeLosses 10 (.lload_n 2) 1 11 := ⟨by decide +kernel, rfl⟩
theorem rX3_quakeLosses_11 : tq_D cX3_quakeLosses 11 (.invokestatic 70) 3 14 := ⟨by decide +kernel, rfl⟩
theorem rX3_quakeLosses_14 : tq_D cX3_quakeLosses 14 (.istore 4) 2 16 := ⟨by decide +kernel, rfl⟩
theorem rX3_quakeLosses_16 : tq_D cX3_quakeLosses 16 (.lconst 0) 1 17 := ⟨by decide +kernel, rfl⟩
theorem rX3_quakeLosses_17 : tq_D cX3_quakeLosses 17 (.lstore 5) 2 19 := ⟨by decide +kernel, rfl⟩
theorem rX3_quakeLosses_19 : tq_D cX3_quakeLosses 19 (.lload_n 2) 1 20 := ⟨by decide +kernel, rfl⟩
theorem rX3_quakeLosses_20 : tq_D cX3_quakeLosses 20 (.lstore 7) 2 22 := ⟨by decide +kernel, rfl⟩
theorem rX3_quakeLosses_22 : tq_D cX3_quakeLosses 22 (.iconst 0) 1 23 := ⟨by decide +kernel, rfl⟩
theorem rX3_quakeLosses_23 : tq_D cX3_quakeLosses 23 (.istore 9) 2 25 := ⟨by decide +kernel, rfl⟩
theorem rX3_quakeLosses_25 : tq_D cX3_quakeLosses 25 (.iload 9) 2 27 := ⟨by decide +kernel, rfl⟩
theorem rX3_quakeLosses_27 : tq_D cX3_quakeLosses 27 (.sipush 256) 3 30 := ⟨by decide +kernel, rfl⟩
theorem rX3_quakeLosses_30 : tq_J cX3_quakeLosses 30 (.if_icmp .ge) 121 33 := ⟨91, by decide +kernel, by decide, rfl⟩
theorem rX3_quakeLosses_33 : tq_D cX3_quakeLosses 33 (.lload 7) 2 35 := ⟨by decide +kernel, rfl⟩
theorem rX3_quakeLosses_35 : tq_D cX3_quakeLosses 35 (.invokestatic 70) 3 38 := ⟨by decide +kernel, rfl⟩
theorem rX3_quakeLosses_38 : tq_D cX3_quakeLosses 38 (.istore 10) 2 40 := ⟨by decide +kernel, rfl⟩
theorem rX3_quakeLosses_40 : tq_D cX3_quakeLosses 40 (.aload_n 0) 1 41 := ⟨by decide +kernel, rfl⟩
theorem rX3_quakeLosses_41 : tq_D cX3_quakeLosses 41 (.invokevirtual 59) 3 44 := ⟨by decide +kernel, rfl⟩
theorem rX3_quakeLosses_44 : tq_D cX3_quakeLosses 44 (.lload 7) 2 46 := ⟨by decide +kernel, rfl⟩
theorem rX3_quakeLosses_46 : tq_D cX3_quakeLosses 46 (.ldc2_w 49) 3 49 := ⟨by decide +kernel, rfl⟩
theorem rX3_quakeLosses_49 : tq_D cX3_quakeLosses 49 (.lxor) 1 50 := ⟨by decide +kernel, rfl⟩
theorem rX3_quakeLosses_50 : tq_D cX3_quakeLosses 50 (.land) 1 51 := ⟨by decide +kernel, rfl⟩
theorem rX3_quakeLosses_51 : tq_D cX3_quakeLosses 51 (.lstore 11) 2 53 := ⟨by decide +kernel, rfl⟩
theorem rX3_quakeLosses_53 : tq_D cX3_quakeLosses 53 (.lload 5) 2 55 := ⟨by decide +kernel, rfl⟩
theorem rX3_quakeLosses_55 : tq_D cX3_quakeLosses 55 (.iload_n 1) 1 56 := ⟨by decide +kernel, rfl⟩
theorem rX3_quakeLosses_56 : tq_D cX3_quakeLosses 56 (.i2l) 1 57 := ⟨by decide +kernel, rfl⟩
theorem rX3_quakeLosses_57 : tq_D cX3_quakeLosses 57 (.iload 10) 2 59 := ⟨by decide +kernel, rfl⟩
theorem rX3_quakeLosses_59 : tq_D cX3_quakeLosses 59 (.invokestatic 160) 3 62 := ⟨by decide +kernel, rfl⟩
theorem rX3_quakeLosses_62 : tq_D cX3_quakeLosses 62 (.bipush 10) 2 64 := ⟨by decide +kernel, rfl⟩
theorem rX3_quakeLosses_64 : tq_D cX3_quakeLosses 64 (.iload_n 1) 1 65 := ⟨by decide +kernel, rfl⟩
theorem rX3_quakeLosses_65 : tq_D cX3_quakeLosses 65 (.isub) 1 66 := ⟨by decide +kernel, rfl⟩
theorem rX3_quakeLosses_66 : tq_D cX3_quakeLosses 66 (.i2l) 1 67 := ⟨by decide +kernel, rfl⟩
theorem rX3_quakeLosses_67 : tq_D cX3_quakeLosses 67 (.iload 4) 2 69 := ⟨by decide +kernel, rfl⟩
theorem rX3_quakeLosses_69 : tq_D cX3_quakeLosses 69 (.iload 10) 2 71 := ⟨by decide +kernel, rfl⟩
theorem rX3_quakeLosses_71 : tq_D cX3_quakeLosses 71 (.isub) 1 72 := ⟨by decide +kernel, rfl⟩
theorem rX3_quakeLosses_72 : tq_D cX3_quakeLosses 72 (.invokestatic 160) 3 75 := ⟨by decide +kernel, rfl⟩
theorem rX3_quakeLosses_75 : tq_D cX3_quakeLosses 75 (.lmul) 1 76 := ⟨by decide +kernel, rfl⟩
theorem rX3_quakeLosses_76 : tq_D cX3_quakeLosses 76 (.lload 11) 2 78 := ⟨by decide +kernel, rfl⟩
theorem rX3_quakeLosses_78 : tq_D cX3_quakeLosses 78 (.aload_n 0) 1 79 := ⟨by decide +kernel, rfl⟩
theorem rX3_quakeLosses_79 : tq_D cX3_quakeLosses 79 (.lload 11) 2 81 := ⟨by decide +kernel, rfl⟩
theorem rX3_quakeLosses_81 : tq_D cX3_quakeLosses 81 (.invokevirtual 102) 3 84 := ⟨by decide +kernel, rfl⟩
theorem rX3_quakeLosses_84 : tq_D cX3_quakeLosses 84 (.ldc2_w 49) 3 87 := ⟨by decide +kernel, rfl⟩
theorem rX3_quakeLosses_87 : tq_D cX3_quakeLosses 87 (.lxor) 1 88 := ⟨by decide +kernel, rfl⟩
theorem rX3_quakeLosses_88 : tq_D cX3_quakeLosses 88 (.land) 1 89 := ⟨by decide +kernel, rfl⟩
theorem rX3_quakeLosses_89 : tq_D cX3_quakeLosses 89 (.invokestatic 70) 3 92 := ⟨by decide +kernel, rfl⟩
theorem rX3_quakeLosses_92 : tq_D cX3_quakeLosses 92 (.i2l) 1 93 := ⟨by decide +kernel, rfl⟩
theorem rX3_quakeLosses_93 : tq_D cX3_quakeLosses 93 (.lmul) 1 94 := ⟨by decide +kernel, rfl⟩
theorem rX3_quakeLosses_94 : tq_D cX3_quakeLosses 94 (.ladd) 1 95 := ⟨by decide +kernel, rfl⟩
theorem rX3_quakeLosses_95 : tq_D cX3_quakeLosses 95 (.lstore 5) 2 97 := ⟨by decide +kernel, rfl⟩
theorem rX3_quakeLosses_97 : tq_D cX3_quakeLosses 97 (.lload 7) 2 99 := ⟨by decide +kernel, rfl⟩
theorem rX3_quakeLosses_99 : tq_D cX3_quakeLosses 99 (.lconst 0) 1 100 := ⟨by decide +kernel, rfl⟩
theorem rX3_quakeLosses_100 : tq_D cX3_quakeLosses 100 (.lcmp) 1 101 := ⟨by decide +kernel, rfl⟩
theorem rX3_quakeLosses_101 : tq_J cX3_quakeLosses 101 (.ifCond .ne) 107 104 := ⟨6, by decide +kernel, by decide, rfl⟩
theorem rX3_quakeLosses_104 : tq_J cX3_quakeLosses 104 .goto 121 107 := ⟨17, by decide +kernel, by decide, rfl⟩
theorem rX3_quakeLosses_107 : tq_D cX3_quakeLosses 107 (.lload 7) 2 109 := ⟨by decide +kernel, rfl⟩
theorem rX3_quakeLosses_109 : tq_D cX3_quakeLosses 109 (.lconst 1) 1 110 := ⟨by decide +kernel, rfl⟩
theorem rX3_quakeLosses_110 : tq_D cX3_quakeLosses 110 (.lsub) 1 111 := ⟨by decide +kernel, rfl⟩
theorem rX3_quakeLosses_111 : tq_D cX3_quakeLosses 111 (.lload_n 2) 1 112 := ⟨by decide +kernel, rfl⟩
theorem rX3_quakeLosses_112 : tq_D cX3_quakeLosses 112 (.land) 1 113 := ⟨by decide +kernel, rfl⟩
theorem rX3_quakeLosses_113 : tq_D cX3_quakeLosses 113 (.lstore 7) 2 115 := ⟨by decide +kernel, rfl⟩
theorem rX3_quakeLosses_115 : tq_D cX3_quakeLosses 115 (.iinc 9 1) 3 118 := ⟨by decide +kernel, rfl⟩
theorem rX3_quakeLosses_118 : tq_J cX3_quakeLosses 118 .goto 25 121 := ⟨(-93), by decide +kernel, by decide, rfl⟩
theorem rX3_quakeLosses_121 : tq_D cX3_quakeLosses 121 (.lload 5) 2 123 := ⟨by decide +kernel, rfl⟩
theorem rX3_quakeLosses_123 : decode cX3_quakeLosses 123 = .ok (.lreturn, 1) := by decide +kernel
noncomputable def FX3_quakeLosses_s25 (I : tq_PI) (L : tq_PL) (a0 : Nat) (a1 : Int32) (a2 : Int64) (a4 : Int32) (a5 : Int64) (a7 : Int64) (a9 : Int32) : Option ((Int64 × Int64 × Int32) ⊕ (Int64)) :=
  (if (256 : Int32) ≤ a9 then some (.inr a5) else (tq_let (FJ13_bitCount_95d88 I L a7) fun p4 => (tq_let (FX3_solid I L a0) fun p5 => ((FX11_power I L ((Int32.toInt64 a1)) p4).bind fun p6 => ((FX11_power I L ((Int32.toInt64 ((10 : Int32) - a1))) ((a4 - p4))).bind fun p7 => ((FX3_settled I L a0 ((p5 &&& (a7 ^^^ (-1 : Int64))))).bind fun p8 => (tq_let (FJ13_bitCount_95d88 I L (((p5 &&& (a7 ^^^ (-1 : Int64))) &&& (p8 ^^^ (-1 : Int64))))) fun p9 => (if (lg_cmp a7 (0 : Int64)) = 0 then some (.inr (a5 + ((p6 * p7) * (Int32.toInt64 p9)))) else some (.inl ((a5 + ((p6 * p7) * (Int32.toInt64 p9))), ((a7 - (1 : Int64)) &&& a2), (a9 + 1)))))))))))
noncomputable def FX3_quakeLosses (I : tq_PI) (L : tq_PL) (a0 : Nat) (a1 : Int32) : Option (Int64) :=
  (tq_let (FX3_stones I L a0) fun p1 => (tq_let (FJ13_bitCount_95d88 I L ((p1 &&& (L a0 5)))) fun p2 => ((tq_it (fun p : Int64 × Int64 × Int32 => FX3_quakeLosses_s25 I L a0 a1 ((p1 &&& (L a0 5))) p2 p.1 p.2.1 p.2.2) tq_N ((0 : Int64), (p1 &&& (L a0 5)), (0 : Int32))).bind fun p11 => some p11)))
set_option maxRecDepth 100000 in
set_option maxHeartbeats 4000000 in
theorem FX3_quakeLosses_s25_x {S : Nat × (Nat → Int32)} {d : Nat} {I : tq_PI} {L : tq_PL} {a0 : Nat} {a1 : Int32} {a2 : Int64} {a4 : Int32} {a5 : Int64} {a7 : Int64} {a9 : Int32} (h0 : tq_sh0 a0 = 3) {q0 : Option Value → tq_PI → tq_PL → Prop} {out : (Int64 × Int64 × Int32) ⊕ (Int64)} (hf : FX3_quakeLosses_s25 I L a0 a1 a2 a4 a5 a7 a9 = some out) (hk : Sum.elim (fun p : Int64 × Int64 × Int32 => tq_X S mX3_quakeLosses (d + 3) tq_k0 25 ([.ref a0, .int a1, .long a2, tq_u, .int a4, .long p.1, tq_u, .long p.2.1, tq_u, .int p.2.2, tq_u, tq_u, tq_u]) [] (tq_st I L) (tq_Q q0)) (fun p : Int64 => tq_X S mX3_quakeLosses (d + 3) tq_k0 121 ([tq_u, tq_u, tq_u, tq_u, tq_u, .long p, tq_u, tq_u, tq_u, tq_u, tq_u, tq_u, tq_u]) [] (tq_st I L) (tq_Q q0)) out) : tq_X S mX3_quakeLosses (d + 3) tq_k0 25 ([.ref a0, .int a1, .long a2, tq_u, .int a4, .long a5, tq_u, .long a7, tq_u, .int a9, tq_u, tq_u, tq_u]) [] (tq_st I L) (tq_Q q0) := by
  unfold FX3_quakeLosses_s25 at hf
  refine tq_iload rX3_quakeLosses_25 rfl ?_
  refine tq_sipush (256 : Int32) rX3_quakeLosses_27 (by decide) ?_
  refine tq_icmp_ge rX3_quakeLosses_30 (fun c3 => ?_) (fun c3 => ?_)
  · rw [if_pos c3] at hf
    have hf := Option.some.inj hf
    subst hf
    exact tq_forget _ (tq_le_u (tq_le_u (tq_le_u (tq_le_u (tq_le_u (tq_le_s (tq_le_u (tq_le_u (tq_le_u (tq_le_u (tq_le_u (tq_le_u (tq_le_u tq_le_n))))))))))))) hk
  · rw [if_neg c3] at hf
    refine tq_lload rX3_quakeLosses_33 rfl ?_
    obtain ⟨p4, e4, hf⟩ := tq_let_elim hf
    refine ty_callSI p4 ([.long a7]) ([]) rX3_quakeLosses_35 l_X3_70 moJ13_bitCount_95d88 msJ13_bitCount_95d88 rfl rfl (Nat.le_of_ble_eq_true rfl) ⟨rfl, rfl⟩ (CJ13_bitCount_95d88  e4) ?_
    refine tq_istore ([.ref a0, .int a1, .long a2, tq_u, .int a4, .long a5, tq_u, .long a7, tq_u, .int a9, .int p4, tq_u, tq_u]) rX3_quakeLosses_38 (Nat.le_of_ble_eq_true rfl) rfl ?_
    refine tq_aload_n rX3_quakeLosses_40 rfl ?_
    obtain ⟨p5, e5, hf⟩ := tq_let_elim hf
    refine ty_callVJ p5 ([]) ([]) rX3_quakeLosses_41 l_X3_59 moX3_solid mvX3_solid h0 rfl rfl (Nat.le_of_ble_eq_true rfl) ⟨rfl, rfl⟩ (CX3_solid h0 e5) ?_
    refine tq_lload rX3_quakeLosses_44 rfl ?_
    refine tq_ldc2 rX3_quakeLosses_46 (k_X3_49) ?_
    refine tq_lxor rX3_quakeLosses_49 ?_
    refine tq_land rX3_quakeLosses_50 ?_
    refine tq_lstore ([.ref a0, .int a1, .long a2, tq_u, .int a4, .long a5, tq_u, .long a7, tq_u, .int a9, .int p4, .long (p5 &&& (a7 ^^^ (-1 : Int64))), tq_u]) rX3_quakeLosses_51 (Nat.le_of_ble_eq_true rfl) rfl ?_
    refine tq_lload rX3_quakeLosses_53 rfl ?_
    refine tq_iload_n rX3_quakeLosses_55 rfl ?_
    refine tq_i2l rX3_quakeLosses_56 ?_
    refine tq_iload rX3_quakeLosses_57 rfl ?_
    obtain ⟨p6, e6, hf⟩ := Option.bind_eq_some_iff.mp hf
    refine ty_callSJ p6 ([.long (Int32.toInt64 a1), .int p4]) ([.long a5]) rX3_quakeLosses_59 l_X3_160 moX11_power msX11_power rfl rfl (Nat.le_of_ble_eq_true rfl) ⟨rfl, rfl⟩ (CX11_power  e6) ?_
    refine tq_bipush (10 : Int32) rX3_quakeLosses_62 (by decide) ?_
    refine tq_iload_n rX3_quakeLosses_64 rfl ?_
    refine tq_isub rX3_quakeLosses_65 ?_
    refine tq_i2l rX3_quakeLosses_66 ?_
    refine tq_iload rX3_quakeLosses_67 rfl ?_
    refine tq_iload rX3_quakeLosses_69 rfl ?_
    refine tq_isub rX3_quakeLosses_71 ?_
    obtain ⟨p7, e7, hf⟩ := Option.bind_eq_some_iff.mp hf
    refine ty_callSJ p7 ([.long (Int32.toInt64 ((10 : Int32) - a1)), .int (a4 - p4)]) ([.long p6, .long a5]) rX3_quakeLosses_72 l_X3_160 moX11_power msX11_power rfl rfl (Nat.le_of_ble_eq_true rfl) ⟨rfl, rfl⟩ (CX11_power  e7) ?_
    refine tq_lmul rX3_quakeLosses_75 ?_
    refine tq_lload rX3_quakeLosses_76 rfl ?_
    refine tq_aload_n rX3_quakeLosses_78 rfl ?_
    refine tq_lload rX3_quakeLosses_79 rfl ?_
    obtain ⟨p8, e8, hf⟩ := Option.bind_eq_some_iff.mp hf
    refine ty_callVJ p8 ([.long (p5 &&& (a7 ^^^ (-1 : Int64)))]) ([.long (p5 &&& (a7 ^^^ (-1 : Int64))), .long (p6 * p7), .long a5]) rX3_quakeLosses_81 l_X3_102 moX3_settled mvX3_settled h0 rfl rfl (Nat.le_of_ble_eq_true rfl) ⟨rfl, rfl⟩ (CX3_settled h0 e8) ?_
    refine tq_ldc2 rX3_quakeLosses_84 (k_X3_49) ?_
    refine tq_lxor rX3_quakeLosses_87 ?_
    refine tq_land rX3_quakeLosses_88 ?_
    obtain ⟨p9, e9, hf⟩ := tq_let_elim hf
    refine ty_callSI p9 ([.long ((p5 &&& (a7 ^^^ (-1 : Int64))) &&& (p8 ^^^ (-1 : Int64)))]) ([.long (p6 * p7), .long a5]) rX3_quakeLosses_89 l_X3_70 moJ13_bitCount_95d88 msJ13_bitCount_95d88 rfl rfl (Nat.le_of_ble_eq_true rfl) ⟨rfl, rfl⟩ (CJ13_bitCount_95d88  e9) ?_
    refine tq_i2l rX3_quakeLosses_92 ?_
    refine tq_lmul rX3_quakeLosses_93 ?_
    refine tq_ladd rX3_quakeLosses_94 ?_
    refine tq_lstore ([.ref a0, .int a1, .long a2, tq_u, .int a4, .long (a5 + ((p6 * p7) * (Int32.toInt64 p9))), tq_u, .long a7, tq_u, .int a9, .int p4, .long (p5 &&& (a7 ^^^ (-1 : Int64))), tq_u]) rX3_quakeLosses_95 (Nat.le_of_ble_eq_true rfl) rfl ?_
    refine tq_lload rX3_quakeLosses_97 rfl ?_
    refine tq_lconst (0 : Int64) rX3_quakeLosses_99 (by decide) ?_
    refine tq_lcmp rX3_quakeLosses_100 ?_
    refine tq_if_ne rX3_quakeLosses_101 (fun c10 => ?_) (fun c10 => ?_)
    · rw [if_neg c10] at hf
      refine tq_lload rX3_quakeLosses_107 rfl ?_
      refine tq_lconst (1 : Int64) rX3_quakeLosses_109 (by decide) ?_
      refine tq_lsub rX3_quakeLosses_110 ?_
      refine tq_lload_n rX3_quakeLosses_111 rfl ?_
      refine tq_land rX3_quakeLosses_112 ?_
      refine tq_lstore ([.ref a0, .int a1, .long a2, tq_u, .int a4, .long (a5 + ((p6 * p7) * (Int32.toInt64 p9))), tq_u, .long ((a7 - (1 : Int64)) &&& a2), tq_u, .int a9, .int p4, .long (p5 &&& (a7 ^^^ (-1 : Int64))), tq_u]) rX3_quakeLosses_113 (Nat.le_of_ble_eq_true rfl) rfl ?_
      refine tq_iinc (a9 + 1) ([.ref a0, .int a1, .long a2, tq_u, .int a4, .long (a5 + ((p6 * p7) * (Int32.toInt64 p9))), tq_u, .long ((a7 - (1 : Int64)) &&& a2), tq_u, .int (a9 + 1), .int p4, .long (p5 &&& (a7 ^^^ (-1 : Int64))), tq_u]) rX3_quakeLosses_115 rfl (tq_inc (by decide)) (Nat.le_of_ble_eq_true rfl) rfl ?_
      refine tq_goto rX3_quakeLosses_118 ?_
      have hf := Option.some.inj hf
      subst hf
      exact tq_forget _ (tq_le_s (tq_le_s (tq_le_s (tq_le_u (tq_le_s (tq_le_s (tq_le_u (tq_le_s (tq_le_u (tq_le_s (tq_le_u (tq_le_u (tq_le_u tq_le_n))))))))))))) hk
    · rw [if_pos c10] at hf
      refine tq_goto rX3_quakeLosses_104 ?_
      have hf := Option.some.inj hf
      subst hf
      exact tq_forget _ (tq_le_u (tq_le_u (tq_le_u (tq_le_u (tq_le_u (tq_le_s (tq_le_u (tq_le_u (tq_le_u (tq_le_u (tq_le_u (tq_le_u (tq_le_u tq_le_n))))))))))))) hk

set_option maxRecDepth 100000 in
set_option maxHeartbeats 4000000 in
theorem CX3_quakeLosses {S : Nat × (Nat → Int32)} {d : Nat} {I : tq_PI} {L : tq_PL} {a0 : Nat} {a1 : Int32} (h0 : tq_sh0 a0 = 3) {out : Int64} (hf : FX3_quakeLosses I L a0 a1 = some out) : tq_K S mX3_quakeLosses (d + 3) [.ref a0, .int a1] I L (tq_one2 (some (.long out)) I L) := by
  unfold FX3_quakeLosses at hf
  refine tq_K_of (by decide) (Nat.le_of_ble_eq_true rfl) (ls := [.ref a0, .int a1, tq_u, tq_u, tq_u, tq_u, tq_u, tq_u, tq_u, tq_u, tq_u, tq_u, tq_u]) rfl ?_
  refine tq_aload_n rX3_quakeLosses_0 rfl ?_
  obtain ⟨p1, e1, hf⟩ := tq_let_elim hf
  refine ty_callVJ p1 ([]) ([]) rX3_quakeLosses_1 l_X3_55 moX3_stones mvX3_stones h0 rfl rfl (Nat.le_of_ble_eq_true rfl) ⟨rfl, rfl⟩ (CX3_stones h0 e1) ?_
  refine tq_aload_n rX3_quakeLosses_4 rfl ?_
  refine ty_getL rX3_quakeLosses_5 f_X3_28 rfl h0 ?_
  refine tq_land rX3_quakeLosses_8 ?_
  refine tq_lstore_n ([.ref a0, .int a1, .long (p1 &&& (L a0 5)), tq_u, tq_u, tq_u, tq_u, tq_u, tq_u, tq_u, tq_u, tq_u, tq_u]) rX3_quakeLosses_9 (Nat.le_of_ble_eq_true rfl) rfl ?_
  refine tq_lload_n rX3_quakeLosses_10 rfl ?_
  obtain ⟨p2, e2, hf⟩ := tq_let_elim hf
  refine ty_callSI p2 ([.long (p1 &&& (L a0 5))]) ([]) rX3_quakeLosses_11 l_X3_70 moJ13_bitCount_95d88 msJ13_bitCount_95d88 rfl rfl (Nat.le_of_ble_eq_true rfl) ⟨rfl, rfl⟩ (CJ13_bitCount_95d88  e2) ?_
  refine tq_istore ([.ref a0, .int a1, .long (p1 &&& (L a0 5)), tq_u, .int p2, tq_u, tq_u, tq_u, tq_u, tq_u, tq_u, tq_u, tq_u]) rX3_quakeLosses_14 (Nat.le_of_ble_eq_true rfl) rfl ?_
  refine tq_lconst (0 : Int64) rX3_quakeLosses_16 (by decide) ?_
  refine tq_lstore ([.ref a0, .int a1, .long (p1 &&& (L a0 5)), tq_u, .int p2, .long (0 : Int64), tq_u, tq_u, tq_u, tq_u, tq_u, tq_u, tq_u]) rX3_quakeLosses_17 (Nat.le_of_ble_eq_true rfl) rfl ?_
  refine tq_lload_n rX3_quakeLosses_19 rfl ?_
  refine tq_lstore ([.ref a0, .int a1, .long (p1 &&& (L a0 5)), tq_u, .int p2, .long (0 : Int64), tq_u, .long (p1 &&& (L a0 5)), tq_u, tq_u, tq_u, tq_u, tq_u]) rX3_quakeLosses_20 (Nat.le_of_ble_eq_true rfl) rfl ?_
  refine tq_iconst (0 : Int32) rX3_quakeLosses_22 (by decide) ?_
  refine tq_istore ([.ref a0, .int a1, .long (p1 &&& (L a0 5)), tq_u, .int p2, .long (0 : Int64), tq_u, .long (p1 &&& (L a0 5)), tq_u, .int (0 : Int32), tq_u, tq_u, tq_u]) rX3_quakeLosses_23 (Nat.le_of_ble_eq_true rfl) rfl ?_
  obtain ⟨p11, e11, hf⟩ := Option.bind_eq_some_iff.mp hf
  refine tq_forget _ (tq_le_s (tq_le_s (tq_le_s (tq_le_u (tq_le_s (tq_le_s (tq_le_u (tq_le_s (tq_le_u (tq_le_s (tq_le_u (tq_le_u (tq_le_u tq_le_n))))))))))))) ?_
  refine tq_it_elim (P := fun p : Int64 × Int64 × Int32 => tq_X S mX3_quakeLosses (d + 3) tq_k0 25 ([.ref a0, .int a1, .long (p1 &&& (L a0 5)), tq_u, .int p2, .long p.1, tq_u, .long p.2.1, tq_u, .int p.2.2, tq_u, tq_u, tq_u]) [] (tq_st I L) (tq_Q (tq_one2 (some (.long out)) I L))) (R := fun p : Int64 => tq_X S mX3_quakeLosses (d + 3) tq_k0 121 ([tq_u, tq_u, tq_u, tq_u, tq_u, .long p, tq_u, tq_u, tq_u, tq_u, tq_u, tq_u, tq_u]) [] (tq_st I L) (tq_Q (tq_one2 (some (.long out)) I L))) (fun p o hp hk => FX3_quakeLosses_s25_x  h0 hp hk) _ (((0 : Int64), (p1 &&& (L a0 5)), (0 : Int32))) _ e11 ?_
  show tq_X _ _ _ _ _ _ _ _ _
  refine tq_lload rX3_quakeLosses_121 rfl ?_
  refine ty_lret rX3_quakeLosses_123 rfl rfl ?_
  have hf := Option.some.inj hf
  subst hf
  exact ⟨rfl, rfl, rfl⟩

abbrev mX3_caveCount : tq_M := (yX3_caveCount, cX3_caveCount, 5, (Option.some Jvm.ClassFile.FieldType.int), 0, 0)
theorem rX3_caveCount_0 : tq_D cX3_caveCount 0 (.aload_n 0) 1 1 := ⟨by decide +kernel, rfl⟩
theorem rX3_caveCount_1 : tq_D cX3_caveCount 1 (.invokevirtual 139) 3 4 := ⟨by decide +kernel, rfl⟩
theorem rX3_caveCount_4 : tq_D cX3_caveCount 4 (.lstore_n 1) 1 5 := ⟨by decide +kernel, rfl⟩
theorem rX3_caveCount_5 : tq_D cX3_caveCount 5 (.iconst 0) 1 6 := ⟨by decide +kernel, rfl⟩
theorem rX3_caveCount_6 : tq_D cX3_caveCount 6 (.istore_n 3) 1 7 := ⟨by decide +kernel, rfl⟩
theorem rX3_caveCount_7 : tq_D cX3_caveCount 7 (.iconst 0) 1 8 := ⟨by decide +kernel, rfl⟩
theorem rX3_caveCount_8 : tq_D cX3_caveCount 8 (.istore 4) 2 10 := ⟨by decide +kernel, rfl⟩
theorem rX3_caveCount_10 : tq_D cX3_caveCount 10 (.iload 4) 2 12 := ⟨by decide +kernel, rfl⟩
theorem rX3_caveCount_12 : tq_D cX3_caveCount 12 (.bipush 48) 2 14 := ⟨by decide +kernel, rfl⟩
theorem rX3_caveCount_14 : tq_J cX3_caveCount 14 (.if_icmp .ge) 47 17 := ⟨33, by decide +kernel, by decide, rfl⟩
theorem rX3_caveCount_17 : tq_D cX3_caveCount 17 (.lload_n 1) 1 18 := ⟨by decide +kernel, rfl⟩
theorem rX3_caveCount_18 : tq_D cX3_caveCount 18 (.lconst 0) 1 19 := ⟨by decide +kernel, rfl⟩
theorem rX3_caveCount_19 : tq_D cX3_caveCount 19 (.lcmp) 1 20 := ⟨by decide +kernel, rfl⟩
theorem rX3_caveCount_20 : tq_J cX3_caveCount 20 (.ifCond .eq) 47 23 := ⟨27, by decide +kernel, by decide, rfl⟩
theorem rX3_caveCount_23 : tq_D cX3_caveCount 23 (.lload_n 1) 1 24 := ⟨by decide +kernel, rfl⟩
theorem rX3_caveCount_24 : tq_D cX3_caveCount 24 (.lload_n 1) 1 25 := ⟨by decide +kernel, rfl⟩
theorem rX3_caveCount_25 : tq_D cX3_caveCount 25 (.invokestatic 76) 3 28 := ⟨by decide +kernel, rfl⟩
theorem rX3_caveCount_28 : tq_D cX3_caveCount 28 (.lload_n 1) 1 29 := ⟨by decide +kernel, rfl⟩
theorem rX3_caveCount_29 : tq_D cX3_caveCount 29 (.invokestatic 111) 3 32 := ⟨by decide +kernel, rfl⟩
theorem rX3_caveCount_32 : tq_D cX3_caveCount 32 (.ldc2_w 49) 3 35 := ⟨by decide +kernel, rfl⟩
theorem rX3_caveCount_35 : tq_D cX3_caveCount 35 (.lxor) 1 36 := ⟨by decide +kernel, rfl⟩
theorem rX3_caveCount_36 : tq_D cX3_caveCount 36 (.land) 1 37 := ⟨by decide +kernel, rfl⟩
theorem rX3_caveCount_37 : tq_D cX3_caveCount 37 (.lstore_n 1) 1 38 := ⟨by decide +kernel, rfl⟩
theorem rX3_caveCount_38 : tq_D cX3_caveCount 38 (.iinc 3 1) 3 41 := ⟨by decide +kernel, rfl⟩
theorem rX3_caveCount_41 : tq_D cX3_caveCount 41 (.iinc 4 1) 3 44 := ⟨by decide +kernel, rfl⟩
theorem rX3_caveCount_44 : tq_J cX3_caveCount 44 .goto 10 47 := ⟨(-34), by decide +kernel, by decide, rfl⟩
theorem rX3_caveCount_47 : tq_D cX3_caveCount 47 (.iload_n 3) 1 48 := ⟨by decide +kernel, rfl⟩
theorem rX3_caveCount_48 : decode cX3_caveCount 48 = .ok (.ireturn, 1) := by decide +kernel
noncomputable def FX3_caveCount_s10 (I : tq_PI) (L : tq_PL) (a1 : Int64) (a3 : Int32) (a4 : Int32) : Option ((Int64 × Int32 × Int32) ⊕ (Int32)) :=
  (if (48 : Int32) ≤ a4 then some (.inr a3) else (if (lg_cmp a1 (0 : Int64)) = 0 then some (.inr a3) else (tq_let (FX11_lowest I L a1) fun p4 => ((FX11_flood I L p4 a1).bind fun p5 => some (.inl ((a1 &&& (p5 ^^^ (-1 : Int64))), (a3 + 1), (a4 + 1)))))))
noncomputable def FX3_caveCount (I : tq_PI) (L : tq_PL) (a0 : Nat) : Option (Int32) :=
  (tq_let (FX3_air I L a0) fun p1 => ((tq_it (fun p : Int64 × Int32 × Int32 => FX3_caveCount_s10 I L  p.1 p.2.1 p.2.2) tq_N (p1, (0 : Int32), (0 : Int32))).bind fun p6 => some p6))
set_option maxRecDepth 100000 in
set_option maxHeartbeats 4000000 in
theorem FX3_caveCount_s10_x {S : Nat × (Nat → Int32)} {d : Nat} {I : tq_PI} {L : tq_PL} {a1 : Int64} {a3 : Int32} {a4 : Int32}  {q0 : Option Value → tq_PI → tq_PL → Prop} {out : (Int64 × Int32 × Int32) ⊕ (Int32)} (hf : FX3_caveCount_s10 I L a1 a3 a4 = some out) (hk : Sum.elim (fun p : Int64 × Int32 × Int32 => tq_X S mX3_caveCount (d + 3) tq_k0 10 ([tq_u, .long p.1, tq_u, .int p.2.1, .int p.2.2]) [] (tq_st I L) (tq_Q q0)) (fun p : Int32 => tq_X S mX3_caveCount (d + 3) tq_k0 47 ([tq_u, tq_u, tq_u, .int p, tq_u]) [] (tq_st I L) (tq_Q q0)) out) : tq_X S mX3_caveCount (d + 3) tq_k0 10 ([tq_u, .long a1, tq_u, .int a3, .int a4]) [] (tq_st I L) (tq_Q q0) := by
  unfold FX3_caveCount_s10 at hf
  refine tq_iload rX3_caveCount_10 rfl ?_
  refine tq_bipush (48 : Int32) rX3_caveCount_12 (by decide) ?_
  refine tq_icmp_ge rX3_caveCount_14 (fun c2 => ?_) (fun c2 => ?_)
  · rw [if_pos c2] at hf
    have hf := Option.some.inj hf
    subst hf
    exact tq_forget _ (tq_le_u (tq_le_u (tq_le_u (tq_le_s (tq_le_u tq_le_n))))) hk
  · rw [if_neg c2] at hf
    refine tq_lload_n rX3_caveCount_17 rfl ?_
    refine tq_lconst (0 : Int64) rX3_caveCount_18 (by decide) ?_
    refine tq_lcmp rX3_caveCount_19 ?_
    refine tq_if_eq rX3_caveCount_20 (fun c3 => ?_) (fun c3 => ?_)
    · rw [if_pos c3] at hf
      have hf := Option.some.inj hf
      subst hf
      exact tq_forget _ (tq_le_u (tq_le_u (tq_le_u (tq_le_s (tq_le_u tq_le_n))))) hk
    · rw [if_neg c3] at hf
      refine tq_lload_n rX3_caveCount_23 rfl ?_
      refine tq_lload_n rX3_caveCount_24 rfl ?_
      obtain ⟨p4, e4, hf⟩ := tq_let_elim hf
      refine ty_callSJ p4 ([.long a1]) ([.long a1]) rX3_caveCount_25 l_X3_76 moX11_lowest msX11_lowest rfl rfl (Nat.le_of_ble_eq_true rfl) ⟨rfl, rfl⟩ (CX11_lowest  e4) ?_
      refine tq_lload_n rX3_caveCount_28 rfl ?_
      obtain ⟨p5, e5, hf⟩ := Option.bind_eq_some_iff.mp hf
      refine ty_callSJ p5 ([.long p4, .long a1]) ([.long a1]) rX3_caveCount_29 l_X3_111 moX11_flood msX11_flood rfl rfl (Nat.le_of_ble_eq_true rfl) ⟨rfl, rfl⟩ (CX11_flood  e5) ?_
      refine tq_ldc2 rX3_caveCount_32 (k_X3_49) ?_
      refine tq_lxor rX3_caveCount_35 ?_
      refine tq_land rX3_caveCount_36 ?_
      refine tq_lstore_n ([tq_u, .long (a1 &&& (p5 ^^^ (-1 : Int64))), tq_u, .int a3, .int a4]) rX3_caveCount_37 (Nat.le_of_ble_eq_true rfl) rfl ?_
      refine tq_iinc (a3 + 1) ([tq_u, .long (a1 &&& (p5 ^^^ (-1 : Int64))), tq_u, .int (a3 + 1), .int a4]) rX3_caveCount_38 rfl (tq_inc (by decide)) (Nat.le_of_ble_eq_true rfl) rfl ?_
      refine tq_iinc (a4 + 1) ([tq_u, .long (a1 &&& (p5 ^^^ (-1 : Int64))), tq_u, .int (a3 + 1), .int (a4 + 1)]) rX3_caveCount_41 rfl (tq_inc (by decide)) (Nat.le_of_ble_eq_true rfl) rfl ?_
      refine tq_goto rX3_caveCount_44 ?_
      have hf := Option.some.inj hf
      subst hf
      exact tq_forget _ (tq_le_u (tq_le_s (tq_le_u (tq_le_s (tq_le_s tq_le_n))))) hk

set_option maxRecDepth 100000 in
set_option maxHeartbeats 4000000 in
theorem CX3_caveCount {S : Nat × (Nat → Int32)} {d : Nat} {I : tq_PI} {L : tq_PL} {a0 : Nat} (h0 : tq_sh0 a0 = 3) {out : Int32} (hf : FX3_caveCount I L a0 = some out) : tq_K S mX3_caveCount (d + 3) [.ref a0] I L (tq_one2 (some (.int out)) I L) := by
  unfold FX3_caveCount at hf
  refine tq_K_of (by decide) (Nat.le_of_ble_eq_true rfl) (ls := [.ref a0, tq_u, tq_u, tq_u, tq_u]) rfl ?_
  refine tq_aload_n rX3_caveCount_0 rfl ?_
  obtain ⟨p1, e1, hf⟩ := tq_let_elim hf
  refine ty_callVJ p1 ([]) ([]) rX3_caveCount_1 l_X3_139 moX3_air mvX3_air h0 rfl rfl (Nat.le_of_ble_eq_true rfl) ⟨rfl, rfl⟩ (CX3_air h0 e1) ?_
  refine tq_lstore_n ([.ref a0, .long p1, tq_u, tq_u, tq_u]) rX3_caveCount_4 (Nat.le_of_ble_eq_true rfl) rfl ?_
  refine tq_iconst (0 : Int32) rX3_caveCount_5 (by decide) ?_
  refine tq_istore_n ([.ref a0, .long p1, tq_u, .int (0 : Int32), tq_u]) rX3_caveCount_6 (Nat.le_of_ble_eq_true rfl) rfl ?_
  refine tq_iconst (0 : Int32) rX3_caveCount_7 (by decide) ?_
  refine tq_istore ([.ref a0, .long p1, tq_u, .int (0 : Int32), .int (0 : Int32)]) rX3_caveCount_8 (Nat.le_of_ble_eq_true rfl) rfl ?_
  obtain ⟨p6, e6, hf⟩ := Option.bind_eq_some_iff.mp hf
  refine tq_forget _ (tq_le_u (tq_le_s (tq_le_u (tq_le_s (tq_le_s tq_le_n))))) ?_
  refine tq_it_elim (P := fun p : Int64 × Int32 × Int32 => tq_X S mX3_caveCount (d + 3) tq_k0 10 ([tq_u, .long p.1, tq_u, .int p.2.1, .int p.2.2]) [] (tq_st I L) (tq_Q (tq_one2 (some (.int out)) I L))) (R := fun p : Int32 => tq_X S mX3_caveCount (d + 3) tq_k0 47 ([tq_u, tq_u, tq_u, .int p, tq_u]) [] (tq_st I L) (tq_Q (tq_one2 (some (.int out)) I L))) (fun p o hp hk => FX3_caveCount_s10_x   hp hk) _ ((p1, (0 : Int32), (0 : Int32))) _ e6 ?_
  show tq_X _ _ _ _ _ _ _ _ _
  refine tq_iload_n rX3_caveCount_47 rfl ?_
  refine ty_iret rX3_caveCount_48 rfl rfl ?_
  have hf := Option.some.inj hf
  subst hf
  exact ⟨rfl, rfl, rfl⟩

abbrev mX3_largestCave : tq_M := (yX3_largestCave, cX3_largestCave, 7, (Option.some Jvm.ClassFile.FieldType.int), 0, 0)
theorem n_X3_164 : Cond.methodLink RX3 164 Lib.Math.max.name ∈ lw_tbl ∧ Cond.static Lib.Math.max.name ∈ lw_tbl ∧ Cond.initialized "java/lang/Math" ∈ lw_tbl ∧ Cond.code Lib.Math.max.name Lib.Math.max.code 2 (some .int) ∈ lw_tbl := ⟨tq_sg5 _ (List.mem_of_getElem? (i := 167) rfl), tq_sg2 _ (List.mem_of_getElem? (i := 180) rfl), tq_sg1 _ (List.mem_of_getElem? (i := 14) rfl), tq_sg2 _ (List.mem_of_getElem? (i := 181) rfl)⟩
theorem rX3_largestCave_0 : tq_D cX3_largestCave 0 (.aload_n 0) 1 1 := ⟨by decide +kernel, rfl⟩
theorem rX3_largestCave_1 : tq_D cX3_largestCave 1 (.invokevirtual 139) 3 4 := ⟨by decide +kernel, rfl⟩
theorem rX3_largestCave_4 : tq_D cX3_largestCave 4 (.lstore_n 1) 1 5 := ⟨by decide +kernel, rfl⟩
theorem rX3_largestCave_5 : tq_D cX3_largestCave 5 (.iconst 0) 1 6 := ⟨by decide +kernel, rfl⟩
theorem rX3_largestCave_6 : tq_D cX3_largestCave 6 (.istore_n 3) 1 7 := ⟨by decide +kernel, rfl⟩
theorem rX3_largestCave_7 : tq_D cX3_largestCave 7 (.iconst 0) 1 8 := ⟨by decide +kernel, rfl⟩
theorem rX3_largestCave_8 : tq_D cX3_largestCave 8 (.istore 4) 2 10 := ⟨by decide +kernel, rfl⟩
theorem rX3_largestCave_10 : tq_D cX3_largestCave 10 (.iload 4) 2 12 := ⟨by decide +kernel, rfl⟩
theorem rX3_largestCave_12 : tq_D cX3_largestCave 12 (.bipush 48) 2 14 := ⟨by decide +kernel, rfl⟩
theorem rX3_largestCave_14 : tq_J cX3_largestCave 14 (.if_icmp .ge) 58 17 := ⟨44, by decide +kernel, by decide, rfl⟩
theorem rX3_largestCave_17 : tq_D cX3_largestCave 17 (.lload_n 1) 1 18 := ⟨by decide +kernel, rfl⟩
theorem rX3_largestCave_18 : tq_D cX3_largestCave 18 (.lconst 0) 1 19 := ⟨by decide +kernel, rfl⟩
theorem rX3_largestCave_19 : tq_D cX3_largestCave 19 (.lcmp) 1 20 := ⟨by decide +kernel, rfl⟩
theorem rX3_largestCave_20 : tq_J cX3_largestCave 20 (.ifCond .eq) 58 23 := ⟨38, by decide +kernel, by decide, rfl⟩
theorem rX3_largestCave_23 : tq_D cX3_largestCave 23 (.lload_n 1) 1 24 := ⟨by decide +kernel, rfl⟩
theorem rX3_largestCave_24 : tq_D cX3_largestCave 24 (.invokestatic 76) 3 27 := ⟨by decide +kernel, rfl⟩
theorem rX3_largestCave_27 : tq_D cX3_largestCave 27 (.lload_n 1) 1 28 := ⟨by decide +kernel, rfl⟩
theorem rX3_largestCave_28 : tq_D cX3_largestCave 28 (.invokestatic 111) 3 31 := ⟨by decide +kernel, rfl⟩
theorem rX3_largestCave_31 : tq_D cX3_largestCave 31 (.lstore 5) 2 33 := ⟨by decide +kernel, rfl⟩
theorem rX3_largestCave_33 : tq_D cX3_largestCave 33 (.iload_n 3) 1 34 := ⟨by decide +kernel, rfl⟩
theorem rX3_largestCave_34 : tq_D cX3_largestCave 34 (.lload 5) 2 36 := ⟨by decide +kernel, rfl⟩
theorem rX3_largestCave_36 : tq_D cX3_largestCave 36 (.invokestatic 70) 3 39 := ⟨by decide +kernel, rfl⟩
theorem rX3_largestCave_39 : tq_D cX3_largestCave 39 (.invokestatic 164) 3 42 := ⟨by decide +kernel, rfl⟩
theorem rX3_largestCave_42 : tq_D cX3_largestCave 42 (.istore_n 3) 1 43 := ⟨by decide +kernel, rfl⟩
theorem rX3_largestCave_43 : tq_D cX3_largestCave 43 (.lload_n 1) 1 44 := ⟨by decide +kernel, rfl⟩
theorem rX3_largestCave_44 : tq_D cX3_largestCave 44 (.lload 5) 2 46 := ⟨by decide +kernel, rfl⟩
theorem rX3_largestCave_46 : tq_D cX3_largestCave 46 (.ldc2_w 49) 3 49 := ⟨by decide +kernel, rfl⟩
theorem rX3_largestCave_49 : tq_D cX3_largestCave 49 (.lxor) 1 50 := ⟨by decide +kernel, rfl⟩
theorem rX3_largestCave_50 : tq_D cX3_largestCave 50 (.land) 1 51 := ⟨by decide +kernel, rfl⟩
theorem rX3_largestCave_51 : tq_D cX3_largestCave 51 (.lstore_n 1) 1 52 := ⟨by decide +kernel, rfl⟩
theorem rX3_largestCave_52 : tq_D cX3_largestCave 52 (.iinc 4 1) 3 55 := ⟨by decide +kernel, rfl⟩
theorem rX3_largestCave_55 : tq_J cX3_largestCave 55 .goto 10 58 := ⟨(-45), by decide +kernel, by decide, rfl⟩
theorem rX3_largestCave_58 : tq_D cX3_largestCave 58 (.iload_n 3) 1 59 := ⟨by decide +kernel, rfl⟩
theorem rX3_largestCave_59 : decode cX3_largestCave 59 = .ok (.ireturn, 1) := by decide +kernel
noncomputable def FX3_largestCave_s10 (I : tq_PI) (L : tq_PL) (a1 : Int64) (a3 : Int32) (a4 : Int32) : Option ((Int64 × Int32 × Int32) ⊕ (Int32)) :=
  (if (48 : Int32) ≤ a4 then some (.inr a3) else (if (lg_cmp a1 (0 : Int64)) = 0 then some (.inr a3) else (tq_let (FX11_lowest I L a1) fun p4 => ((FX11_flood I L p4 a1).bind fun p5 => (tq_let (FJ13_bitCount_95d88 I L p5) fun p6 => some (.inl ((a1 &&& (p5 ^^^ (-1 : Int64))), (if a3 < p6 then p6 else a3), (a4 + 1))))))))
noncomputable def FX3_largestCave (I : tq_PI) (L : tq_PL) (a0 : Nat) : Option (Int32) :=
  (tq_let (FX3_air I L a0) fun p1 => ((tq_it (fun p : Int64 × Int32 × Int32 => FX3_largestCave_s10 I L  p.1 p.2.1 p.2.2) tq_N (p1, (0 : Int32), (0 : Int32))).bind fun p7 => some p7))
set_option maxRecDepth 100000 in
set_option maxHeartbeats 4000000 in
theorem FX3_largestCave_s10_x {S : Nat × (Nat → Int32)} {d : Nat} {I : tq_PI} {L : tq_PL} {a1 : Int64} {a3 : Int32} {a4 : Int32}  {q0 : Option Value → tq_PI → tq_PL → Prop} {out : (Int64 × Int32 × Int32) ⊕ (Int32)} (hf : FX3_largestCave_s10 I L a1 a3 a4 = some out) (hk : Sum.elim (fun p : Int64 × Int32 × Int32 => tq_X S mX3_largestCave (d + 3) tq_k0 10 ([tq_u, .long p.1, tq_u, .int p.2.1, .int p.2.2, tq_u, tq_u]) [] (tq_st I L) (tq_Q q0)) (fun p : Int32 => tq_X S mX3_largestCave (d + 3) tq_k0 58 ([tq_u, tq_u, tq_u, .int p, tq_u, tq_u, tq_u]) [] (tq_st I L) (tq_Q q0)) out) : tq_X S mX3_largestCave (d + 3) tq_k0 10 ([tq_u, .long a1, tq_u, .int a3, .int a4, tq_u, tq_u]) [] (tq_st I L) (tq_Q q0) := by
  unfold FX3_largestCave_s10 at hf
  refine tq_iload rX3_largestCave_10 rfl ?_
  refine tq_bipush (48 : Int32) rX3_largestCave_12 (by decide) ?_
  refine tq_icmp_ge rX3_largestCave_14 (fun c2 => ?_) (fun c2 => ?_)
  · rw [if_pos c2] at hf
    have hf := Option.some.inj hf
    subst hf
    exact tq_forget _ (tq_le_u (tq_le_u (tq_le_u (tq_le_s (tq_le_u (tq_le_u (tq_le_u tq_le_n))))))) hk
  · rw [if_neg c2] at hf
    refine tq_lload_n rX3_largestCave_17 rfl ?_
    refine tq_lconst (0 : Int64) rX3_largestCave_18 (by decide) ?_
    refine tq_lcmp rX3_largestCave_19 ?_
    refine tq_if_eq rX3_largestCave_20 (fun c3 => ?_) (fun c3 => ?_)
    · rw [if_pos c3] at hf
      have hf := Option.some.inj hf
      subst hf
      exact tq_forget _ (tq_le_u (tq_le_u (tq_le_u (tq_le_s (tq_le_u (tq_le_u (tq_le_u tq_le_n))))))) hk
    · rw [if_neg c3] at hf
      refine tq_lload_n rX3_largestCave_23 rfl ?_
      obtain ⟨p4, e4, hf⟩ := tq_let_elim hf
      refine ty_callSJ p4 ([.long a1]) ([]) rX3_largestCave_24 l_X3_76 moX11_lowest msX11_lowest rfl rfl (Nat.le_of_ble_eq_true rfl) ⟨rfl, rfl⟩ (CX11_lowest  e4) ?_
      refine tq_lload_n rX3_largestCave_27 rfl ?_
      obtain ⟨p5, e5, hf⟩ := Option.bind_eq_some_iff.mp hf
      refine ty_callSJ p5 ([.long p4, .long a1]) ([]) rX3_largestCave_28 l_X3_111 moX11_flood msX11_flood rfl rfl (Nat.le_of_ble_eq_true rfl) ⟨rfl, rfl⟩ (CX11_flood  e5) ?_
      refine tq_lstore ([tq_u, .long a1, tq_u, .int a3, .int a4, .long p5, tq_u]) rX3_largestCave_31 (Nat.le_of_ble_eq_true rfl) rfl ?_
      refine tq_iload_n rX3_largestCave_33 rfl ?_
      refine tq_lload rX3_largestCave_34 rfl ?_
      obtain ⟨p6, e6, hf⟩ := tq_let_elim hf
      refine ty_callSI p6 ([.long p5]) ([.int a3]) rX3_largestCave_36 l_X3_70 moJ13_bitCount_95d88 msJ13_bitCount_95d88 rfl rfl (Nat.le_of_ble_eq_true rfl) ⟨rfl, rfl⟩ (CJ13_bitCount_95d88  e6) ?_
      refine tq_mmax rX3_largestCave_39 (Nat.le_of_ble_eq_true rfl) n_X3_164 ?_
      refine tq_istore_n ([tq_u, .long a1, tq_u, .int (if a3 < p6 then p6 else a3), .int a4, .long p5, tq_u]) rX3_largestCave_42 (Nat.le_of_ble_eq_true rfl) rfl ?_
      refine tq_lload_n rX3_largestCave_43 rfl ?_
      refine tq_lload rX3_largestCave_44 rfl ?_
      refine tq_ldc2 rX3_largestCave_46 (k_X3_49) ?_
      refine tq_lxor rX3_largestCave_49 ?_
      refine tq_land rX3_largestCave_50 ?_
      refine tq_lstore_n ([tq_u, .long (a1 &&& (p5 ^^^ (-1 : Int64))), tq_u, .int (if a3 < p6 then p6 else a3), .int a4, .long p5, tq_u]) rX3_largestCave_51 (Nat.le_of_ble_eq_true rfl) rfl ?_
      refine tq_iinc (a4 + 1) ([tq_u, .long (a1 &&& (p5 ^^^ (-1 : Int64))), tq_u, .int (if a3 < p6 then p6 else a3), .int (a4 + 1), .long p5, tq_u]) rX3_largestCave_52 rfl (tq_inc (by decide)) (Nat.le_of_ble_eq_true rfl) rfl ?_
      refine tq_goto rX3_largestCave_55 ?_
      have hf := Option.some.inj hf
      subst hf
      exact tq_forget _ (tq_le_u (tq_le_s (tq_le_u (tq_le_s (tq_le_s (tq_le_u (tq_le_u tq_le_n))))))) hk

set_option maxRecDepth 100000 in
set_option maxHeartbeats 4000000 in
theorem CX3_largestCave {S : Nat × (Nat → Int32)} {d : Nat} {I : tq_PI} {L : tq_PL} {a0 : Nat} (h0 : tq_sh0 a0 = 3) {out : Int32} (hf : FX3_largestCave I L a0 = some out) : tq_K S mX3_largestCave (d + 3) [.ref a0] I L (tq_one2 (some (.int out)) I L) := by
  unfold FX3_largestCave at hf
  refine tq_K_of (by decide) (Nat.le_of_ble_eq_true rfl) (ls := [.ref a0, tq_u, tq_u, tq_u, tq_u, tq_u, tq_u]) rfl ?_
  refine tq_aload_n rX3_largestCave_0 rfl ?_
  obtain ⟨p1, e1, hf⟩ := tq_let_elim hf
  refine ty_callVJ p1 ([]) ([]) rX3_largestCave_1 l_X3_139 moX3_air mvX3_air h0 rfl rfl (Nat.le_of_ble_eq_true rfl) ⟨rfl, rfl⟩ (CX3_air h0 e1) ?_
  refine tq_lstore_n ([.ref a0, .long p1, tq_u, tq_u, tq_u, tq_u, tq_u]) rX3_largestCave_4 (Nat.le_of_ble_eq_true rfl) rfl ?_
  refine tq_iconst (0 : Int32) rX3_largestCave_5 (by decide) ?_
  refine tq_istore_n ([.ref a0, .long p1, tq_u, .int (0 : Int32), tq_u, tq_u, tq_u]) rX3_largestCave_6 (Nat.le_of_ble_eq_true rfl) rfl ?_
  refine tq_iconst (0 : Int32) rX3_largestCave_7 (by decide) ?_
  refine tq_istore ([.ref a0, .long p1, tq_u, .int (0 : Int32), .int (0 : Int32), tq_u, tq_u]) rX3_largestCave_8 (Nat.le_of_ble_eq_true rfl) rfl ?_
  obtain ⟨p7, e7, hf⟩ := Option.bind_eq_some_iff.mp hf
  refine tq_forget _ (tq_le_u (tq_le_s (tq_le_u (tq_le_s (tq_le_s (tq_le_u (tq_le_u tq_le_n))))))) ?_
  refine tq_it_elim (P := fun p : Int64 × Int32 × Int32 => tq_X S mX3_largestCave (d + 3) tq_k0 10 ([tq_u, .long p.1, tq_u, .int p.2.1, .int p.2.2, tq_u, tq_u]) [] (tq_st I L) (tq_Q (tq_one2 (some (.int out)) I L))) (R := fun p : Int32 => tq_X S mX3_largestCave (d + 3) tq_k0 58 ([tq_u, tq_u, tq_u, .int p, tq_u, tq_u, tq_u]) [] (tq_st I L) (tq_Q (tq_one2 (some (.int out)) I L))) (fun p o hp hk => FX3_largestCave_s10_x   hp hk) _ ((p1, (0 : Int32), (0 : Int32))) _ e7 ?_
  show tq_X _ _ _ _ _ _ _ _ _
  refine tq_iload_n rX3_largestCave_58 rfl ?_
  refine ty_iret rX3_largestCave_59 rfl rfl ?_
  have hf := Option.some.inj hf
  subst hf
  exact ⟨rfl, rfl, rfl⟩

abbrev mX3_isMirrored : tq_M := (yX3_isMirrored, cX3_isMirrored, 3, (Option.some Jvm.ClassFile.FieldType.boolean), 0, 0)
theorem rX3_isMirrored_0 : tq_D cX3_isMirrored 0 (.iconst 0) 1 1 := ⟨by decide +kernel, rfl⟩
theorem rX3_isMirrored_1 : tq_D cX3_isMirrored 1 (.istore_n 1) 1 2 := ⟨by decide +kernel, rfl⟩
theorem rX3_isMirrored_2 : tq_D cX3_isMirrored 2 (.iload_n 1) 1 3 := ⟨by decide +kernel, rfl⟩
theorem rX3_isMirrored_3 : tq_D cX3_isMirrored 3 (.aload_n 0) 1 4 := ⟨by decide +kernel, rfl⟩
theorem rX3_isMirrored_4 : tq_D cX3_isMirrored 4 (.getfield 15) 3 7 := ⟨by decide +kernel, rfl⟩
theorem rX3_isMirrored_7 : tq_J cX3_isMirrored 7 (.if_icmp .ge) 64 10 := ⟨57, by decide +kernel, by decide, rfl⟩
theorem rX3_isMirrored_10 : tq_D cX3_isMirrored 10 (.iconst 0) 1 11 := ⟨by decide +kernel, rfl⟩
theorem rX3_isMirrored_11 : tq_D cX3_isMirrored 11 (.istore_n 2) 1 12 := ⟨by decide +kernel, rfl⟩
theorem rX3_isMirrored_12 : tq_D cX3_isMirrored 12 (.iload_n 2) 1 13 := ⟨by decide +kernel, rfl⟩
theorem rX3_isMirrored_13 : tq_D cX3_isMirrored 13 (.aload_n 0) 1 14 := ⟨by decide +kernel, rfl⟩
theorem rX3_isMirrored_14 : tq_D cX3_isMirrored 14 (.getfield 9) 3 17 := ⟨by decide +kernel, rfl⟩
theorem rX3_isMirrored_17 : tq_J cX3_isMirrored 17 (.if_icmp .ge) 58 20 := ⟨41, by decide +kernel, by decide, rfl⟩
theorem rX3_isMirrored_20 : tq_D cX3_isMirrored 20 (.aload_n 0) 1 21 := ⟨by decide +kernel, rfl⟩
theorem rX3_isMirrored_21 : tq_D cX3_isMirrored 21 (.aload_n 0) 1 22 := ⟨by decide +kernel, rfl⟩
theorem rX3_isMirrored_22 : tq_D cX3_isMirrored 22 (.iload_n 2) 1 23 := ⟨by decide +kernel, rfl⟩
theorem rX3_isMirrored_23 : tq_D cX3_isMirrored 23 (.iload_n 1) 1 24 := ⟨by decide +kernel, rfl⟩
theorem rX3_isMirrored_24 : tq_D cX3_isMirrored 24 (.invokevirtual 66) 3 27 := ⟨by decide +kernel, rfl⟩
theorem rX3_isMirrored_27 : tq_D cX3_isMirrored 27 (.invokevirtual 86) 3 30 := ⟨by decide +kernel, rfl⟩
theorem rX3_isMirrored_30 : tq_D cX3_isMirrored 30 (.aload_n 0) 1 31 := ⟨by decide +kernel, rfl⟩
theorem rX3_isMirrored_31 : tq_D cX3_isMirrored 31 (.aload_n 0) 1 32 := ⟨by decide +kernel, rfl⟩
theorem rX3_isMirrored_32 : tq_D cX3_isMirrored 32 (.aload_n 0) 1 33 := ⟨by decide +kernel, rfl⟩
theorem rX3_isMirrored_33 : tq_D cX3_isMirrored 33 (.getfield 9) 3 36 := ⟨by decide +kernel, rfl⟩
theorem rX3_isMirrored_36 : tq_D cX3_isMirrored 36 (.iconst 1) 1 37 := ⟨by decide +kernel, rfl⟩
theorem rX3_isMirrored_37 : tq_D cX3_isMirrored 37 (.isub) 1 38 := ⟨by decide +kernel, rfl⟩
theorem rX3_isMirrored_38 : tq_D cX3_isMirrored 38 (.iload_n 2) 1 39 := ⟨by decide +kernel, rfl⟩
theorem rX3_isMirrored_39 : tq_D cX3_isMirrored 39 (.isub) 1 40 := ⟨by decide +kernel, rfl⟩
theorem rX3_isMirrored_40 : tq_D cX3_isMirrored 40 (.iload_n 1) 1 41 := ⟨by decide +kernel, rfl⟩
theorem rX3_isMirrored_41 : tq_D cX3_isMirrored 41 (.invokevirtual 66) 3 44 := ⟨by decide +kernel, rfl⟩
theorem rX3_isMirrored_44 : tq_D cX3_isMirrored 44 (.invokevirtual 86) 3 47 := ⟨by decide +kernel, rfl⟩
theorem rX3_isMirrored_47 : tq_J cX3_isMirrored 47 (.if_icmp .eq) 52 50 := ⟨5, by decide +kernel, by decide, rfl⟩
theorem rX3_isMirrored_50 : tq_D cX3_isMirrored 50 (.iconst 0) 1 51 := ⟨by decide +kernel, rfl⟩
theorem rX3_isMirrored_51 : decode cX3_isMirrored 51 = .ok (.ireturn, 1) := by decide +kernel
theorem rX3_isMirrored_52 : tq_D cX3_isMirrored 52 (.iinc 2 1) 3 55 := ⟨by decide +kernel, rfl⟩
theorem rX3_isMirrored_55 : tq_J cX3_isMirrored 55 .goto 12 58 := ⟨(-43), by decide +kernel, by decide, rfl⟩
theorem rX3_isMirrored_58 : tq_D cX3_isMirrored 58 (.iinc 1 1) 3 61 := ⟨by decide +kernel, rfl⟩
theorem rX3_isMirrored_61 : tq_J cX3_isMirrored 61 .goto 2 64 := ⟨(-59), by decide +kernel, by decide, rfl⟩
theorem rX3_isMirrored_64 : tq_D cX3_isMirrored 64 (.iconst 1) 1 65 := ⟨by decide +kernel, rfl⟩
theorem rX3_isMirrored_65 : decode cX3_isMirrored 65 = .ok (.ireturn, 1) := by decide +kernel
noncomputable def FX3_isMirrored_s12 (I : tq_PI) (L : tq_PL) (a0 : Nat) (a1 : Int32) (a2 : Int32) : Option ((Int32) ⊕ ((Unit) ⊕ (Bool))) :=
  (if (I a0 0) ≤ a2 then some (.inr (.inl ())) else (tq_let (FX3_bitAt I L a0 a2 a1) fun p3 => (tq_let (FX3_kindOfBit I L a0 p3) fun p4 => (tq_let (FX3_bitAt I L a0 ((((I a0 0) - (1 : Int32)) - a2)) a1) fun p5 => (tq_let (FX3_kindOfBit I L a0 p5) fun p6 => (if p4 = p6 then some (.inl (a2 + 1)) else some (.inr (.inr false))))))))
noncomputable def FX3_isMirrored_s2 (I : tq_PI) (L : tq_PL) (a0 : Nat) (a1 : Int32) : Option ((Int32) ⊕ ((Unit) ⊕ (Bool))) :=
  (if (I a0 1) ≤ a1 then some (.inr (.inl ())) else ((tq_it (fun p : Int32 => FX3_isMirrored_s12 I L a0 a1 p) tq_N (0 : Int32)).bind fun p8 => p8.elim (fun t9 => some (.inl (a1 + 1))) (fun t9 => some (.inr (.inr t9)))))
noncomputable def FX3_isMirrored (I : tq_PI) (L : tq_PL) (a0 : Nat) : Option (Bool) :=
  ((tq_it (fun p : Int32 => FX3_isMirrored_s2 I L a0 p) tq_N (0 : Int32)).bind fun p10 => p10.elim (fun t11 => some true) (fun t11 => some t11))
set_option maxRecDepth 100000 in
set_option maxHeartbeats 4000000 in
theorem FX3_isMirrored_s12_x {S : Nat × (Nat → Int32)} {d : Nat} {I : tq_PI} {L : tq_PL} {a0 : Nat} {a1 : Int32} {a2 : Int32} (h0 : tq_sh0 a0 = 3) {q0 : Option Value → tq_PI → tq_PL → Prop} {out : (Int32) ⊕ ((Unit) ⊕ (Bool))} (hf : FX3_isMirrored_s12 I L a0 a1 a2 = some out) (hk : Sum.elim (fun p : Int32 => tq_X S mX3_isMirrored (d + 1) tq_k0 12 ([.ref a0, .int a1, .int p]) [] (tq_st I L) (tq_Q q0)) (Sum.elim (fun p : Unit => tq_X S mX3_isMirrored (d + 1) tq_k0 58 ([.ref a0, .int a1, tq_u]) [] (tq_st I L) (tq_Q q0)) (fun p : Bool => q0 (some (.int (tq_b p))) I L)) out) : tq_X S mX3_isMirrored (d + 1) tq_k0 12 ([.ref a0, .int a1, .int a2]) [] (tq_st I L) (tq_Q q0) := by
  unfold FX3_isMirrored_s12 at hf
  refine tq_iload_n rX3_isMirrored_12 rfl ?_
  refine tq_aload_n rX3_isMirrored_13 rfl ?_
  refine ty_getI rX3_isMirrored_14 f_X3_9 rfl h0 ?_
  refine tq_icmp_ge rX3_isMirrored_17 (fun c2 => ?_) (fun c2 => ?_)
  · rw [if_pos c2] at hf
    have hf := Option.some.inj hf
    subst hf
    exact tq_forget _ (tq_le_s (tq_le_s (tq_le_u tq_le_n))) hk
  · rw [if_neg c2] at hf
    refine tq_aload_n rX3_isMirrored_20 rfl ?_
    refine tq_aload_n rX3_isMirrored_21 rfl ?_
    refine tq_iload_n rX3_isMirrored_22 rfl ?_
    refine tq_iload_n rX3_isMirrored_23 rfl ?_
    obtain ⟨p3, e3, hf⟩ := tq_let_elim hf
    refine ty_callVJ p3 ([.int a2, .int a1]) ([.ref a0]) rX3_isMirrored_24 l_X3_66 moX3_bitAt mvX3_bitAt h0 rfl rfl (Nat.le_of_ble_eq_true rfl) ⟨rfl, rfl⟩ (CX3_bitAt h0 e3) ?_
    obtain ⟨p4, e4, hf⟩ := tq_let_elim hf
    refine ty_callVI p4 ([.long p3]) ([]) rX3_isMirrored_27 l_X3_86 moX3_kindOfBit mvX3_kindOfBit h0 rfl rfl (Nat.le_of_ble_eq_true rfl) ⟨rfl, rfl⟩ (CX3_kindOfBit h0 e4) ?_
    refine tq_aload_n rX3_isMirrored_30 rfl ?_
    refine tq_aload_n rX3_isMirrored_31 rfl ?_
    refine tq_aload_n rX3_isMirrored_32 rfl ?_
    refine ty_getI rX3_isMirrored_33 f_X3_9 rfl h0 ?_
    refine tq_iconst (1 : Int32) rX3_isMirrored_36 (by decide) ?_
    refine tq_isub rX3_isMirrored_37 ?_
    refine tq_iload_n rX3_isMirrored_38 rfl ?_
    refine tq_isub rX3_isMirrored_39 ?_
    refine tq_iload_n rX3_isMirrored_40 rfl ?_
    obtain ⟨p5, e5, hf⟩ := tq_let_elim hf
    refine ty_callVJ p5 ([.int (((I a0 0) - (1 : Int32)) - a2), .int a1]) ([.ref a0, .int p4]) rX3_isMirrored_41 l_X3_66 moX3_bitAt mvX3_bitAt h0 rfl rfl (Nat.le_of_ble_eq_true rfl) ⟨rfl, rfl⟩ (CX3_bitAt h0 e5) ?_
    obtain ⟨p6, e6, hf⟩ := tq_let_elim hf
    refine ty_callVI p6 ([.long p5]) ([.int p4]) rX3_isMirrored_44 l_X3_86 moX3_kindOfBit mvX3_kindOfBit h0 rfl rfl (Nat.le_of_ble_eq_true rfl) ⟨rfl, rfl⟩ (CX3_kindOfBit h0 e6) ?_
    refine tq_icmp_eq rX3_isMirrored_47 (fun c7 => ?_) (fun c7 => ?_)
    · rw [if_pos c7] at hf
      refine tq_iinc (a2 + 1) ([.ref a0, .int a1, .int (a2 + 1)]) rX3_isMirrored_52 rfl (tq_inc (by decide)) (Nat.le_of_ble_eq_true rfl) rfl ?_
      refine tq_goto rX3_isMirrored_55 ?_
      have hf := Option.some.inj hf
      subst hf
      exact tq_forget _ (tq_le_s (tq_le_s (tq_le_s tq_le_n))) hk
    · rw [if_neg c7] at hf
      refine tq_iconst (0 : Int32) rX3_isMirrored_50 (by decide) ?_
      refine ty_zret (ty := .boolean) rX3_isMirrored_51 rfl rfl rfl ?_
      have hf := Option.some.inj hf
      subst hf
      exact hk

set_option maxRecDepth 100000 in
set_option maxHeartbeats 4000000 in
theorem FX3_isMirrored_s2_x {S : Nat × (Nat → Int32)} {d : Nat} {I : tq_PI} {L : tq_PL} {a0 : Nat} {a1 : Int32} (h0 : tq_sh0 a0 = 3) {q0 : Option Value → tq_PI → tq_PL → Prop} {out : (Int32) ⊕ ((Unit) ⊕ (Bool))} (hf : FX3_isMirrored_s2 I L a0 a1 = some out) (hk : Sum.elim (fun p : Int32 => tq_X S mX3_isMirrored (d + 1) tq_k0 2 ([.ref a0, .int p, tq_u]) [] (tq_st I L) (tq_Q q0)) (Sum.elim (fun p : Unit => tq_X S mX3_isMirrored (d + 1) tq_k0 64 ([tq_u, tq_u, tq_u]) [] (tq_st I L) (tq_Q q0)) (fun p : Bool => q0 (some (.int (tq_b p))) I L)) out) : tq_X S mX3_isMirrored (d + 1) tq_k0 2 ([.ref a0, .int a1, tq_u]) [] (tq_st I L) (tq_Q q0) := by
  unfold FX3_isMirrored_s2 at hf
  refine tq_iload_n rX3_isMirrored_2 rfl ?_
  refine tq_aload_n rX3_isMirrored_3 rfl ?_
  refine ty_getI rX3_isMirrored_4 f_X3_15 rfl h0 ?_
  refine tq_icmp_ge rX3_isMirrored_7 (fun c1 => ?_) (fun c1 => ?_)
  · rw [if_pos c1] at hf
    have hf := Option.some.inj hf
    subst hf
    exact tq_forget _ (tq_le_u (tq_le_u (tq_le_u tq_le_n))) hk
  · rw [if_neg c1] at hf
    refine tq_iconst (0 : Int32) rX3_isMirrored_10 (by decide) ?_
    refine tq_istore_n ([.ref a0, .int a1, .int (0 : Int32)]) rX3_isMirrored_11 (Nat.le_of_ble_eq_true rfl) rfl ?_
    obtain ⟨p8, e8, hf⟩ := Option.bind_eq_some_iff.mp hf
    refine tq_forget _ (tq_le_s (tq_le_s (tq_le_s tq_le_n))) ?_
    refine tq_it_elim (P := fun p : Int32 => tq_X S mX3_isMirrored (d + 1) tq_k0 12 ([.ref a0, .int a1, .int p]) [] (tq_st I L) (tq_Q q0)) (R := Sum.elim (fun p : Unit => tq_X S mX3_isMirrored (d + 1) tq_k0 58 ([.ref a0, .int a1, tq_u]) [] (tq_st I L) (tq_Q q0)) (fun p : Bool => q0 (some (.int (tq_b p))) I L)) (fun p o hp hk => FX3_isMirrored_s12_x  h0 hp hk) _ ((0 : Int32)) _ e8 ?_
    rcases tq_selim hf with ⟨t9, t9q, hf⟩ | ⟨t9, t9q, hf⟩
    · rw [t9q]
      show tq_X _ _ _ _ _ _ _ _ _
      refine tq_iinc (a1 + 1) ([.ref a0, .int (a1 + 1), tq_u]) rX3_isMirrored_58 rfl (tq_inc (by decide)) (Nat.le_of_ble_eq_true rfl) rfl ?_
      refine tq_goto rX3_isMirrored_61 ?_
      have hf := Option.some.inj hf
      subst hf
      exact tq_forget _ (tq_le_s (tq_le_s (tq_le_u tq_le_n))) hk
    · rw [t9q]
      have hf := Option.some.inj hf
      subst hf
      exact hk

set_option maxRecDepth 100000 in
set_option maxHeartbeats 4000000 in
theorem CX3_isMirrored {S : Nat × (Nat → Int32)} {d : Nat} {I : tq_PI} {L : tq_PL} {a0 : Nat} (h0 : tq_sh0 a0 = 3) {out : Bool} (hf : FX3_isMirrored I L a0 = some out) : tq_K S mX3_isMirrored (d + 1) [.ref a0] I L (tq_one2 (some (.int (tq_b out))) I L) := by
  unfold FX3_isMirrored at hf
  refine tq_K_of (by decide) (Nat.le_of_ble_eq_true rfl) (ls := [.ref a0, tq_u, tq_u]) rfl ?_
  refine tq_iconst (0 : Int32) rX3_isMirrored_0 (by decide) ?_
  refine tq_istore_n ([.ref a0, .int (0 : Int32), tq_u]) rX3_isMirrored_1 (Nat.le_of_ble_eq_true rfl) rfl ?_
  obtain ⟨p10, e10, hf⟩ := Option.bind_eq_some_iff.mp hf
  refine tq_forget _ (tq_le_s (tq_le_s (tq_le_u tq_le_n))) ?_
  refine tq_it_elim (P := fun p : Int32 => tq_X S mX3_isMirrored (d + 1) tq_k0 2 ([.ref a0, .int p, tq_u]) [] (tq_st I L) (tq_Q (tq_one2 (some (.int (tq_b out))) I L))) (R := Sum.elim (fun p : Unit => tq_X S mX3_isMirrored (d + 1) tq_k0 64 ([tq_u, tq_u, tq_u]) [] (tq_st I L) (tq_Q (tq_one2 (some (.int (tq_b out))) I L))) (fun p : Bool => (tq_one2 (some (.int (tq_b out))) I L) (some (.int (tq_b p))) I L)) (fun p o hp hk => FX3_isMirrored_s2_x  h0 hp hk) _ ((0 : Int32)) _ e10 ?_
  rcases tq_selim hf with ⟨t11, t11q, hf⟩ | ⟨t11, t11q, hf⟩
  · rw [t11q]
    show tq_X _ _ _ _ _ _ _ _ _
    refine tq_iconst (1 : Int32) rX3_isMirrored_64 (by decide) ?_
    refine ty_zret (ty := .boolean) rX3_isMirrored_65 rfl rfl rfl ?_
    have hf := Option.some.inj hf
    subst hf
    exact ⟨rfl, rfl, rfl⟩
  · rw [t11q]
    have hf := Option.some.inj hf
    subst hf
    exact ⟨rfl, rfl, rfl⟩

abbrev mX4_add : tq_M := (yX4_add, cX4_add, 3, (Option.none : Option Jvm.ClassFile.FieldType), 0, 0)
theorem rX4_add_0 : tq_D cX4_add 0 (.aload_n 0) 1 1 := ⟨by decide +kernel, rfl⟩
theorem rX4_add_1 : tq_D cX4_add 1 (.getfield 9) 3 4 := ⟨by decide +kernel, rfl⟩
theorem rX4_add_4 : tq_J cX4_add 4 (.ifCond .lt) 46 7 := ⟨42, by decide +kernel, by decide, rfl⟩
theorem rX4_add_7 : tq_D cX4_add 7 (.aload_n 0) 1 8 := ⟨by decide +kernel, rfl⟩
theorem rX4_add_8 : tq_D cX4_add 8 (.getfield 9) 3 11 := ⟨by decide +kernel, rfl⟩
theorem rX4_add_11 : tq_D cX4_add 11 (.bipush 8) 2 13 := ⟨by decide +kernel, rfl⟩
theorem rX4_add_13 : tq_J cX4_add 13 (.if_icmp .ge) 46 16 := ⟨33, by decide +kernel, by decide, rfl⟩
theorem rX4_add_16 : tq_D cX4_add 16 (.aload_n 0) 1 17 := ⟨by decide +kernel, rfl⟩
theorem rX4_add_17 : tq_D cX4_add 17 (.getfield 15) 3 20 := ⟨by decide +kernel, rfl⟩
theorem rX4_add_20 : tq_D cX4_add 20 (.aload_n 0) 1 21 := ⟨by decide +kernel, rfl⟩
theorem rX4_add_21 : tq_D cX4_add 21 (.getfield 9) 3 24 := ⟨by decide +kernel, rfl⟩
theorem rX4_add_24 : tq_D cX4_add 24 (.iload_n 1) 1 25 := ⟨by decide +kernel, rfl⟩
theorem rX4_add_25 : tq_D cX4_add 25 (.iastore) 1 26 := ⟨by decide +kernel, rfl⟩
theorem rX4_add_26 : tq_D cX4_add 26 (.aload_n 0) 1 27 := ⟨by decide +kernel, rfl⟩
theorem rX4_add_27 : tq_D cX4_add 27 (.getfield 19) 3 30 := ⟨by decide +kernel, rfl⟩
theorem rX4_add_30 : tq_D cX4_add 30 (.aload_n 0) 1 31 := ⟨by decide +kernel, rfl⟩
theorem rX4_add_31 : tq_D cX4_add 31 (.getfield 9) 3 34 := ⟨by decide +kernel, rfl⟩
theorem rX4_add_34 : tq_D cX4_add 34 (.iload_n 2) 1 35 := ⟨by decide +kernel, rfl⟩
theorem rX4_add_35 : tq_D cX4_add 35 (.iastore) 1 36 := ⟨by decide +kernel, rfl⟩
theorem rX4_add_36 : tq_D cX4_add 36 (.aload_n 0) 1 37 := ⟨by decide +kernel, rfl⟩
theorem rX4_add_37 : tq_D cX4_add 37 (.dup) 1 38 := ⟨by decide +kernel, rfl⟩
theorem rX4_add_38 : tq_D cX4_add 38 (.getfield 9) 3 41 := ⟨by decide +kernel, rfl⟩
theorem rX4_add_41 : tq_D cX4_add 41 (.iconst 1) 1 42 := ⟨by decide +kernel, rfl⟩
theorem rX4_add_42 : tq_D cX4_add 42 (.iadd) 1 43 := ⟨by decide +kernel, rfl⟩
theorem rX4_add_43 : tq_D cX4_add 43 (.putfield 9) 3 46 := ⟨by decide +kernel, rfl⟩
theorem rX4_add_46 : decode cX4_add 46 = .ok (.return_, 1) := by decide +kernel
noncomputable def FX4_add (I : tq_PI) (L : tq_PL) (a0 : Nat) (a1 : Int32) (a2 : Int32) : Option (tq_PI) :=
  (if (I a0 0) < 0 then some I else (if (8 : Int32) ≤ (I a0 0) then some I else (if 0 ≤ (I a0 0) ∧ (I a0 0) < 8 then (if 0 ≤ (((tq_up2 I (tq_rg a0 1) ((I a0 0)).toNatClampNeg a1)) a0 0) ∧ (((tq_up2 I (tq_rg a0 1) ((I a0 0)).toNatClampNeg a1)) a0 0) < 8 then some (tq_up2 (tq_up2 (tq_up2 I (tq_rg a0 1) ((I a0 0)).toNatClampNeg a1) (tq_rg a0 2) ((((tq_up2 I (tq_rg a0 1) ((I a0 0)).toNatClampNeg a1)) a0 0)).toNatClampNeg a2) a0 0 ((((tq_up2 (tq_up2 I (tq_rg a0 1) ((I a0 0)).toNatClampNeg a1) (tq_rg a0 2) ((((tq_up2 I (tq_rg a0 1) ((I a0 0)).toNatClampNeg a1)) a0 0)).toNatClampNeg a2)) a0 0) + (1 : Int32))) else none) else none)))
set_option maxRecDepth 100000 in
set_option maxHeartbeats 4000000 in
theorem CX4_add {S : Nat × (Nat → Int32)} {d : Nat} {I : tq_PI} {L : tq_PL} {a0 : Nat} {a1 : Int32} {a2 : Int32} (h0 : tq_sh0 a0 = 4) {out : tq_PI} (hf : FX4_add I L a0 a1 a2 = some out) : tq_K S mX4_add d [.ref a0, .int a1, .int a2] I L (tq_one2 (none) out L) := by
  unfold FX4_add at hf
  refine tq_K_of (by decide) (Nat.le_of_ble_eq_true rfl) (ls := [.ref a0, .int a1, .int a2]) rfl ?_
  refine tq_aload_n rX4_add_0 rfl ?_
  refine ty_getI rX4_add_1 f_X4_9 rfl h0 ?_
  refine tq_if_lt rX4_add_4 (fun c1 => ?_) (fun c1 => ?_)
  · rw [if_pos c1] at hf
    refine ty_vret rX4_add_46 rfl rfl ?_
    have hf := Option.some.inj hf
    subst hf
    exact ⟨rfl, rfl, rfl⟩
  · rw [if_neg c1] at hf
    refine tq_aload_n rX4_add_7 rfl ?_
    refine ty_getI rX4_add_8 f_X4_9 rfl h0 ?_
    refine tq_bipush (8 : Int32) rX4_add_11 (by decide) ?_
    refine tq_icmp_ge rX4_add_13 (fun c2 => ?_) (fun c2 => ?_)
    · rw [if_pos c2] at hf
      refine ty_vret rX4_add_46 rfl rfl ?_
      have hf := Option.some.inj hf
      subst hf
      exact ⟨rfl, rfl, rfl⟩
    · rw [if_neg c2] at hf
      refine tq_aload_n rX4_add_16 rfl ?_
      refine ty_getR rX4_add_17 f_X4_15 rfl h0 (hp_4_1 h0).1 ?_
      refine tq_aload_n rX4_add_20 rfl ?_
      refine ty_getI rX4_add_21 f_X4_9 rfl h0 ?_
      refine tq_iload_n rX4_add_24 rfl ?_
      obtain ⟨g3, hf⟩ := tq_chk hf
      refine ty_iast (v := 8) rX4_add_25 (hp_4_1 h0).2.1 (hp_4_1 h0).2.2 rfl (by decide) g3 ?_
      refine tq_aload_n rX4_add_26 rfl ?_
      refine ty_getR rX4_add_27 f_X4_19 rfl h0 (hp_4_2 h0).1 ?_
      refine tq_aload_n rX4_add_30 rfl ?_
      refine ty_getI rX4_add_31 f_X4_9 rfl h0 ?_
      refine tq_iload_n rX4_add_34 rfl ?_
      obtain ⟨g4, hf⟩ := tq_chk hf
      refine ty_iast (v := 8) rX4_add_35 (hp_4_2 h0).2.1 (hp_4_2 h0).2.2 rfl (by decide) g4 ?_
      refine tq_aload_n rX4_add_36 rfl ?_
      refine tq_dup rX4_add_37 rfl ?_
      refine ty_getI rX4_add_38 f_X4_9 rfl h0 ?_
      refine tq_iconst (1 : Int32) rX4_add_41 (by decide) ?_
      refine tq_iadd rX4_add_42 ?_
      refine ty_putI rX4_add_43 f_X4_9 rfl h0 rfl ?_
      refine ty_vret rX4_add_46 rfl rfl ?_
      have hf := Option.some.inj hf
      subst hf
      exact ⟨rfl, rfl, rfl⟩

abbrev mX5_cellAt : tq_M := (yX5_cellAt, cX5_cellAt, 2, (Option.some Jvm.ClassFile.FieldType.int), 0, 0)
theorem f_X5_15 : tq_fok RX5 15 5 1 := ⟨by decide, by decide, Or.inl (tq_sg2 _ (List.mem_of_getElem? (i := 45) rfl))⟩
theorem f_X5_23 : tq_fok RX5 23 5 3 := ⟨by decide, by decide, Or.inl (tq_sg2 _ (List.mem_of_getElem? (i := 48) rfl))⟩
theorem rX5_cellAt_0 : tq_D cX5_cellAt 0 (.iload_n 1) 1 1 := ⟨by decide +kernel, rfl⟩
theorem rX5_cellAt_1 : tq_J cX5_cellAt 1 (.ifCond .lt) 21 4 := ⟨20, by decide +kernel, by decide, rfl⟩
theorem rX5_cellAt_4 : tq_D cX5_cellAt 4 (.iload_n 1) 1 5 := ⟨by decide +kernel, rfl⟩
theorem rX5_cellAt_5 : tq_D cX5_cellAt 5 (.aload_n 0) 1 6 := ⟨by decide +kernel, rfl⟩
theorem rX5_cellAt_6 : tq_D cX5_cellAt 6 (.getfield 23) 3 9 := ⟨by decide +kernel, rfl⟩
theorem rX5_cellAt_9 : tq_J cX5_cellAt 9 (.if_icmp .ge) 21 12 := ⟨12, by decide +kernel, by decide, rfl⟩
theorem rX5_cellAt_12 : tq_D cX5_cellAt 12 (.iload_n 1) 1 13 := ⟨by decide +kernel, rfl⟩
theorem rX5_cellAt_13 : tq_D cX5_cellAt 13 (.aload_n 0) 1 14 := ⟨by decide +kernel, rfl⟩
theorem rX5_cellAt_14 : tq_D cX5_cellAt 14 (.getfield 15) 3 17 := ⟨by decide +kernel, rfl⟩
theorem rX5_cellAt_17 : tq_D cX5_cellAt 17 (.arraylength) 1 18 := ⟨by decide +kernel, rfl⟩
theorem rX5_cellAt_18 : tq_J cX5_cellAt 18 (.if_icmp .lt) 25 21 := ⟨7, by decide +kernel, by decide, rfl⟩
theorem rX5_cellAt_21 : tq_D cX5_cellAt 21 (.iconst (-1)) 1 22 := ⟨by decide +kernel, rfl⟩
theorem rX5_cellAt_22 : tq_J cX5_cellAt 22 .goto 31 25 := ⟨9, by decide +kernel, by decide, rfl⟩
theorem rX5_cellAt_25 : tq_D cX5_cellAt 25 (.aload_n 0) 1 26 := ⟨by decide +kernel, rfl⟩
theorem rX5_cellAt_26 : tq_D cX5_cellAt 26 (.getfield 15) 3 29 := ⟨by decide +kernel, rfl⟩
theorem rX5_cellAt_29 : tq_D cX5_cellAt 29 (.iload_n 1) 1 30 := ⟨by decide +kernel, rfl⟩
theorem rX5_cellAt_30 : tq_D cX5_cellAt 30 (.iaload) 1 31 := ⟨by decide +kernel, rfl⟩
theorem rX5_cellAt_31 : decode cX5_cellAt 31 = .ok (.ireturn, 1) := by decide +kernel
noncomputable def FX5_cellAt_j21 (I : tq_PI) (L : tq_PL)  : Option (Int32) :=
  some (-1 : Int32)
noncomputable def FX5_cellAt (I : tq_PI) (L : tq_PL) (a0 : Nat) (a1 : Int32) : Option (Int32) :=
  (if a1 < 0 then (FX5_cellAt_j21 I L ) else (if (I a0 3) ≤ a1 then (FX5_cellAt_j21 I L ) else (if a1 < (3 : Int32) then (if 0 ≤ a1 ∧ a1 < 3 then some (I (tq_rg a0 1) a1.toNatClampNeg) else none) else (FX5_cellAt_j21 I L ))))
set_option maxRecDepth 100000 in
set_option maxHeartbeats 4000000 in
theorem FX5_cellAt_j21_x {S : Nat × (Nat → Int32)} {d : Nat} {I : tq_PI} {L : tq_PL}   {q0 : Option Value → tq_PI → tq_PL → Prop} {out : Int32} (hf : FX5_cellAt_j21 I L = some out) (hk : q0 (some (.int out)) I L) : tq_X S mX5_cellAt d tq_k0 21 ([tq_u, tq_u]) ([]) (tq_st I L) (tq_Q q0) := by
  unfold FX5_cellAt_j21 at hf
  refine tq_iconst (-1 : Int32) rX5_cellAt_21 (by decide) ?_
  refine tq_goto rX5_cellAt_22 ?_
  refine ty_iret rX5_cellAt_31 rfl rfl ?_
  have hf := Option.some.inj hf
  subst hf
  exact hk

set_option maxRecDepth 100000 in
set_option maxHeartbeats 4000000 in
theorem CX5_cellAt {S : Nat × (Nat → Int32)} {d : Nat} {I : tq_PI} {L : tq_PL} {a0 : Nat} {a1 : Int32} (h0 : tq_sh0 a0 = 5) {out : Int32} (hf : FX5_cellAt I L a0 a1 = some out) : tq_K S mX5_cellAt d [.ref a0, .int a1] I L (tq_one2 (some (.int out)) I L) := by
  unfold FX5_cellAt at hf
  refine tq_K_of (by decide) (Nat.le_of_ble_eq_true rfl) (ls := [.ref a0, .int a1]) rfl ?_
  refine tq_iload_n rX5_cellAt_0 rfl ?_
  refine tq_if_lt rX5_cellAt_1 (fun c1 => ?_) (fun c1 => ?_)
  · rw [if_pos c1] at hf
    exact tq_forget _ (tq_le_u (tq_le_u tq_le_n)) (FX5_cellAt_j21_x   hf ⟨rfl, rfl, rfl⟩)
  · rw [if_neg c1] at hf
    refine tq_iload_n rX5_cellAt_4 rfl ?_
    refine tq_aload_n rX5_cellAt_5 rfl ?_
    refine ty_getI rX5_cellAt_6 f_X5_23 rfl h0 ?_
    refine tq_icmp_ge rX5_cellAt_9 (fun c2 => ?_) (fun c2 => ?_)
    · rw [if_pos c2] at hf
      exact tq_forget _ (tq_le_u (tq_le_u tq_le_n)) (FX5_cellAt_j21_x   hf ⟨rfl, rfl, rfl⟩)
    · rw [if_neg c2] at hf
      refine tq_iload_n rX5_cellAt_12 rfl ?_
      refine tq_aload_n rX5_cellAt_13 rfl ?_
      refine ty_getR rX5_cellAt_14 f_X5_15 rfl h0 (hp_5_1 h0).1 ?_
      refine ty_alen (v := 3) rX5_cellAt_17 (hp_5_1 h0).2.1 (by decide) (hp_5_1 h0).2.2 rfl ?_
      refine tq_icmp_lt rX5_cellAt_18 (fun c3 => ?_) (fun c3 => ?_)
      · rw [if_pos c3] at hf
        refine tq_aload_n rX5_cellAt_25 rfl ?_
        refine ty_getR rX5_cellAt_26 f_X5_15 rfl h0 (hp_5_1 h0).1 ?_
        refine tq_iload_n rX5_cellAt_29 rfl ?_
        obtain ⟨g4, hf⟩ := tq_chk hf
        refine ty_iald (v := 3) rX5_cellAt_30 (hp_5_1 h0).2.1 (hp_5_1 h0).2.2 rfl (by decide) g4 ?_
        refine ty_iret rX5_cellAt_31 rfl rfl ?_
        have hf := Option.some.inj hf
        subst hf
        exact ⟨rfl, rfl, rfl⟩
      · rw [if_neg c3] at hf
        exact tq_forget _ (tq_le_u (tq_le_u tq_le_n)) (FX5_cellAt_j21_x   hf ⟨rfl, rfl, rfl⟩)

abbrev mX5_compare : tq_M := (yX5_compare, cX5_compare, 6, (Option.none : Option Jvm.ClassFile.FieldType), 0, 0)
theorem f_X5_19 : tq_fok RX5 19 5 2 := ⟨by decide, by decide, Or.inl (tq_sg2 _ (List.mem_of_getElem? (i := 46) rfl))⟩
theorem f_X5_9 : tq_fok RX5 9 5 0 := ⟨by decide, by decide, Or.inl (tq_sg2 _ (List.mem_of_getElem? (i := 44) rfl))⟩
theorem l_X5_72 : tq_lok RX5 72 mX3_worthOf.1 := Or.inl (tq_sg4 _ (List.mem_of_getElem? (i := 173) rfl))
theorem l_X5_76 : tq_lok RX5 76 mX3_numberOf.1 := Or.inl (tq_sg4 _ (List.mem_of_getElem? (i := 174) rfl))
theorem rX5_compare_0 : tq_D cX5_compare 0 (.aload_n 1) 1 1 := ⟨by decide +kernel, rfl⟩
theorem rX5_compare_1 : tq_D cX5_compare 1 (.lload_n 2) 1 2 := ⟨by decide +kernel, rfl⟩
theorem rX5_compare_2 : tq_D cX5_compare 2 (.invokevirtual 72) 3 5 := ⟨by decide +kernel, rfl⟩
theorem rX5_compare_5 : tq_D cX5_compare 5 (.aload_n 0) 1 6 := ⟨by decide +kernel, rfl⟩
theorem rX5_compare_6 : tq_D cX5_compare 6 (.getfield 19) 3 9 := ⟨by decide +kernel, rfl⟩
theorem rX5_compare_9 : tq_J cX5_compare 9 (.if_icmp .gt) 13 12 := ⟨4, by decide +kernel, by decide, rfl⟩
theorem rX5_compare_12 : decode cX5_compare 12 = .ok (.return_, 1) := by decide +kernel
theorem rX5_compare_13 : tq_D cX5_compare 13 (.aload_n 0) 1 14 := ⟨by decide +kernel, rfl⟩
theorem rX5_compare_14 : tq_D cX5_compare 14 (.aload_n 1) 1 15 := ⟨by decide +kernel, rfl⟩
theorem rX5_compare_15 : tq_D cX5_compare 15 (.lload_n 2) 1 16 := ⟨by decide +kernel, rfl⟩
theorem rX5_compare_16 : tq_D cX5_compare 16 (.invokevirtual 72) 3 19 := ⟨by decide +kernel, rfl⟩
theorem rX5_compare_19 : tq_D cX5_compare 19 (.putfield 19) 3 22 := ⟨by decide +kernel, rfl⟩
theorem rX5_compare_22 : tq_D cX5_compare 22 (.aload_n 0) 1 23 := ⟨by decide +kernel, rfl⟩
theorem rX5_compare_23 : tq_D cX5_compare 23 (.iload 4) 2 25 := ⟨by decide +kernel, rfl⟩
theorem rX5_compare_25 : tq_D cX5_compare 25 (.putfield 23) 3 28 := ⟨by decide +kernel, rfl⟩
theorem rX5_compare_28 : tq_D cX5_compare 28 (.iconst 0) 1 29 := ⟨by decide +kernel, rfl⟩
theorem rX5_compare_29 : tq_D cX5_compare 29 (.istore 5) 2 31 := ⟨by decide +kernel, rfl⟩
theorem rX5_compare_31 : tq_D cX5_compare 31 (.iload 5) 2 33 := ⟨by decide +kernel, rfl⟩
theorem rX5_compare_33 : tq_D cX5_compare 33 (.iload 4) 2 35 := ⟨by decide +kernel, rfl⟩
theorem rX5_compare_35 : tq_J cX5_compare 35 (.if_icmp .ge) 72 38 := ⟨37, by decide +kernel, by decide, rfl⟩
theorem rX5_compare_38 : tq_D cX5_compare 38 (.iload 5) 2 40 := ⟨by decide +kernel, rfl⟩
theorem rX5_compare_40 : tq_D cX5_compare 40 (.aload_n 0) 1 41 := ⟨by decide +kernel, rfl⟩
theorem rX5_compare_41 : tq_D cX5_compare 41 (.getfield 15) 3 44 := ⟨by decide +kernel, rfl⟩
theorem rX5_compare_44 : tq_D cX5_compare 44 (.arraylength) 1 45 := ⟨by decide +kernel, rfl⟩
theorem rX5_compare_45 : tq_J cX5_compare 45 (.if_icmp .ge) 72 48 := ⟨27, by decide +kernel, by decide, rfl⟩
theorem rX5_compare_48 : tq_D cX5_compare 48 (.aload_n 0) 1 49 := ⟨by decide +kernel, rfl⟩
theorem rX5_compare_49 : tq_D cX5_compare 49 (.getfield 15) 3 52 := ⟨by decide +kernel, rfl⟩
theorem rX5_compare_52 : tq_D cX5_compare 52 (.iload 5) 2 54 := ⟨by decide +kernel, rfl⟩
theorem rX5_compare_54 : tq_D cX5_compare 54 (.aload_n 1) 1 55 := ⟨by decide +kernel, rfl⟩
theorem rX5_compare_55 : tq_D cX5_compare 55 (.aload_n 0) 1 56 := ⟨by decide +kernel, rfl⟩
theorem rX5_compare_56 : tq_D cX5_compare 56 (.getfield 9) 3 59 := ⟨by decide +kernel, rfl⟩
theorem rX5_compare_59 : tq_D cX5_compare 59 (.iload 5) 2 61 := ⟨by decide +kernel, rfl⟩
theorem rX5_compare_61 : tq_D cX5_compare 61 (.laload) 1 62 := ⟨by decide +kernel, rfl⟩
theorem rX5_compare_62 : tq_D cX5_compare 62 (.invokevirtual 76) 3 65 := ⟨by decide +kernel, rfl⟩
theorem rX5_compare_65 : tq_D cX5_compare 65 (.iastore) 1 66 := ⟨by decide +kernel, rfl⟩
theorem rX5_compare_66 : tq_D cX5_compare 66 (.iinc 5 1) 3 69 := ⟨by decide +kernel, rfl⟩
theorem rX5_compare_69 : tq_J cX5_compare 69 .goto 31 72 := ⟨(-38), by decide +kernel, by decide, rfl⟩
theorem rX5_compare_72 : decode cX5_compare 72 = .ok (.return_, 1) := by decide +kernel
noncomputable def FX5_compare_s31 (I : tq_PI) (L : tq_PL) (a0 : Nat) (a1 : Nat) (a4 : Int32) (a5 : Int32) : Option ((Int32 × tq_PI) ⊕ (tq_PI)) :=
  (if a4 ≤ a5 then some (.inr I) else (if (3 : Int32) ≤ a5 then some (.inr I) else (if 0 ≤ a5 ∧ a5 < 3 then ((FX3_numberOf I L a1 ((L (tq_rg a0 0) a5.toNatClampNeg))).bind fun p7 => (if 0 ≤ a5 ∧ a5 < 3 then some (.inl ((a5 + 1), (tq_up2 I (tq_rg a0 1) a5.toNatClampNeg p7))) else none)) else none)))
noncomputable def FX5_compare (I : tq_PI) (L : tq_PL) (a0 : Nat) (a1 : Nat) (a2 : Int64) (a4 : Int32) : Option (tq_PI) :=
  (tq_let (FX3_worthOf I L a1 a2) fun p1 => (if (I a0 2) < p1 then (tq_let (FX3_worthOf I L a1 a2) fun p3 => ((tq_it (fun p : Int32 × tq_PI => FX5_compare_s31 p.2 L a0 a1 a4 p.1) tq_N ((0 : Int32), (tq_up2 (tq_up2 I a0 2 p3) a0 3 a4))).bind fun p9 => some p9)) else some I))
set_option maxRecDepth 100000 in
set_option maxHeartbeats 4000000 in
theorem FX5_compare_s31_x {S : Nat × (Nat → Int32)} {d : Nat} {I : tq_PI} {L : tq_PL} {a0 : Nat} {a1 : Nat} {a4 : Int32} {a5 : Int32} (h0 : tq_sh0 a0 = 5) (h1 : tq_sh0 a1 = 3) {q0 : Option Value → tq_PI → tq_PL → Prop} {out : (Int32 × tq_PI) ⊕ (tq_PI)} (hf : FX5_compare_s31 I L a0 a1 a4 a5 = some out) (hk : Sum.elim (fun p : Int32 × tq_PI => tq_X S mX5_compare (d + 2) tq_k0 31 ([.ref a0, .ref a1, tq_u, tq_u, .int a4, .int p.1]) [] (tq_st p.2 L) (tq_Q q0)) (fun p : tq_PI => tq_X S mX5_compare (d + 2) tq_k0 72 ([tq_u, tq_u, tq_u, tq_u, tq_u, tq_u]) [] (tq_st p L) (tq_Q q0)) out) : tq_X S mX5_compare (d + 2) tq_k0 31 ([.ref a0, .ref a1, tq_u, tq_u, .int a4, .int a5]) [] (tq_st I L) (tq_Q q0) := by
  unfold FX5_compare_s31 at hf
  refine tq_iload rX5_compare_31 rfl ?_
  refine tq_iload rX5_compare_33 rfl ?_
  refine tq_icmp_ge rX5_compare_35 (fun c4 => ?_) (fun c4 => ?_)
  · rw [if_pos c4] at hf
    have hf := Option.some.inj hf
    subst hf
    exact tq_forget _ (tq_le_u (tq_le_u (tq_le_u (tq_le_u (tq_le_u (tq_le_u tq_le_n)))))) hk
  · rw [if_neg c4] at hf
    refine tq_iload rX5_compare_38 rfl ?_
    refine tq_aload_n rX5_compare_40 rfl ?_
    refine ty_getR rX5_compare_41 f_X5_15 rfl h0 (hp_5_1 h0).1 ?_
    refine ty_alen (v := 3) rX5_compare_44 (hp_5_1 h0).2.1 (by decide) (hp_5_1 h0).2.2 rfl ?_
    refine tq_icmp_ge rX5_compare_45 (fun c5 => ?_) (fun c5 => ?_)
    · rw [if_pos c5] at hf
      have hf := Option.some.inj hf
      subst hf
      exact tq_forget _ (tq_le_u (tq_le_u (tq_le_u (tq_le_u (tq_le_u (tq_le_u tq_le_n)))))) hk
    · rw [if_neg c5] at hf
      refine tq_aload_n rX5_compare_48 rfl ?_
      refine ty_getR rX5_compare_49 f_X5_15 rfl h0 (hp_5_1 h0).1 ?_
      refine tq_iload rX5_compare_52 rfl ?_
      refine tq_aload_n rX5_compare_54 rfl ?_
      refine tq_aload_n rX5_compare_55 rfl ?_
      refine ty_getR rX5_compare_56 f_X5_9 rfl h0 (hp_5_0 h0).1 ?_
      refine tq_iload rX5_compare_59 rfl ?_
      obtain ⟨g6, hf⟩ := tq_chk hf
      refine ty_lald (v := 3) rX5_compare_61 (hp_5_0 h0).2.1 (hp_5_0 h0).2.2 rfl (by decide) g6 ?_
      obtain ⟨p7, e7, hf⟩ := Option.bind_eq_some_iff.mp hf
      refine ty_callVI p7 ([.long (L (tq_rg a0 0) a5.toNatClampNeg)]) ([.int a5, .ref (tq_rg a0 1)]) rX5_compare_62 l_X5_76 moX3_numberOf mvX3_numberOf h1 rfl rfl (Nat.le_of_ble_eq_true rfl) ⟨rfl, rfl⟩ (CX3_numberOf h1 e7) ?_
      obtain ⟨g8, hf⟩ := tq_chk hf
      refine ty_iast (v := 3) rX5_compare_65 (hp_5_1 h0).2.1 (hp_5_1 h0).2.2 rfl (by decide) g8 ?_
      refine tq_iinc (a5 + 1) ([.ref a0, .ref a1, tq_u, tq_u, .int a4, .int (a5 + 1)]) rX5_compare_66 rfl (tq_inc (by decide)) (Nat.le_of_ble_eq_true rfl) rfl ?_
      refine tq_goto rX5_compare_69 ?_
      have hf := Option.some.inj hf
      subst hf
      exact tq_forget _ (tq_le_s (tq_le_s (tq_le_u (tq_le_u (tq_le_s (tq_le_s tq_le_n)))))) hk

set_option maxRecDepth 100000 in
set_option maxHeartbeats 4000000 in
theorem CX5_compare {S : Nat × (Nat → Int32)} {d : Nat} {I : tq_PI} {L : tq_PL} {a0 : Nat} {a1 : Nat} {a2 : Int64} {a4 : Int32} (h0 : tq_sh0 a0 = 5) (h1 : tq_sh0 a1 = 3) {out : tq_PI} (hf : FX5_compare I L a0 a1 a2 a4 = some out) : tq_K S mX5_compare (d + 2) [.ref a0, .ref a1, .long a2, .int a4] I L (tq_one2 (none) out L) := by
  unfold FX5_compare at hf
  refine tq_K_of (by decide) (Nat.le_of_ble_eq_true rfl) (ls := [.ref a0, .ref a1, .long a2, tq_u, .int a4, tq_u]) rfl ?_
  refine tq_aload_n rX5_compare_0 rfl ?_
  refine tq_lload_n rX5_compare_1 rfl ?_
  obtain ⟨p1, e1, hf⟩ := tq_let_elim hf
  refine ty_callVI p1 ([.long a2]) ([]) rX5_compare_2 l_X5_72 moX3_worthOf mvX3_worthOf h1 rfl rfl (Nat.le_of_ble_eq_true rfl) ⟨rfl, rfl⟩ (CX3_worthOf h1 e1) ?_
  refine tq_aload_n rX5_compare_5 rfl ?_
  refine ty_getI rX5_compare_6 f_X5_19 rfl h0 ?_
  refine tq_icmp_gt rX5_compare_9 (fun c2 => ?_) (fun c2 => ?_)
  · rw [if_pos c2] at hf
    refine tq_aload_n rX5_compare_13 rfl ?_
    refine tq_aload_n rX5_compare_14 rfl ?_
    refine tq_lload_n rX5_compare_15 rfl ?_
    obtain ⟨p3, e3, hf⟩ := tq_let_elim hf
    refine ty_callVI p3 ([.long a2]) ([.ref a0]) rX5_compare_16 l_X5_72 moX3_worthOf mvX3_worthOf h1 rfl rfl (Nat.le_of_ble_eq_true rfl) ⟨rfl, rfl⟩ (CX3_worthOf h1 e3) ?_
    refine ty_putI rX5_compare_19 f_X5_19 rfl h0 rfl ?_
    refine tq_aload_n rX5_compare_22 rfl ?_
    refine tq_iload rX5_compare_23 rfl ?_
    refine ty_putI rX5_compare_25 f_X5_23 rfl h0 rfl ?_
    refine tq_iconst (0 : Int32) rX5_compare_28 (by decide) ?_
    refine tq_istore ([.ref a0, .ref a1, .long a2, tq_u, .int a4, .int (0 : Int32)]) rX5_compare_29 (Nat.le_of_ble_eq_true rfl) rfl ?_
    obtain ⟨p9, e9, hf⟩ := Option.bind_eq_some_iff.mp hf
    refine tq_forget _ (tq_le_s (tq_le_s (tq_le_u (tq_le_u (tq_le_s (tq_le_s tq_le_n)))))) ?_
    refine tq_it_elim (P := fun p : Int32 × tq_PI => tq_X S mX5_compare (d + 2) tq_k0 31 ([.ref a0, .ref a1, tq_u, tq_u, .int a4, .int p.1]) [] (tq_st p.2 L) (tq_Q (tq_one2 (none) out L))) (R := fun p : tq_PI => tq_X S mX5_compare (d + 2) tq_k0 72 ([tq_u, tq_u, tq_u, tq_u, tq_u, tq_u]) [] (tq_st p L) (tq_Q (tq_one2 (none) out L))) (fun p o hp hk => FX5_compare_s31_x  h0 h1 hp hk) _ (((0 : Int32), (tq_up2 (tq_up2 I a0 2 p3) a0 3 a4))) _ e9 ?_
    show tq_X _ _ _ _ _ _ _ _ _
    refine ty_vret rX5_compare_72 rfl rfl ?_
    have hf := Option.some.inj hf
    subst hf
    exact ⟨rfl, rfl, rfl⟩
  · rw [if_neg c2] at hf
    refine ty_vret rX5_compare_12 rfl rfl ?_
    have hf := Option.some.inj hf
    subst hf
    exact ⟨rfl, rfl, rfl⟩

abbrev mX5_deepen : tq_M := (yX5_deepen, cX5_deepen, 12, (Option.none : Option Jvm.ClassFile.FieldType), 0, 0)
theorem moX3_dearest : tq_mok mX3_dearest 1 := ⟨tq_sg1 _ (List.mem_of_getElem? (i := 3) rfl), tq_sg4 _ (List.mem_of_getElem? (i := 179) rfl), ⟨by decide, by decide, by decide +kernel⟩, by decide⟩
theorem mvX3_dearest : 3 < 13 ∧ (tq_cl 3).1 = mX3_dearest.1.cls ∧ Cond.instanceMethod mX3_dearest.1 ∈ lw_tbl ∧ Cond.selects mX3_dearest.1.cls mX3_dearest.1 mX3_dearest.1 ∈ lw_tbl := ⟨by decide, rfl, tq_sg4 _ (List.mem_of_getElem? (i := 177) rfl), tq_sg4 _ (List.mem_of_getElem? (i := 178) rfl)⟩
theorem moX5_compare : tq_mok mX5_compare 3 := ⟨tq_sg1 _ (List.mem_of_getElem? (i := 9) rfl), tq_sg4 _ (List.mem_of_getElem? (i := 172) rfl), ⟨by decide, by decide, by decide +kernel⟩, by decide⟩
theorem mvX5_compare : 5 < 13 ∧ (tq_cl 5).1 = mX5_compare.1.cls ∧ Cond.instanceMethod mX5_compare.1 ∈ lw_tbl ∧ Cond.selects mX5_compare.1.cls mX5_compare.1 mX5_compare.1 ∈ lw_tbl := ⟨by decide, rfl, tq_sg4 _ (List.mem_of_getElem? (i := 171) rfl), List.mem_append_left _ (List.mem_map.mpr ⟨_, List.mem_of_getElem? (i := 28) rfl, rfl⟩)⟩
theorem moX5_deepen : tq_mok mX5_deepen 5 := ⟨tq_sg1 _ (List.mem_of_getElem? (i := 9) rfl), tq_sg4 _ (List.mem_of_getElem? (i := 167) rfl), ⟨by decide, by decide, by decide +kernel⟩, by decide⟩
theorem mvX5_deepen : 5 < 13 ∧ (tq_cl 5).1 = mX5_deepen.1.cls ∧ Cond.instanceMethod mX5_deepen.1 ∈ lw_tbl ∧ Cond.selects mX5_deepen.1.cls mX5_deepen.1 mX5_deepen.1 ∈ lw_tbl := ⟨by decide, rfl, tq_sg4 _ (List.mem_of_getElem? (i := 166) rfl), List.mem_append_left _ (List.mem_map.mpr ⟨_, List.mem_of_getElem? (i := 27) rfl, rfl⟩)⟩
theorem k_X5_58 : Cond.constantLong RX5 58 (-1) ∈ lw_tbl := tq_sg4 _ (List.mem_of_getElem? (i := 168) rfl)
theorem l_X5_42 : tq_lok RX5 42 mX3_solid.1 := Or.inl (tq_sg4 _ (List.mem_of_getElem? (i := 162) rfl))
theorem l_X5_54 : tq_lok RX5 54 mX5_deepen.1 := Or.inl (tq_sg4 _ (List.mem_of_getElem? (i := 164) rfl))
theorem l_X5_60 : tq_lok RX5 60 mX5_compare.1 := Or.inl (tq_sg4 _ (List.mem_of_getElem? (i := 169) rfl))
theorem l_X5_64 : tq_lok RX5 64 mX3_safeFor.1 := Or.inl (tq_sg4 _ (List.mem_of_getElem? (i := 175) rfl))
theorem l_X5_68 : tq_lok RX5 68 mX3_dearest.1 := Or.inl (tq_sg4 _ (List.mem_of_getElem? (i := 176) rfl))
theorem rX5_deepen_0 : tq_D cX5_deepen 0 (.aload_n 0) 1 1 := ⟨by decide +kernel, rfl⟩
theorem rX5_deepen_1 : tq_D cX5_deepen 1 (.aload_n 1) 1 2 := ⟨by decide +kernel, rfl⟩
theorem rX5_deepen_2 : tq_D cX5_deepen 2 (.aload_n 1) 1 3 := ⟨by decide +kernel, rfl⟩
theorem rX5_deepen_3 : tq_D cX5_deepen 3 (.invokevirtual 42) 3 6 := ⟨by decide +kernel, rfl⟩
theorem rX5_deepen_6 : tq_D cX5_deepen 6 (.lload_n 3) 1 7 := ⟨by decide +kernel, rfl⟩
theorem rX5_deepen_7 : tq_D cX5_deepen 7 (.ldc2_w 58) 3 10 := ⟨by decide +kernel, rfl⟩
theorem rX5_deepen_10 : tq_D cX5_deepen 10 (.lxor) 1 11 := ⟨by decide +kernel, rfl⟩
theorem rX5_deepen_11 : tq_D cX5_deepen 11 (.land) 1 12 := ⟨by decide +kernel, rfl⟩
theorem rX5_deepen_12 : tq_D cX5_deepen 12 (.iload 5) 2 14 := ⟨by decide +kernel, rfl⟩
theorem rX5_deepen_14 : tq_D cX5_deepen 14 (.invokevirtual 60) 3 17 := ⟨by decide +kernel, rfl⟩
theorem rX5_deepen_17 : tq_D cX5_deepen 17 (.iload 5) 2 19 := ⟨by decide +kernel, rfl⟩
theorem rX5_deepen_19 : tq_J cX5_deepen 19 (.ifCond .lt) 39 22 := ⟨20, by decide +kernel, by decide, rfl⟩
theorem rX5_deepen_22 : tq_D cX5_deepen 22 (.iload 5) 2 24 := ⟨by decide +kernel, rfl⟩
theorem rX5_deepen_24 : tq_D cX5_deepen 24 (.iload 6) 2 26 := ⟨by decide +kernel, rfl⟩
theorem rX5_deepen_26 : tq_J cX5_deepen 26 (.if_icmp .ge) 39 29 := ⟨13, by decide +kernel, by decide, rfl⟩
theorem rX5_deepen_29 : tq_D cX5_deepen 29 (.iload 5) 2 31 := ⟨by decide +kernel, rfl⟩
theorem rX5_deepen_31 : tq_D cX5_deepen 31 (.aload_n 0) 1 32 := ⟨by decide +kernel, rfl⟩
theorem rX5_deepen_32 : tq_D cX5_deepen 32 (.getfield 9) 3 35 := ⟨by decide +kernel, rfl⟩
theorem rX5_deepen_35 : tq_D cX5_deepen 35 (.arraylength) 1 36 := ⟨by decide +kernel, rfl⟩
theorem rX5_deepen_36 : tq_J cX5_deepen 36 (.if_icmp .lt) 40 39 := ⟨4, by decide +kernel, by decide, rfl⟩
theorem rX5_deepen_39 : decode cX5_deepen 39 = .ok (.return_, 1) := by decide +kernel
theorem rX5_deepen_40 : tq_D cX5_deepen 40 (.aload_n 1) 1 41 := ⟨by decide +kernel, rfl⟩
theorem rX5_deepen_41 : tq_D cX5_deepen 41 (.iload_n 2) 1 42 := ⟨by decide +kernel, rfl⟩
theorem rX5_deepen_42 : tq_D cX5_deepen 42 (.lload_n 3) 1 43 := ⟨by decide +kernel, rfl⟩
theorem rX5_deepen_43 : tq_D cX5_deepen 43 (.invokevirtual 64) 3 46 := ⟨by decide +kernel, rfl⟩
theorem rX5_deepen_46 : tq_D cX5_deepen 46 (.lstore 7) 2 48 := ⟨by decide +kernel, rfl⟩
theorem rX5_deepen_48 : tq_D cX5_deepen 48 (.iload 5) 2 50 := ⟨by decide +kernel, rfl⟩
theorem rX5_deepen_50 : tq_D cX5_deepen 50 (.iconst 1) 1 51 := ⟨by decide +kernel, rfl⟩
theorem rX5_deepen_51 : tq_D cX5_deepen 51 (.iadd) 1 52 := ⟨by decide +kernel, rfl⟩
theorem rX5_deepen_52 : tq_D cX5_deepen 52 (.iload 6) 2 54 := ⟨by decide +kernel, rfl⟩
theorem rX5_deepen_54 : tq_J cX5_deepen 54 (.if_icmp .ne) 65 57 := ⟨11, by decide +kernel, by decide, rfl⟩
theorem rX5_deepen_57 : tq_D cX5_deepen 57 (.aload_n 1) 1 58 := ⟨by decide +kernel, rfl⟩
theorem rX5_deepen_58 : tq_D cX5_deepen 58 (.lload 7) 2 60 := ⟨by decide +kernel, rfl⟩
theorem rX5_deepen_60 : tq_D cX5_deepen 60 (.invokevirtual 68) 3 63 := ⟨by decide +kernel, rfl⟩
theorem rX5_deepen_63 : tq_D cX5_deepen 63 (.lstore 7) 2 65 := ⟨by decide +kernel, rfl⟩
theorem rX5_deepen_65 : tq_D cX5_deepen 65 (.iconst 0) 1 66 := ⟨by decide +kernel, rfl⟩
theorem rX5_deepen_66 : tq_D cX5_deepen 66 (.istore 9) 2 68 := ⟨by decide +kernel, rfl⟩
theorem rX5_deepen_68 : tq_D cX5_deepen 68 (.iload 9) 2 70 := ⟨by decide +kernel, rfl⟩
theorem rX5_deepen_70 : tq_D cX5_deepen 70 (.bipush 48) 2 72 := ⟨by decide +kernel, rfl⟩
theorem rX5_deepen_72 : tq_J cX5_deepen 72 (.if_icmp .ge) 126 75 := ⟨54, by decide +kernel, by decide, rfl⟩
theorem rX5_deepen_75 : tq_D cX5_deepen 75 (.lload 7) 2 77 := ⟨by decide +kernel, rfl⟩
theorem rX5_deepen_77 : tq_D cX5_deepen 77 (.lconst 1) 1 78 := ⟨by decide +kernel, rfl⟩
theorem rX5_deepen_78 : tq_D cX5_deepen 78 (.iload 9) 2 80 := ⟨by decide +kernel, rfl⟩
theorem rX5_deepen_80 : tq_D cX5_deepen 80 (.lshl) 1 81 := ⟨by decide +kernel, rfl⟩
theorem rX5_deepen_81 : tq_D cX5_deepen 81 (.land) 1 82 := ⟨by decide +kernel, rfl⟩
theorem rX5_deepen_82 : tq_D cX5_deepen 82 (.lstore 10) 2 84 := ⟨by decide +kernel, rfl⟩
theorem rX5_deepen_84 : tq_D cX5_deepen 84 (.lload 10) 2 86 := ⟨by decide +kernel, rfl⟩
theorem rX5_deepen_86 : tq_D cX5_deepen 86 (.lconst 0) 1 87 := ⟨by decide +kernel, rfl⟩
theorem rX5_deepen_87 : tq_D cX5_deepen 87 (.lcmp) 1 88 := ⟨by decide +kernel, rfl⟩
theorem rX5_deepen_88 : tq_J cX5_deepen 88 (.ifCond .eq) 120 91 := ⟨32, by decide +kernel, by decide, rfl⟩
theorem rX5_deepen_91 : tq_D cX5_deepen 91 (.aload_n 0) 1 92 := ⟨by decide +kernel, rfl⟩
theorem rX5_deepen_92 : tq_D cX5_deepen 92 (.getfield 9) 3 95 := ⟨by decide +kernel, rfl⟩
theorem rX5_deepen_95 : tq_D cX5_deepen 95 (.iload 5) 2 97 := ⟨by decide +kernel, rfl⟩
theorem rX5_deepen_97 : tq_D cX5_deepen 97 (.lload 10) 2 99 := ⟨by decide +kernel, rfl⟩
theorem rX5_deepen_99 : tq_D cX5_deepen 99 (.lastore) 1 100 := ⟨by decide +kernel, rfl⟩
theorem rX5_deepen_100 : tq_D cX5_deepen 100 (.aload_n 0) 1 101 := ⟨by decide +kernel, rfl⟩
theorem rX5_deepen_101 : tq_D cX5_deepen 101 (.aload_n 1) 1 102 := ⟨by decide +kernel, rfl⟩
theorem rX5_deepen_102 : tq_D cX5_deepen 102 (.iload_n 2) 1 103 := ⟨by decide +kernel, rfl⟩
theorem rX5_deepen_103 : tq_D cX5_deepen 103 (.lload_n 3) 1 104 := ⟨by decide +kernel, rfl⟩
theorem rX5_deepen_104 : tq_D cX5_deepen 104 (.lload 10) 2 106 := ⟨by decide +kernel, rfl⟩
theorem rX5_deepen_106 : tq_D cX5_deepen 106 (.ldc2_w 58) 3 109 := ⟨by decide +kernel, rfl⟩
theorem rX5_deepen_109 : tq_D cX5_deepen 109 (.lxor) 1 110 := ⟨by decide +kernel, rfl⟩
theorem rX5_deepen_110 : tq_D cX5_deepen 110 (.land) 1 111 := ⟨by decide +kernel, rfl⟩
theorem rX5_deepen_111 : tq_D cX5_deepen 111 (.iload 5) 2 113 := ⟨by decide +kernel, rfl⟩
theorem rX5_deepen_113 : tq_D cX5_deepen 113 (.iconst 1) 1 114 := ⟨by decide +kernel, rfl⟩
theorem rX5_deepen_114 : tq_D cX5_deepen 114 (.iadd) 1 115 := ⟨by decide +kernel, rfl⟩
theorem rX5_deepen_115 : tq_D cX5_deepen 115 (.iload 6) 2 117 := ⟨by decide +kernel, rfl⟩
theorem rX5_deepen_117 : tq_D cX5_deepen 117 (.invokevirtual 54) 3 120 := ⟨by decide +kernel, rfl⟩
theorem rX5_deepen_120 : tq_D cX5_deepen 120 (.iinc 9 1) 3 123 := ⟨by decide +kernel, rfl⟩
theorem rX5_deepen_123 : tq_J cX5_deepen 123 .goto 68 126 := ⟨(-55), by decide +kernel, by decide, rfl⟩
theorem rX5_deepen_126 : decode cX5_deepen 126 = .ok (.return_, 1) := by decide +kernel
noncomputable def FX5_deepen_j120L68 (rc : tq_PI → tq_PL → Nat → Nat → Int32 → Int64 → Int32 → Int32 → Option (tq_PI × tq_PL)) (I : tq_PI) (L : tq_PL) (a0 : Nat) (a1 : Nat) (a2 : Int32) (a3 : Int64) (a5 : Int32) (a6 : Int32) (a7 : Int64) (a9 : Int32) : Option ((Int32 × tq_PI × tq_PL) ⊕ (tq_PI × tq_PL)) :=
  some (.inl ((a9 + 1), I, L))
noncomputable def FX5_deepen_s68 (rc : tq_PI → tq_PL → Nat → Nat → Int32 → Int64 → Int32 → Int32 → Option (tq_PI × tq_PL)) (I : tq_PI) (L : tq_PL) (a0 : Nat) (a1 : Nat) (a2 : Int32) (a3 : Int64) (a5 : Int32) (a6 : Int32) (a7 : Int64) (a9 : Int32) : Option ((Int32 × tq_PI × tq_PL) ⊕ (tq_PI × tq_PL)) :=
  (if (48 : Int32) ≤ a9 then some (.inr (I, L)) else (if (lg_cmp (a7 &&& ((1 : Int64) <<< (Int32.toInt64 a9 &&& 63))) (0 : Int64)) = 0 then (FX5_deepen_j120L68 rc I L a0 a1 a2 a3 a5 a6 a7 a9) else (if 0 ≤ a5 ∧ a5 < 3 then ((rc I ((tq_up2 L (tq_rg a0 0) a5.toNatClampNeg (a7 &&& ((1 : Int64) <<< (Int32.toInt64 a9 &&& 63))))) a0 a1 a2 ((a3 &&& ((a7 &&& ((1 : Int64) <<< (Int32.toInt64 a9 &&& 63))) ^^^ (-1 : Int64)))) ((a5 + (1 : Int32))) a6).bind fun p11 => (FX5_deepen_j120L68 rc p11.1 p11.2 a0 a1 a2 a3 a5 a6 a7 a9)) else none)))
noncomputable def FX5_deepen_j65 (rc : tq_PI → tq_PL → Nat → Nat → Int32 → Int64 → Int32 → Int32 → Option (tq_PI × tq_PL)) (I : tq_PI) (L : tq_PL) (a0 : Nat) (a1 : Nat) (a2 : Int32) (a3 : Int64) (a5 : Int32) (a6 : Int32) (a7 : Int64) : Option (tq_PI × tq_PL) :=
  ((tq_it (fun p : Int32 × tq_PI × tq_PL => FX5_deepen_s68 rc p.2.1 p.2.2 a0 a1 a2 a3 a5 a6 a7 p.1) tq_N ((0 : Int32), I, L)).bind fun p12 => some (p12.1, p12.2))
noncomputable def FX5_deepenb (rc : tq_PI → tq_PL → Nat → Nat → Int32 → Int64 → Int32 → Int32 → Option (tq_PI × tq_PL)) (I : tq_PI) (L : tq_PL) (a0 : Nat) (a1 : Nat) (a2 : Int32) (a3 : Int64) (a5 : Int32) (a6 : Int32) : Option (tq_PI × tq_PL) :=
  (tq_let (FX3_solid I L a1) fun p1 => ((FX5_compare I L a0 a1 ((p1 &&& (a3 ^^^ (-1 : Int64)))) a5).bind fun p2 => (if a5 < 0 then some (p2, L) else (if a6 ≤ a5 then some (p2, L) else (if a5 < (3 : Int32) then ((FX3_safeFor p2 L a1 a2 a3).bind fun p6 => (if (a5 + (1 : Int32)) = a6 then (tq_let (FX3_dearest p2 L a1 p6) fun p13 => (FX5_deepen_j65 rc p2 L a0 a1 a2 a3 a5 a6 p13)) else (FX5_deepen_j65 rc p2 L a0 a1 a2 a3 a5 a6 p6))) else some (p2, L))))))
set_option maxRecDepth 100000 in
set_option maxHeartbeats 4000000 in
theorem FX5_deepen_j120L68_x {S : Nat × (Nat → Int32)} {d : Nat} {rc : tq_PI → tq_PL → Nat → Nat → Int32 → Int64 → Int32 → Int32 → Option (tq_PI × tq_PL)} (hrc : ∀ {I : tq_PI} {L : tq_PL} {a0 : Nat} {a1 : Nat} {a2 : Int32} {a3 : Int64} {a5 : Int32} {a6 : Int32} (h0 : tq_sh0 a0 = 5) (h1 : tq_sh0 a1 = 3) {out : tq_PI × tq_PL}, rc I L a0 a1 a2 a3 a5 a6 = some out → tq_K S mX5_deepen (d + 4) [.ref a0, .ref a1, .int a2, .long a3, .int a5, .int a6] I L (tq_one2 (none) out.1 out.2)) {I : tq_PI} {L : tq_PL} {a0 : Nat} {a1 : Nat} {a2 : Int32} {a3 : Int64} {a5 : Int32} {a6 : Int32} {a7 : Int64} {a9 : Int32} (h0 : tq_sh0 a0 = 5) (h1 : tq_sh0 a1 = 3) {q0 : Option Value → tq_PI → tq_PL → Prop} {out : (Int32 × tq_PI × tq_PL) ⊕ (tq_PI × tq_PL)} (hf : FX5_deepen_j120L68 rc I L a0 a1 a2 a3 a5 a6 a7 a9 = some out) (hk : Sum.elim (fun p : Int32 × tq_PI × tq_PL => tq_X S mX5_deepen (d + 5) tq_k0 68 ([.ref a0, .ref a1, .int a2, .long a3, tq_u, .int a5, .int a6, .long a7, tq_u, .int p.1, tq_u, tq_u]) [] (tq_st p.2.1 p.2.2) (tq_Q q0)) (fun p : tq_PI × tq_PL => tq_X S mX5_deepen (d + 5) tq_k0 126 ([tq_u, tq_u, tq_u, tq_u, tq_u, tq_u, tq_u, tq_u, tq_u, tq_u, tq_u, tq_u]) [] (tq_st p.1 p.2) (tq_Q q0)) out) : tq_X S mX5_deepen (d + 5) tq_k0 120 ([.ref a0, .ref a1, .int a2, .long a3, tq_u, .int a5, .int a6, .long a7, tq_u, .int a9, tq_u, tq_u]) ([]) (tq_st I L) (tq_Q q0) := by
  unfold FX5_deepen_j120L68 at hf
  refine tq_iinc (a9 + 1) ([.ref a0, .ref a1, .int a2, .long a3, tq_u, .int a5, .int a6, .long a7, tq_u, .int (a9 + 1), tq_u, tq_u]) rX5_deepen_120 rfl (tq_inc (by decide)) (Nat.le_of_ble_eq_true rfl) rfl ?_
  refine tq_goto rX5_deepen_123 ?_
  have hf := Option.some.inj hf
  subst hf
  exact tq_forget _ (tq_le_s (tq_le_s (tq_le_s (tq_le_s (tq_le_u (tq_le_s (tq_le_s (tq_le_s (tq_le_u (tq_le_s (tq_le_u (tq_le_u tq_le_n)))))))))))) hk

set_option maxRecDepth 100000 in
set_option maxHeartbeats 4000000 in
theorem FX5_deepen_s68_x {S : Nat × (Nat → Int32)} {d : Nat} {rc : tq_PI → tq_PL → Nat → Nat → Int32 → Int64 → Int32 → Int32 → Option (tq_PI × tq_PL)} (hrc : ∀ {I : tq_PI} {L : tq_PL} {a0 : Nat} {a1 : Nat} {a2 : Int32} {a3 : Int64} {a5 : Int32} {a6 : Int32} (h0 : tq_sh0 a0 = 5) (h1 : tq_sh0 a1 = 3) {out : tq_PI × tq_PL}, rc I L a0 a1 a2 a3 a5 a6 = some out → tq_K S mX5_deepen (d + 4) [.ref a0, .ref a1, .int a2, .long a3, .int a5, .int a6] I L (tq_one2 (none) out.1 out.2)) {I : tq_PI} {L : tq_PL} {a0 : Nat} {a1 : Nat} {a2 : Int32} {a3 : Int64} {a5 : Int32} {a6 : Int32} {a7 : Int64} {a9 : Int32} (h0 : tq_sh0 a0 = 5) (h1 : tq_sh0 a1 = 3) {q0 : Option Value → tq_PI → tq_PL → Prop} {out : (Int32 × tq_PI × tq_PL) ⊕ (tq_PI × tq_PL)} (hf : FX5_deepen_s68 rc I L a0 a1 a2 a3 a5 a6 a7 a9 = some out) (hk : Sum.elim (fun p : Int32 × tq_PI × tq_PL => tq_X S mX5_deepen (d + 5) tq_k0 68 ([.ref a0, .ref a1, .int a2, .long a3, tq_u, .int a5, .int a6, .long a7, tq_u, .int p.1, tq_u, tq_u]) [] (tq_st p.2.1 p.2.2) (tq_Q q0)) (fun p : tq_PI × tq_PL => tq_X S mX5_deepen (d + 5) tq_k0 126 ([tq_u, tq_u, tq_u, tq_u, tq_u, tq_u, tq_u, tq_u, tq_u, tq_u, tq_u, tq_u]) [] (tq_st p.1 p.2) (tq_Q q0)) out) : tq_X S mX5_deepen (d + 5) tq_k0 68 ([.ref a0, .ref a1, .int a2, .long a3, tq_u, .int a5, .int a6, .long a7, tq_u, .int a9, tq_u, tq_u]) [] (tq_st I L) (tq_Q q0) := by
  unfold FX5_deepen_s68 at hf
  refine tq_iload rX5_deepen_68 rfl ?_
  refine tq_bipush (48 : Int32) rX5_deepen_70 (by decide) ?_
  refine tq_icmp_ge rX5_deepen_72 (fun c8 => ?_) (fun c8 => ?_)
  · rw [if_pos c8] at hf
    have hf := Option.some.inj hf
    subst hf
    exact tq_forget _ (tq_le_u (tq_le_u (tq_le_u (tq_le_u (tq_le_u (tq_le_u (tq_le_u (tq_le_u (tq_le_u (tq_le_u (tq_le_u (tq_le_u tq_le_n)))))))))))) hk
  · rw [if_neg c8] at hf
    refine tq_lload rX5_deepen_75 rfl ?_
    refine tq_lconst (1 : Int64) rX5_deepen_77 (by decide) ?_
    refine tq_iload rX5_deepen_78 rfl ?_
    refine tq_lshl rX5_deepen_80 ?_
    refine tq_land rX5_deepen_81 ?_
    refine tq_lstore ([.ref a0, .ref a1, .int a2, .long a3, tq_u, .int a5, .int a6, .long a7, tq_u, .int a9, .long (a7 &&& ((1 : Int64) <<< (Int32.toInt64 a9 &&& 63))), tq_u]) rX5_deepen_82 (Nat.le_of_ble_eq_true rfl) rfl ?_
    refine tq_lload rX5_deepen_84 rfl ?_
    refine tq_lconst (0 : Int64) rX5_deepen_86 (by decide) ?_
    refine tq_lcmp rX5_deepen_87 ?_
    refine tq_if_eq rX5_deepen_88 (fun c9 => ?_) (fun c9 => ?_)
    · rw [if_pos c9] at hf
      exact tq_forget _ (tq_le_s (tq_le_s (tq_le_s (tq_le_s (tq_le_u (tq_le_s (tq_le_s (tq_le_s (tq_le_u (tq_le_s (tq_le_u (tq_le_u tq_le_n)))))))))))) (FX5_deepen_j120L68_x hrc h0 h1 hf hk)
    · rw [if_neg c9] at hf
      refine tq_aload_n rX5_deepen_91 rfl ?_
      refine ty_getR rX5_deepen_92 f_X5_9 rfl h0 (hp_5_0 h0).1 ?_
      refine tq_iload rX5_deepen_95 rfl ?_
      refine tq_lload rX5_deepen_97 rfl ?_
      obtain ⟨g10, hf⟩ := tq_chk hf
      refine ty_last (v := 3) rX5_deepen_99 (hp_5_0 h0).2.1 (hp_5_0 h0).2.2 rfl (by decide) g10 ?_
      refine tq_aload_n rX5_deepen_100 rfl ?_
      refine tq_aload_n rX5_deepen_101 rfl ?_
      refine tq_iload_n rX5_deepen_102 rfl ?_
      refine tq_lload_n rX5_deepen_103 rfl ?_
      refine tq_lload rX5_deepen_104 rfl ?_
      refine tq_ldc2 rX5_deepen_106 (k_X5_58) ?_
      refine tq_lxor rX5_deepen_109 ?_
      refine tq_land rX5_deepen_110 ?_
      refine tq_iload rX5_deepen_111 rfl ?_
      refine tq_iconst (1 : Int32) rX5_deepen_113 (by decide) ?_
      refine tq_iadd rX5_deepen_114 ?_
      refine tq_iload rX5_deepen_115 rfl ?_
      obtain ⟨p11, e11, hf⟩ := Option.bind_eq_some_iff.mp hf
      refine ty_callVV ([.ref a1, .int a2, .long (a3 &&& ((a7 &&& ((1 : Int64) <<< (Int32.toInt64 a9 &&& 63))) ^^^ (-1 : Int64))), .int (a5 + (1 : Int32)), .int a6]) ([]) rX5_deepen_117 l_X5_54 moX5_deepen mvX5_deepen h0 rfl rfl (Nat.le_of_ble_eq_true rfl) ⟨rfl, rfl⟩ (hrc h0 h1 e11) ?_
      exact tq_forget _ (tq_le_s (tq_le_s (tq_le_s (tq_le_s (tq_le_u (tq_le_s (tq_le_s (tq_le_s (tq_le_u (tq_le_s (tq_le_u (tq_le_u tq_le_n)))))))))))) (FX5_deepen_j120L68_x hrc h0 h1 hf hk)

set_option maxRecDepth 100000 in
set_option maxHeartbeats 4000000 in
theorem FX5_deepen_j65_x {S : Nat × (Nat → Int32)} {d : Nat} {rc : tq_PI → tq_PL → Nat → Nat → Int32 → Int64 → Int32 → Int32 → Option (tq_PI × tq_PL)} (hrc : ∀ {I : tq_PI} {L : tq_PL} {a0 : Nat} {a1 : Nat} {a2 : Int32} {a3 : Int64} {a5 : Int32} {a6 : Int32} (h0 : tq_sh0 a0 = 5) (h1 : tq_sh0 a1 = 3) {out : tq_PI × tq_PL}, rc I L a0 a1 a2 a3 a5 a6 = some out → tq_K S mX5_deepen (d + 4) [.ref a0, .ref a1, .int a2, .long a3, .int a5, .int a6] I L (tq_one2 (none) out.1 out.2)) {I : tq_PI} {L : tq_PL} {a0 : Nat} {a1 : Nat} {a2 : Int32} {a3 : Int64} {a5 : Int32} {a6 : Int32} {a7 : Int64} (h0 : tq_sh0 a0 = 5) (h1 : tq_sh0 a1 = 3) {q0 : Option Value → tq_PI → tq_PL → Prop} {out : tq_PI × tq_PL} (hf : FX5_deepen_j65 rc I L a0 a1 a2 a3 a5 a6 a7 = some out) (hk : q0 none out.1 out.2) : tq_X S mX5_deepen (d + 5) tq_k0 65 ([.ref a0, .ref a1, .int a2, .long a3, tq_u, .int a5, .int a6, .long a7, tq_u, tq_u, tq_u, tq_u]) ([]) (tq_st I L) (tq_Q q0) := by
  unfold FX5_deepen_j65 at hf
  refine tq_iconst (0 : Int32) rX5_deepen_65 (by decide) ?_
  refine tq_istore ([.ref a0, .ref a1, .int a2, .long a3, tq_u, .int a5, .int a6, .long a7, tq_u, .int (0 : Int32), tq_u, tq_u]) rX5_deepen_66 (Nat.le_of_ble_eq_true rfl) rfl ?_
  obtain ⟨p12, e12, hf⟩ := Option.bind_eq_some_iff.mp hf
  refine tq_forget _ (tq_le_s (tq_le_s (tq_le_s (tq_le_s (tq_le_u (tq_le_s (tq_le_s (tq_le_s (tq_le_u (tq_le_s (tq_le_u (tq_le_u tq_le_n)))))))))))) ?_
  refine tq_it_elim (P := fun p : Int32 × tq_PI × tq_PL => tq_X S mX5_deepen (d + 5) tq_k0 68 ([.ref a0, .ref a1, .int a2, .long a3, tq_u, .int a5, .int a6, .long a7, tq_u, .int p.1, tq_u, tq_u]) [] (tq_st p.2.1 p.2.2) (tq_Q q0)) (R := fun p : tq_PI × tq_PL => tq_X S mX5_deepen (d + 5) tq_k0 126 ([tq_u, tq_u, tq_u, tq_u, tq_u, tq_u, tq_u, tq_u, tq_u, tq_u, tq_u, tq_u]) [] (tq_st p.1 p.2) (tq_Q q0)) (fun p o hp hk => FX5_deepen_s68_x hrc h0 h1 hp hk) _ (((0 : Int32), I, L)) _ e12 ?_
  show tq_X _ _ _ _ _ _ _ _ _
  refine ty_vret rX5_deepen_126 rfl rfl ?_
  have hf := Option.some.inj hf
  subst hf
  exact hk

set_option maxRecDepth 100000 in
set_option maxHeartbeats 4000000 in
theorem CX5_deepenb {S : Nat × (Nat → Int32)} {d : Nat} {rc : tq_PI → tq_PL → Nat → Nat → Int32 → Int64 → Int32 → Int32 → Option (tq_PI × tq_PL)} (hrc : ∀ {I : tq_PI} {L : tq_PL} {a0 : Nat} {a1 : Nat} {a2 : Int32} {a3 : Int64} {a5 : Int32} {a6 : Int32} (h0 : tq_sh0 a0 = 5) (h1 : tq_sh0 a1 = 3) {out : tq_PI × tq_PL}, rc I L a0 a1 a2 a3 a5 a6 = some out → tq_K S mX5_deepen (d + 4) [.ref a0, .ref a1, .int a2, .long a3, .int a5, .int a6] I L (tq_one2 (none) out.1 out.2)) {I : tq_PI} {L : tq_PL} {a0 : Nat} {a1 : Nat} {a2 : Int32} {a3 : Int64} {a5 : Int32} {a6 : Int32} (h0 : tq_sh0 a0 = 5) (h1 : tq_sh0 a1 = 3) {out : tq_PI × tq_PL} (hf : FX5_deepenb rc I L a0 a1 a2 a3 a5 a6 = some out) : tq_K S mX5_deepen (d + 5) [.ref a0, .ref a1, .int a2, .long a3, .int a5, .int a6] I L (tq_one2 (none) out.1 out.2) := by
  unfold FX5_deepenb at hf
  refine tq_K_of (by decide) (Nat.le_of_ble_eq_true rfl) (ls := [.ref a0, .ref a1, .int a2, .long a3, tq_u, .int a5, .int a6, tq_u, tq_u, tq_u, tq_u, tq_u]) rfl ?_
  refine tq_aload_n rX5_deepen_0 rfl ?_
  refine tq_aload_n rX5_deepen_1 rfl ?_
  refine tq_aload_n rX5_deepen_2 rfl ?_
  obtain ⟨p1, e1, hf⟩ := tq_let_elim hf
  refine ty_callVJ p1 ([]) ([.ref a1, .ref a0]) rX5_deepen_3 l_X5_42 moX3_solid mvX3_solid h1 rfl rfl (Nat.le_of_ble_eq_true rfl) ⟨rfl, rfl⟩ (CX3_solid h1 e1) ?_
  refine tq_lload_n rX5_deepen_6 rfl ?_
  refine tq_ldc2 rX5_deepen_7 (k_X5_58) ?_
  refine tq_lxor rX5_deepen_10 ?_
  refine tq_land rX5_deepen_11 ?_
  refine tq_iload rX5_deepen_12 rfl ?_
  obtain ⟨p2, e2, hf⟩ := Option.bind_eq_some_iff.mp hf
  refine ty_callVV ([.ref a1, .long (p1 &&& (a3 ^^^ (-1 : Int64))), .int a5]) ([]) rX5_deepen_14 l_X5_60 moX5_compare mvX5_compare h0 rfl rfl (Nat.le_of_ble_eq_true rfl) ⟨rfl, rfl⟩ (CX5_compare h0 h1 e2) ?_
  refine tq_iload rX5_deepen_17 rfl ?_
  refine tq_if_lt rX5_deepen_19 (fun c3 => ?_) (fun c3 => ?_)
  · rw [if_pos c3] at hf
    refine ty_vret rX5_deepen_39 rfl rfl ?_
    have hf := Option.some.inj hf
    subst hf
    exact ⟨rfl, rfl, rfl⟩
  · rw [if_neg c3] at hf
    refine tq_iload rX5_deepen_22 rfl ?_
    refine tq_iload rX5_deepen_24 rfl ?_
    refine tq_icmp_ge rX5_deepen_26 (fun c4 => ?_) (fun c4 => ?_)
    · rw [if_pos c4] at hf
      refine ty_vret rX5_deepen_39 rfl rfl ?_
      have hf := Option.some.inj hf
      subst hf
      exact ⟨rfl, rfl, rfl⟩
    · rw [if_neg c4] at hf
      refine tq_iload rX5_deepen_29 rfl ?_
      refine tq_aload_n rX5_deepen_31 rfl ?_
      refine ty_getR rX5_deepen_32 f_X5_9 rfl h0 (hp_5_0 h0).1 ?_
      refine ty_alen (v := 3) rX5_deepen_35 (hp_5_0 h0).2.1 (by decide) (hp_5_0 h0).2.2 rfl ?_
      refine tq_icmp_lt rX5_deepen_36 (fun c5 => ?_) (fun c5 => ?_)
      · rw [if_pos c5] at hf
        refine tq_aload_n rX5_deepen_40 rfl ?_
        refine tq_iload_n rX5_deepen_41 rfl ?_
        refine tq_lload_n rX5_deepen_42 rfl ?_
        obtain ⟨p6, e6, hf⟩ := Option.bind_eq_some_iff.mp hf
        refine ty_callVJ p6 ([.int a2, .long a3]) ([]) rX5_deepen_43 l_X5_64 moX3_safeFor mvX3_safeFor h1 rfl rfl (Nat.le_of_ble_eq_true rfl) ⟨rfl, rfl⟩ (CX3_safeFor h1 e6) ?_
        refine tq_lstore ([.ref a0, .ref a1, .int a2, .long a3, tq_u, .int a5, .int a6, .long p6, tq_u, tq_u, tq_u, tq_u]) rX5_deepen_46 (Nat.le_of_ble_eq_true rfl) rfl ?_
        refine tq_iload rX5_deepen_48 rfl ?_
        refine tq_iconst (1 : Int32) rX5_deepen_50 (by decide) ?_
        refine tq_iadd rX5_deepen_51 ?_
        refine tq_iload rX5_deepen_52 rfl ?_
        refine tq_icmp_ne rX5_deepen_54 (fun c7 => ?_) (fun c7 => ?_)
        · rw [if_neg c7] at hf
          exact tq_forget _ (tq_le_s (tq_le_s (tq_le_s (tq_le_s (tq_le_u (tq_le_s (tq_le_s (tq_le_s (tq_le_u (tq_le_u (tq_le_u (tq_le_u tq_le_n)))))))))))) (FX5_deepen_j65_x hrc h0 h1 hf ⟨rfl, rfl, rfl⟩)
        · rw [if_pos c7] at hf
          refine tq_aload_n rX5_deepen_57 rfl ?_
          refine tq_lload rX5_deepen_58 rfl ?_
          obtain ⟨p13, e13, hf⟩ := tq_let_elim hf
          refine ty_callVJ p13 ([.long p6]) ([]) rX5_deepen_60 l_X5_68 moX3_dearest mvX3_dearest h1 rfl rfl (Nat.le_of_ble_eq_true rfl) ⟨rfl, rfl⟩ (CX3_dearest h1 e13) ?_
          refine tq_lstore ([.ref a0, .ref a1, .int a2, .long a3, tq_u, .int a5, .int a6, .long p13, tq_u, tq_u, tq_u, tq_u]) rX5_deepen_63 (Nat.le_of_ble_eq_true rfl) rfl ?_
          exact tq_forget _ (tq_le_s (tq_le_s (tq_le_s (tq_le_s (tq_le_u (tq_le_s (tq_le_s (tq_le_s (tq_le_u (tq_le_u (tq_le_u (tq_le_u tq_le_n)))))))))))) (FX5_deepen_j65_x hrc h0 h1 hf ⟨rfl, rfl, rfl⟩)
      · rw [if_neg c5] at hf
        refine ty_vret rX5_deepen_39 rfl rfl ?_
        have hf := Option.some.inj hf
        subst hf
        exact ⟨rfl, rfl, rfl⟩

noncomputable def FX5_deepen : Nat → tq_PI → tq_PL → Nat → Nat → Int32 → Int64 → Int32 → Int32 → Option (tq_PI × tq_PL)
  | 0, _, _, _, _, _, _, _, _ => none
  | n + 1, I, L, a0, a1, a2, a3, a5, a6 => FX5_deepenb (FX5_deepen n) I L a0 a1 a2 a3 a5 a6
theorem CX5_deepen_all {S : Nat × (Nat → Int32)} : ∀ (n : Nat) (d : Nat) (I : tq_PI) (L : tq_PL) (a0 : Nat) (a1 : Nat) (a2 : Int32) (a3 : Int64) (a5 : Int32) (a6 : Int32) (h0 : tq_sh0 a0 = 5) (h1 : tq_sh0 a1 = 3) (out : tq_PI × tq_PL) (hf : FX5_deepen n I L a0 a1 a2 a3 a5 a6 = some out), tq_K S mX5_deepen (d + n + 4) [.ref a0, .ref a1, .int a2, .long a3, .int a5, .int a6] I L (tq_one2 (none) out.1 out.2)
  | 0 => by
    intro d I L a0 a1 a2 a3 a5 a6 h0 h1 out hf
    cases hf
  | n + 1 => by
    intro d I L a0 a1 a2 a3 a5 a6 h0 h1 out hf
    exact CX5_deepenb (d := d + n) (rc := FX5_deepen n) (fun h0 h1 _ hf => CX5_deepen_all n _ _ _ _ _ _ _ _ _ h0 h1 _ hf) h0 h1 hf
theorem CX5_deepen {S : Nat × (Nat → Int32)} {d : Nat} {I : tq_PI} {L : tq_PL} {a0 : Nat} {a1 : Nat} {a2 : Int32} {a3 : Int64} {a5 : Int32} {a6 : Int32} (h0 : tq_sh0 a0 = 5) (h1 : tq_sh0 a1 = 3) {out : tq_PI × tq_PL} (hf : FX5_deepen tq_n20 I L a0 a1 a2 a3 a5 a6 = some out) : tq_K S mX5_deepen (d + 24) [.ref a0, .ref a1, .int a2, .long a3, .int a5, .int a6] I L (tq_one2 (none) out.1 out.2) := by
  have h := CX5_deepen_all (S := S) tq_n20 d I L a0 a1 a2 a3 a5 a6 h0 h1 _ hf
  rw [tq_n20_eq] at h
  exact h
abbrev mX5_richest : tq_M := (yX5_richest, cX5_richest, 4, (Option.none : Option Jvm.ClassFile.FieldType), 0, 0)
theorem n_X5_48 : Cond.methodLink RX5 48 Lib.Math.min.name ∈ lw_tbl ∧ Cond.static Lib.Math.min.name ∈ lw_tbl ∧ Cond.initialized "java/lang/Math" ∈ lw_tbl ∧ Cond.code Lib.Math.min.name Lib.Math.min.code 2 (some .int) ∈ lw_tbl := ⟨tq_sg4 _ (List.mem_of_getElem? (i := 163) rfl), tq_sg2 _ (List.mem_of_getElem? (i := 177) rfl), tq_sg1 _ (List.mem_of_getElem? (i := 14) rfl), tq_sg2 _ (List.mem_of_getElem? (i := 178) rfl)⟩
theorem rX5_richest_0 : tq_D cX5_richest 0 (.aload_n 0) 1 1 := ⟨by decide +kernel, rfl⟩
theorem rX5_richest_1 : tq_D cX5_richest 1 (.iconst 0) 1 2 := ⟨by decide +kernel, rfl⟩
theorem rX5_richest_2 : tq_D cX5_richest 2 (.putfield 19) 3 5 := ⟨by decide +kernel, rfl⟩
theorem rX5_richest_5 : tq_D cX5_richest 5 (.aload_n 0) 1 6 := ⟨by decide +kernel, rfl⟩
theorem rX5_richest_6 : tq_D cX5_richest 6 (.iconst 0) 1 7 := ⟨by decide +kernel, rfl⟩
theorem rX5_richest_7 : tq_D cX5_richest 7 (.putfield 23) 3 10 := ⟨by decide +kernel, rfl⟩
theorem rX5_richest_10 : tq_D cX5_richest 10 (.aload_n 0) 1 11 := ⟨by decide +kernel, rfl⟩
theorem rX5_richest_11 : tq_D cX5_richest 11 (.aload_n 1) 1 12 := ⟨by decide +kernel, rfl⟩
theorem rX5_richest_12 : tq_D cX5_richest 12 (.iload_n 2) 1 13 := ⟨by decide +kernel, rfl⟩
theorem rX5_richest_13 : tq_D cX5_richest 13 (.aload_n 1) 1 14 := ⟨by decide +kernel, rfl⟩
theorem rX5_richest_14 : tq_D cX5_richest 14 (.invokevirtual 42) 3 17 := ⟨by decide +kernel, rfl⟩
theorem rX5_richest_17 : tq_D cX5_richest 17 (.iconst 0) 1 18 := ⟨by decide +kernel, rfl⟩
theorem rX5_richest_18 : tq_D cX5_richest 18 (.iload_n 3) 1 19 := ⟨by decide +kernel, rfl⟩
theorem rX5_richest_19 : tq_D cX5_richest 19 (.iconst 3) 1 20 := ⟨by decide +kernel, rfl⟩
theorem rX5_richest_20 : tq_D cX5_richest 20 (.invokestatic 48) 3 23 := ⟨by decide +kernel, rfl⟩
theorem rX5_richest_23 : tq_D cX5_richest 23 (.invokevirtual 54) 3 26 := ⟨by decide +kernel, rfl⟩
theorem rX5_richest_26 : decode cX5_richest 26 = .ok (.return_, 1) := by decide +kernel
noncomputable def FX5_richest (I : tq_PI) (L : tq_PL) (a0 : Nat) (a1 : Nat) (a2 : Int32) (a3 : Int32) : Option (tq_PI × tq_PL) :=
  (tq_let (FX3_solid ((tq_up2 (tq_up2 I a0 2 (0 : Int32)) a0 3 (0 : Int32))) L a1) fun p1 => ((FX5_deepen tq_n20 ((tq_up2 (tq_up2 I a0 2 (0 : Int32)) a0 3 (0 : Int32))) L a0 a1 a2 p1 ((0 : Int32)) ((if (3 : Int32) < a3 then (3 : Int32) else a3))).bind fun p2 => some (p2.1, p2.2)))
set_option maxRecDepth 100000 in
set_option maxHeartbeats 4000000 in
theorem CX5_richest {S : Nat × (Nat → Int32)} {d : Nat} {I : tq_PI} {L : tq_PL} {a0 : Nat} {a1 : Nat} {a2 : Int32} {a3 : Int32} (h0 : tq_sh0 a0 = 5) (h1 : tq_sh0 a1 = 3) {out : tq_PI × tq_PL} (hf : FX5_richest I L a0 a1 a2 a3 = some out) : tq_K S mX5_richest (d + 25) [.ref a0, .ref a1, .int a2, .int a3] I L (tq_one2 (none) out.1 out.2) := by
  unfold FX5_richest at hf
  refine tq_K_of (by decide) (Nat.le_of_ble_eq_true rfl) (ls := [.ref a0, .ref a1, .int a2, .int a3]) rfl ?_
  refine tq_aload_n rX5_richest_0 rfl ?_
  refine tq_iconst (0 : Int32) rX5_richest_1 (by decide) ?_
  refine ty_putI rX5_richest_2 f_X5_19 rfl h0 rfl ?_
  refine tq_aload_n rX5_richest_5 rfl ?_
  refine tq_iconst (0 : Int32) rX5_richest_6 (by decide) ?_
  refine ty_putI rX5_richest_7 f_X5_23 rfl h0 rfl ?_
  refine tq_aload_n rX5_richest_10 rfl ?_
  refine tq_aload_n rX5_richest_11 rfl ?_
  refine tq_iload_n rX5_richest_12 rfl ?_
  refine tq_aload_n rX5_richest_13 rfl ?_
  obtain ⟨p1, e1, hf⟩ := tq_let_elim hf
  refine ty_callVJ p1 ([]) ([.int a2, .ref a1, .ref a0]) rX5_richest_14 l_X5_42 moX3_solid mvX3_solid h1 rfl rfl (Nat.le_of_ble_eq_true rfl) ⟨rfl, rfl⟩ (CX3_solid h1 e1) ?_
  refine tq_iconst (0 : Int32) rX5_richest_17 (by decide) ?_
  refine tq_iload_n rX5_richest_18 rfl ?_
  refine tq_iconst (3 : Int32) rX5_richest_19 (by decide) ?_
  refine tq_mmin rX5_richest_20 (Nat.le_of_ble_eq_true rfl) n_X5_48 ?_
  obtain ⟨p2, e2, hf⟩ := Option.bind_eq_some_iff.mp hf
  refine ty_callVV ([.ref a1, .int a2, .long p1, .int (0 : Int32), .int (if (3 : Int32) < a3 then (3 : Int32) else a3)]) ([]) rX5_richest_23 l_X5_54 moX5_deepen mvX5_deepen h0 rfl rfl (Nat.le_of_ble_eq_true rfl) ⟨rfl, rfl⟩ (CX5_deepen h0 h1 e2) ?_
  refine ty_vret rX5_richest_26 rfl rfl ?_
  have hf := Option.some.inj hf
  subst hf
  exact ⟨rfl, rfl, rfl⟩

abbrev mX5_gainOf : tq_M := (yX5_gainOf, cX5_gainOf, 13, (Option.some Jvm.ClassFile.FieldType.int), 0, 0)
theorem moX5_gainOf : tq_mok mX5_gainOf 4 := ⟨tq_sg1 _ (List.mem_of_getElem? (i := 9) rfl), tq_sg4 _ (List.mem_of_getElem? (i := 197) rfl), ⟨by decide, by decide, by decide +kernel⟩, by decide⟩
theorem msX5_gainOf : Cond.static mX5_gainOf.1 ∈ lw_tbl := tq_sg4 _ (List.mem_of_getElem? (i := 196) rfl)
theorem l_X5_83 : tq_lok RX5 83 mX3_cuttable.1 := Or.inl (tq_sg4 _ (List.mem_of_getElem? (i := 193) rfl))
theorem l_X5_86 : tq_lok RX5 86 mX3_settled.1 := Or.inl (tq_sg4 _ (List.mem_of_getElem? (i := 194) rfl))
theorem l_X5_89 : tq_lok RX5 89 mX5_gainOf.1 := Or.inl (tq_sg4 _ (List.mem_of_getElem? (i := 195) rfl))
theorem n_X5_93 : Cond.methodLink RX5 93 Lib.Math.max.name ∈ lw_tbl ∧ Cond.static Lib.Math.max.name ∈ lw_tbl ∧ Cond.initialized "java/lang/Math" ∈ lw_tbl ∧ Cond.code Lib.Math.max.name Lib.Math.max.code 2 (some .int) ∈ lw_tbl := ⟨tq_sg4 _ (List.mem_of_getElem? (i := 198) rfl), tq_sg2 _ (List.mem_of_getElem? (i := 180) rfl), tq_sg1 _ (List.mem_of_getElem? (i := 14) rfl), tq_sg2 _ (List.mem_of_getElem? (i := 181) rfl)⟩
theorem rX5_gainOf_0 : tq_D cX5_gainOf 0 (.iload 4) 2 2 := ⟨by decide +kernel, rfl⟩
theorem rX5_gainOf_2 : tq_D cX5_gainOf 2 (.iconst 1) 1 3 := ⟨by decide +kernel, rfl⟩
theorem rX5_gainOf_3 : tq_J cX5_gainOf 3 (.if_icmp .lt) 12 6 := ⟨9, by decide +kernel, by decide, rfl⟩
theorem rX5_gainOf_6 : tq_D cX5_gainOf 6 (.iload 4) 2 8 := ⟨by decide +kernel, rfl⟩
theorem rX5_gainOf_8 : tq_D cX5_gainOf 8 (.iconst 3) 1 9 := ⟨by decide +kernel, rfl⟩
theorem rX5_gainOf_9 : tq_J cX5_gainOf 9 (.if_icmp .le) 14 12 := ⟨5, by decide +kernel, by decide, rfl⟩
theorem rX5_gainOf_12 : tq_D cX5_gainOf 12 (.iconst 0) 1 13 := ⟨by decide +kernel, rfl⟩
theorem rX5_gainOf_13 : decode cX5_gainOf 13 = .ok (.ireturn, 1) := by decide +kernel
theorem rX5_gainOf_14 : tq_D cX5_gainOf 14 (.aload_n 0) 1 15 := ⟨by decide +kernel, rfl⟩
theorem rX5_gainOf_15 : tq_D cX5_gainOf 15 (.iload_n 1) 1 16 := ⟨by decide +kernel, rfl⟩
theorem rX5_gainOf_16 : tq_D cX5_gainOf 16 (.lload_n 2) 1 17 := ⟨by decide +kernel, rfl⟩
theorem rX5_gainOf_17 : tq_D cX5_gainOf 17 (.invokevirtual 83) 3 20 := ⟨by decide +kernel, rfl⟩
theorem rX5_gainOf_20 : tq_D cX5_gainOf 20 (.lstore 5) 2 22 := ⟨by decide +kernel, rfl⟩
theorem rX5_gainOf_22 : tq_D cX5_gainOf 22 (.iload 4) 2 24 := ⟨by decide +kernel, rfl⟩
theorem rX5_gainOf_24 : tq_D cX5_gainOf 24 (.iconst 1) 1 25 := ⟨by decide +kernel, rfl⟩
theorem rX5_gainOf_25 : tq_J cX5_gainOf 25 (.if_icmp .ne) 39 28 := ⟨14, by decide +kernel, by decide, rfl⟩
theorem rX5_gainOf_28 : tq_D cX5_gainOf 28 (.aload_n 0) 1 29 := ⟨by decide +kernel, rfl⟩
theorem rX5_gainOf_29 : tq_D cX5_gainOf 29 (.aload_n 0) 1 30 := ⟨by decide +kernel, rfl⟩
theorem rX5_gainOf_30 : tq_D cX5_gainOf 30 (.lload 5) 2 32 := ⟨by decide +kernel, rfl⟩
theorem rX5_gainOf_32 : tq_D cX5_gainOf 32 (.invokevirtual 68) 3 35 := ⟨by decide +kernel, rfl⟩
theorem rX5_gainOf_35 : tq_D cX5_gainOf 35 (.invokevirtual 72) 3 38 := ⟨by decide +kernel, rfl⟩
theorem rX5_gainOf_38 : decode cX5_gainOf 38 = .ok (.ireturn, 1) := by decide +kernel
theorem rX5_gainOf_39 : tq_D cX5_gainOf 39 (.iload_n 1) 1 40 := ⟨by decide +kernel, rfl⟩
theorem rX5_gainOf_40 : tq_J cX5_gainOf 40 (.ifCond .ne) 47 43 := ⟨7, by decide +kernel, by decide, rfl⟩
theorem rX5_gainOf_43 : tq_D cX5_gainOf 43 (.iconst 1) 1 44 := ⟨by decide +kernel, rfl⟩
theorem rX5_gainOf_44 : tq_J cX5_gainOf 44 .goto 48 47 := ⟨4, by decide +kernel, by decide, rfl⟩
theorem rX5_gainOf_47 : tq_D cX5_gainOf 47 (.iconst 0) 1 48 := ⟨by decide +kernel, rfl⟩
theorem rX5_gainOf_48 : tq_D cX5_gainOf 48 (.istore 7) 2 50 := ⟨by decide +kernel, rfl⟩
theorem rX5_gainOf_50 : tq_D cX5_gainOf 50 (.aload_n 0) 1 51 := ⟨by decide +kernel, rfl⟩
theorem rX5_gainOf_51 : tq_D cX5_gainOf 51 (.iload 7) 2 53 := ⟨by decide +kernel, rfl⟩
theorem rX5_gainOf_53 : tq_D cX5_gainOf 53 (.lload_n 2) 1 54 := ⟨by decide +kernel, rfl⟩
theorem rX5_gainOf_54 : tq_D cX5_gainOf 54 (.iload 4) 2 56 := ⟨by decide +kernel, rfl⟩
theorem rX5_gainOf_56 : tq_D cX5_gainOf 56 (.iconst 1) 1 57 := ⟨by decide +kernel, rfl⟩
theorem rX5_gainOf_57 : tq_D cX5_gainOf 57 (.isub) 1 58 := ⟨by decide +kernel, rfl⟩
theorem rX5_gainOf_58 : tq_D cX5_gainOf 58 (.invokestatic 89) 3 61 := ⟨by decide +kernel, rfl⟩
theorem rX5_gainOf_61 : tq_D cX5_gainOf 61 (.ineg) 1 62 := ⟨by decide +kernel, rfl⟩
theorem rX5_gainOf_62 : tq_D cX5_gainOf 62 (.istore 8) 2 64 := ⟨by decide +kernel, rfl⟩
theorem rX5_gainOf_64 : tq_D cX5_gainOf 64 (.iconst 0) 1 65 := ⟨by decide +kernel, rfl⟩
theorem rX5_gainOf_65 : tq_D cX5_gainOf 65 (.istore 9) 2 67 := ⟨by decide +kernel, rfl⟩
theorem rX5_gainOf_67 : tq_D cX5_gainOf 67 (.iload 9) 2 69 := ⟨by decide +kernel, rfl⟩
theorem rX5_gainOf_69 : tq_D cX5_gainOf 69 (.bipush 48) 2 71 := ⟨by decide +kernel, rfl⟩
theorem rX5_gainOf_71 : tq_J cX5_gainOf 71 (.if_icmp .ge) 136 74 := ⟨65, by decide +kernel, by decide, rfl⟩
theorem rX5_gainOf_74 : tq_D cX5_gainOf 74 (.lload 5) 2 76 := ⟨by decide +kernel, rfl⟩
theorem rX5_gainOf_76 : tq_D cX5_gainOf 76 (.lconst 1) 1 77 := ⟨by decide +kernel, rfl⟩
theorem rX5_gainOf_77 : tq_D cX5_gainOf 77 (.iload 9) 2 79 := ⟨by decide +kernel, rfl⟩
theorem rX5_gainOf_79 : tq_D cX5_gainOf 79 (.lshl) 1 80 := ⟨by decide +kernel, rfl⟩
theorem rX5_gainOf_80 : tq_D cX5_gainOf 80 (.land) 1 81 := ⟨by decide +kernel, rfl⟩
theorem rX5_gainOf_81 : tq_D cX5_gainOf 81 (.lstore 10) 2 83 := ⟨by decide +kernel, rfl⟩
theorem rX5_gainOf_83 : tq_D cX5_gainOf 83 (.lload 10) 2 85 := ⟨by decide +kernel, rfl⟩
theorem rX5_gainOf_85 : tq_D cX5_gainOf 85 (.lconst 0) 1 86 := ⟨by decide +kernel, rfl⟩
theorem rX5_gainOf_86 : tq_D cX5_gainOf 86 (.lcmp) 1 87 := ⟨by decide +kernel, rfl⟩
theorem rX5_gainOf_87 : tq_J cX5_gainOf 87 (.ifCond .eq) 130 90 := ⟨43, by decide +kernel, by decide, rfl⟩
theorem rX5_gainOf_90 : tq_D cX5_gainOf 90 (.aload_n 0) 1 91 := ⟨by decide +kernel, rfl⟩
theorem rX5_gainOf_91 : tq_D cX5_gainOf 91 (.iload 7) 2 93 := ⟨by decide +kernel, rfl⟩
theorem rX5_gainOf_93 : tq_D cX5_gainOf 93 (.aload_n 0) 1 94 := ⟨by decide +kernel, rfl⟩
theorem rX5_gainOf_94 : tq_D cX5_gainOf 94 (.lload_n 2) 1 95 := ⟨by decide +kernel, rfl⟩
theorem rX5_gainOf_95 : tq_D cX5_gainOf 95 (.lload 10) 2 97 := ⟨by decide +kernel, rfl⟩
theorem rX5_gainOf_97 : tq_D cX5_gainOf 97 (.ldc2_w 58) 3 100 := ⟨by decide +kernel, rfl⟩
theorem rX5_gainOf_100 : tq_D cX5_gainOf 100 (.lxor) 1 101 := ⟨by decide +kernel, rfl⟩
theorem rX5_gainOf_101 : tq_D cX5_gainOf 101 (.land) 1 102 := ⟨by decide +kernel, rfl⟩
theorem rX5_gainOf_102 : tq_D cX5_gainOf 102 (.invokevirtual 86) 3 105 := ⟨by decide +kernel, rfl⟩
theorem rX5_gainOf_105 : tq_D cX5_gainOf 105 (.iload 4) 2 107 := ⟨by decide +kernel, rfl⟩
theorem rX5_gainOf_107 : tq_D cX5_gainOf 107 (.iconst 1) 1 108 := ⟨by decide +kernel, rfl⟩
theorem rX5_gainOf_108 : tq_D cX5_gainOf 108 (.isub) 1 109 := ⟨by decide +kernel, rfl⟩
theorem rX5_gainOf_109 : tq_D cX5_gainOf 109 (.invokestatic 89) 3 112 := ⟨by decide +kernel, rfl⟩
theorem rX5_gainOf_112 : tq_D cX5_gainOf 112 (.istore 12) 2 114 := ⟨by decide +kernel, rfl⟩
theorem rX5_gainOf_114 : tq_D cX5_gainOf 114 (.iload 8) 2 116 := ⟨by decide +kernel, rfl⟩
theorem rX5_gainOf_116 : tq_D cX5_gainOf 116 (.aload_n 0) 1 117 := ⟨by decide +kernel, rfl⟩
theorem rX5_gainOf_117 : tq_D cX5_gainOf 117 (.lload 10) 2 119 := ⟨by decide +kernel, rfl⟩
theorem rX5_gainOf_119 : tq_D cX5_gainOf 119 (.invokevirtual 72) 3 122 := ⟨by decide +kernel, rfl⟩
theorem rX5_gainOf_122 : tq_D cX5_gainOf 122 (.iload 12) 2 124 := ⟨by decide +kernel, rfl⟩
theorem rX5_gainOf_124 : tq_D cX5_gainOf 124 (.isub) 1 125 := ⟨by decide +kernel, rfl⟩
theorem rX5_gainOf_125 : tq_D cX5_gainOf 125 (.invokestatic 93) 3 128 := ⟨by decide +kernel, rfl⟩
theorem rX5_gainOf_128 : tq_D cX5_gainOf 128 (.istore 8) 2 130 := ⟨by decide +kernel, rfl⟩
theorem rX5_gainOf_130 : tq_D cX5_gainOf 130 (.iinc 9 1) 3 133 := ⟨by decide +kernel, rfl⟩
theorem rX5_gainOf_133 : tq_J cX5_gainOf 133 .goto 67 136 := ⟨(-66), by decide +kernel, by decide, rfl⟩
theorem rX5_gainOf_136 : tq_D cX5_gainOf 136 (.iload 8) 2 138 := ⟨by decide +kernel, rfl⟩
theorem rX5_gainOf_138 : decode cX5_gainOf 138 = .ok (.ireturn, 1) := by decide +kernel
noncomputable def FX5_gainOf_j12 (rc : tq_PI → tq_PL → Nat → Int32 → Int64 → Int32 → Option (Int32)) (I : tq_PI) (L : tq_PL)  : Option (Int32) :=
  some (0 : Int32)
noncomputable def FX5_gainOf_j130L67 (rc : tq_PI → tq_PL → Nat → Int32 → Int64 → Int32 → Option (Int32)) (I : tq_PI) (L : tq_PL) (a0 : Nat) (a2 : Int64) (a4 : Int32) (a5 : Int64) (a7 : Int32) (a8 : Int32) (a9 : Int32) : Option ((Int32 × Int32) ⊕ (Int32)) :=
  some (.inl (a8, (a9 + 1)))
noncomputable def FX5_gainOf_s67 (rc : tq_PI → tq_PL → Nat → Int32 → Int64 → Int32 → Option (Int32)) (I : tq_PI) (L : tq_PL) (a0 : Nat) (a2 : Int64) (a4 : Int32) (a5 : Int64) (a7 : Int32) (a8 : Int32) (a9 : Int32) : Option ((Int32 × Int32) ⊕ (Int32)) :=
  (if (48 : Int32) ≤ a9 then some (.inr a8) else (if (lg_cmp (a5 &&& ((1 : Int64) <<< (Int32.toInt64 a9 &&& 63))) (0 : Int64)) = 0 then (FX5_gainOf_j130L67 rc I L a0 a2 a4 a5 a7 a8 a9) else ((FX3_settled I L a0 ((a2 &&& ((a5 &&& ((1 : Int64) <<< (Int32.toInt64 a9 &&& 63))) ^^^ (-1 : Int64))))).bind fun p9 => ((rc I L a0 a7 p9 ((a4 - (1 : Int32)))).bind fun p10 => (tq_let (FX3_worthOf I L a0 ((a5 &&& ((1 : Int64) <<< (Int32.toInt64 a9 &&& 63))))) fun p11 => (FX5_gainOf_j130L67 rc I L a0 a2 a4 a5 a7 ((if a8 < (p11 - p10) then (p11 - p10) else a8)) a9))))))
noncomputable def FX5_gainOf_j48 (rc : tq_PI → tq_PL → Nat → Int32 → Int64 → Int32 → Option (Int32)) (I : tq_PI) (L : tq_PL) (a0 : Nat) (a2 : Int64) (a4 : Int32) (a5 : Int64) (b0 : Int32) : Option (Int32) :=
  ((rc I L a0 b0 a2 ((a4 - (1 : Int32)))).bind fun p6 => ((tq_it (fun p : Int32 × Int32 => FX5_gainOf_s67 rc I L a0 a2 a4 a5 b0 p.1 p.2) tq_N ((-p6), (0 : Int32))).bind fun p12 => some p12))
noncomputable def FX5_gainOfb (rc : tq_PI → tq_PL → Nat → Int32 → Int64 → Int32 → Option (Int32)) (I : tq_PI) (L : tq_PL) (a0 : Nat) (a1 : Int32) (a2 : Int64) (a4 : Int32) : Option (Int32) :=
  (if a4 < (1 : Int32) then (FX5_gainOf_j12 rc I L ) else (if a4 ≤ (3 : Int32) then ((FX3_cuttable I L a0 a1 a2).bind fun p3 => (if a4 = (1 : Int32) then (tq_let (FX3_dearest I L a0 p3) fun p13 => (tq_let (FX3_worthOf I L a0 p13) fun p14 => some p14)) else (if a1 = 0 then (FX5_gainOf_j48 rc I L a0 a2 a4 p3 ((1 : Int32))) else (FX5_gainOf_j48 rc I L a0 a2 a4 p3 ((0 : Int32)))))) else (FX5_gainOf_j12 rc I L )))
set_option maxRecDepth 100000 in
set_option maxHeartbeats 4000000 in
theorem FX5_gainOf_j12_x {S : Nat × (Nat → Int32)} {d : Nat} {rc : tq_PI → tq_PL → Nat → Int32 → Int64 → Int32 → Option (Int32)} (hrc : ∀ {I : tq_PI} {L : tq_PL} {a0 : Nat} {a1 : Int32} {a2 : Int64} {a4 : Int32} (h0 : tq_sh0 a0 = 3) {out : Int32}, rc I L a0 a1 a2 a4 = some out → tq_K S mX5_gainOf (d + 3) [.ref a0, .int a1, .long a2, .int a4] I L (tq_one2 (some (.int out)) I L)) {I : tq_PI} {L : tq_PL}   {q0 : Option Value → tq_PI → tq_PL → Prop} {out : Int32} (hf : FX5_gainOf_j12 rc I L = some out) (hk : q0 (some (.int out)) I L) : tq_X S mX5_gainOf (d + 4) tq_k0 12 ([tq_u, tq_u, tq_u, tq_u, tq_u, tq_u, tq_u, tq_u, tq_u, tq_u, tq_u, tq_u, tq_u]) ([]) (tq_st I L) (tq_Q q0) := by
  unfold FX5_gainOf_j12 at hf
  refine tq_iconst (0 : Int32) rX5_gainOf_12 (by decide) ?_
  refine ty_iret rX5_gainOf_13 rfl rfl ?_
  have hf := Option.some.inj hf
  subst hf
  exact hk

set_option maxRecDepth 100000 in
set_option maxHeartbeats 4000000 in
theorem FX5_gainOf_j130L67_x {S : Nat × (Nat → Int32)} {d : Nat} {rc : tq_PI → tq_PL → Nat → Int32 → Int64 → Int32 → Option (Int32)} (hrc : ∀ {I : tq_PI} {L : tq_PL} {a0 : Nat} {a1 : Int32} {a2 : Int64} {a4 : Int32} (h0 : tq_sh0 a0 = 3) {out : Int32}, rc I L a0 a1 a2 a4 = some out → tq_K S mX5_gainOf (d + 3) [.ref a0, .int a1, .long a2, .int a4] I L (tq_one2 (some (.int out)) I L)) {I : tq_PI} {L : tq_PL} {a0 : Nat} {a2 : Int64} {a4 : Int32} {a5 : Int64} {a7 : Int32} {a8 : Int32} {a9 : Int32} (h0 : tq_sh0 a0 = 3) {q0 : Option Value → tq_PI → tq_PL → Prop} {out : (Int32 × Int32) ⊕ (Int32)} (hf : FX5_gainOf_j130L67 rc I L a0 a2 a4 a5 a7 a8 a9 = some out) (hk : Sum.elim (fun p : Int32 × Int32 => tq_X S mX5_gainOf (d + 4) tq_k0 67 ([.ref a0, tq_u, .long a2, tq_u, .int a4, .long a5, tq_u, .int a7, .int p.1, .int p.2, tq_u, tq_u, tq_u]) [] (tq_st I L) (tq_Q q0)) (fun p : Int32 => tq_X S mX5_gainOf (d + 4) tq_k0 136 ([tq_u, tq_u, tq_u, tq_u, tq_u, tq_u, tq_u, tq_u, .int p, tq_u, tq_u, tq_u, tq_u]) [] (tq_st I L) (tq_Q q0)) out) : tq_X S mX5_gainOf (d + 4) tq_k0 130 ([.ref a0, tq_u, .long a2, tq_u, .int a4, .long a5, tq_u, .int a7, .int a8, .int a9, tq_u, tq_u, tq_u]) ([]) (tq_st I L) (tq_Q q0) := by
  unfold FX5_gainOf_j130L67 at hf
  refine tq_iinc (a9 + 1) ([.ref a0, tq_u, .long a2, tq_u, .int a4, .long a5, tq_u, .int a7, .int a8, .int (a9 + 1), tq_u, tq_u, tq_u]) rX5_gainOf_130 rfl (tq_inc (by decide)) (Nat.le_of_ble_eq_true rfl) rfl ?_
  refine tq_goto rX5_gainOf_133 ?_
  have hf := Option.some.inj hf
  subst hf
  exact tq_forget _ (tq_le_s (tq_le_u (tq_le_s (tq_le_u (tq_le_s (tq_le_s (tq_le_u (tq_le_s (tq_le_s (tq_le_s (tq_le_u (tq_le_u (tq_le_u tq_le_n))))))))))))) hk

set_option maxRecDepth 100000 in
set_option maxHeartbeats 4000000 in
theorem FX5_gainOf_s67_x {S : Nat × (Nat → Int32)} {d : Nat} {rc : tq_PI → tq_PL → Nat → Int32 → Int64 → Int32 → Option (Int32)} (hrc : ∀ {I : tq_PI} {L : tq_PL} {a0 : Nat} {a1 : Int32} {a2 : Int64} {a4 : Int32} (h0 : tq_sh0 a0 = 3) {out : Int32}, rc I L a0 a1 a2 a4 = some out → tq_K S mX5_gainOf (d + 3) [.ref a0, .int a1, .long a2, .int a4] I L (tq_one2 (some (.int out)) I L)) {I : tq_PI} {L : tq_PL} {a0 : Nat} {a2 : Int64} {a4 : Int32} {a5 : Int64} {a7 : Int32} {a8 : Int32} {a9 : Int32} (h0 : tq_sh0 a0 = 3) {q0 : Option Value → tq_PI → tq_PL → Prop} {out : (Int32 × Int32) ⊕ (Int32)} (hf : FX5_gainOf_s67 rc I L a0 a2 a4 a5 a7 a8 a9 = some out) (hk : Sum.elim (fun p : Int32 × Int32 => tq_X S mX5_gainOf (d + 4) tq_k0 67 ([.ref a0, tq_u, .long a2, tq_u, .int a4, .long a5, tq_u, .int a7, .int p.1, .int p.2, tq_u, tq_u, tq_u]) [] (tq_st I L) (tq_Q q0)) (fun p : Int32 => tq_X S mX5_gainOf (d + 4) tq_k0 136 ([tq_u, tq_u, tq_u, tq_u, tq_u, tq_u, tq_u, tq_u, .int p, tq_u, tq_u, tq_u, tq_u]) [] (tq_st I L) (tq_Q q0)) out) : tq_X S mX5_gainOf (d + 4) tq_k0 67 ([.ref a0, tq_u, .long a2, tq_u, .int a4, .long a5, tq_u, .int a7, .int a8, .int a9, tq_u, tq_u, tq_u]) [] (tq_st I L) (tq_Q q0) := by
  unfold FX5_gainOf_s67 at hf
  refine tq_iload rX5_gainOf_67 rfl ?_
  refine tq_bipush (48 : Int32) rX5_gainOf_69 (by decide) ?_
  refine tq_icmp_ge rX5_gainOf_71 (fun c7 => ?_) (fun c7 => ?_)
  · rw [if_pos c7] at hf
    have hf := Option.some.inj hf
    subst hf
    exact tq_forget _ (tq_le_u (tq_le_u (tq_le_u (tq_le_u (tq_le_u (tq_le_u (tq_le_u (tq_le_u (tq_le_s (tq_le_u (tq_le_u (tq_le_u (tq_le_u tq_le_n))))))))))))) hk
  · rw [if_neg c7] at hf
    refine tq_lload rX5_gainOf_74 rfl ?_
    refine tq_lconst (1 : Int64) rX5_gainOf_76 (by decide) ?_
    refine tq_iload rX5_gainOf_77 rfl ?_
    refine tq_lshl rX5_gainOf_79 ?_
    refine tq_land rX5_gainOf_80 ?_
    refine tq_lstore ([.ref a0, tq_u, .long a2, tq_u, .int a4, .long a5, tq_u, .int a7, .int a8, .int a9, .long (a5 &&& ((1 : Int64) <<< (Int32.toInt64 a9 &&& 63))), tq_u, tq_u]) rX5_gainOf_81 (Nat.le_of_ble_eq_true rfl) rfl ?_
    refine tq_lload rX5_gainOf_83 rfl ?_
    refine tq_lconst (0 : Int64) rX5_gainOf_85 (by decide) ?_
    refine tq_lcmp rX5_gainOf_86 ?_
    refine tq_if_eq rX5_gainOf_87 (fun c8 => ?_) (fun c8 => ?_)
    · rw [if_pos c8] at hf
      exact tq_forget _ (tq_le_s (tq_le_u (tq_le_s (tq_le_u (tq_le_s (tq_le_s (tq_le_u (tq_le_s (tq_le_s (tq_le_s (tq_le_u (tq_le_u (tq_le_u tq_le_n))))))))))))) (FX5_gainOf_j130L67_x hrc h0 hf hk)
    · rw [if_neg c8] at hf
      refine tq_aload_n rX5_gainOf_90 rfl ?_
      refine tq_iload rX5_gainOf_91 rfl ?_
      refine tq_aload_n rX5_gainOf_93 rfl ?_
      refine tq_lload_n rX5_gainOf_94 rfl ?_
      refine tq_lload rX5_gainOf_95 rfl ?_
      refine tq_ldc2 rX5_gainOf_97 (k_X5_58) ?_
      refine tq_lxor rX5_gainOf_100 ?_
      refine tq_land rX5_gainOf_101 ?_
      obtain ⟨p9, e9, hf⟩ := Option.bind_eq_some_iff.mp hf
      refine ty_callVJ p9 ([.long (a2 &&& ((a5 &&& ((1 : Int64) <<< (Int32.toInt64 a9 &&& 63))) ^^^ (-1 : Int64)))]) ([.int a7, .ref a0]) rX5_gainOf_102 l_X5_86 moX3_settled mvX3_settled h0 rfl rfl (Nat.le_of_ble_eq_true rfl) ⟨rfl, rfl⟩ (CX3_settled h0 e9) ?_
      refine tq_iload rX5_gainOf_105 rfl ?_
      refine tq_iconst (1 : Int32) rX5_gainOf_107 (by decide) ?_
      refine tq_isub rX5_gainOf_108 ?_
      obtain ⟨p10, e10, hf⟩ := Option.bind_eq_some_iff.mp hf
      refine ty_callSI p10 ([.ref a0, .int a7, .long p9, .int (a4 - (1 : Int32))]) ([]) rX5_gainOf_109 l_X5_89 moX5_gainOf msX5_gainOf rfl rfl (Nat.le_of_ble_eq_true rfl) ⟨rfl, rfl⟩ (hrc h0 e10) ?_
      refine tq_istore ([.ref a0, tq_u, .long a2, tq_u, .int a4, .long a5, tq_u, .int a7, .int a8, .int a9, .long (a5 &&& ((1 : Int64) <<< (Int32.toInt64 a9 &&& 63))), tq_u, .int p10]) rX5_gainOf_112 (Nat.le_of_ble_eq_true rfl) rfl ?_
      refine tq_iload rX5_gainOf_114 rfl ?_
      refine tq_aload_n rX5_gainOf_116 rfl ?_
      refine tq_lload rX5_gainOf_117 rfl ?_
      obtain ⟨p11, e11, hf⟩ := tq_let_elim hf
      refine ty_callVI p11 ([.long (a5 &&& ((1 : Int64) <<< (Int32.toInt64 a9 &&& 63)))]) ([.int a8]) rX5_gainOf_119 l_X5_72 moX3_worthOf mvX3_worthOf h0 rfl rfl (Nat.le_of_ble_eq_true rfl) ⟨rfl, rfl⟩ (CX3_worthOf h0 e11) ?_
      refine tq_iload rX5_gainOf_122 rfl ?_
      refine tq_isub rX5_gainOf_124 ?_
      refine tq_mmax rX5_gainOf_125 (Nat.le_of_ble_eq_true rfl) n_X5_93 ?_
      refine tq_istore ([.ref a0, tq_u, .long a2, tq_u, .int a4, .long a5, tq_u, .int a7, .int (if a8 < (p11 - p10) then (p11 - p10) else a8), .int a9, .long (a5 &&& ((1 : Int64) <<< (Int32.toInt64 a9 &&& 63))), tq_u, .int p10]) rX5_gainOf_128 (Nat.le_of_ble_eq_true rfl) rfl ?_
      exact tq_forget _ (tq_le_s (tq_le_u (tq_le_s (tq_le_u (tq_le_s (tq_le_s (tq_le_u (tq_le_s (tq_le_s (tq_le_s (tq_le_u (tq_le_u (tq_le_u tq_le_n))))))))))))) (FX5_gainOf_j130L67_x hrc h0 hf hk)

set_option maxRecDepth 100000 in
set_option maxHeartbeats 4000000 in
theorem FX5_gainOf_j48_x {S : Nat × (Nat → Int32)} {d : Nat} {rc : tq_PI → tq_PL → Nat → Int32 → Int64 → Int32 → Option (Int32)} (hrc : ∀ {I : tq_PI} {L : tq_PL} {a0 : Nat} {a1 : Int32} {a2 : Int64} {a4 : Int32} (h0 : tq_sh0 a0 = 3) {out : Int32}, rc I L a0 a1 a2 a4 = some out → tq_K S mX5_gainOf (d + 3) [.ref a0, .int a1, .long a2, .int a4] I L (tq_one2 (some (.int out)) I L)) {I : tq_PI} {L : tq_PL} {a0 : Nat} {a2 : Int64} {a4 : Int32} {a5 : Int64} {b0 : Int32} (h0 : tq_sh0 a0 = 3) {q0 : Option Value → tq_PI → tq_PL → Prop} {out : Int32} (hf : FX5_gainOf_j48 rc I L a0 a2 a4 a5 b0 = some out) (hk : q0 (some (.int out)) I L) : tq_X S mX5_gainOf (d + 4) tq_k0 48 ([.ref a0, tq_u, .long a2, tq_u, .int a4, .long a5, tq_u, tq_u, tq_u, tq_u, tq_u, tq_u, tq_u]) ([.int b0]) (tq_st I L) (tq_Q q0) := by
  unfold FX5_gainOf_j48 at hf
  refine tq_istore ([.ref a0, tq_u, .long a2, tq_u, .int a4, .long a5, tq_u, .int b0, tq_u, tq_u, tq_u, tq_u, tq_u]) rX5_gainOf_48 (Nat.le_of_ble_eq_true rfl) rfl ?_
  refine tq_aload_n rX5_gainOf_50 rfl ?_
  refine tq_iload rX5_gainOf_51 rfl ?_
  refine tq_lload_n rX5_gainOf_53 rfl ?_
  refine tq_iload rX5_gainOf_54 rfl ?_
  refine tq_iconst (1 : Int32) rX5_gainOf_56 (by decide) ?_
  refine tq_isub rX5_gainOf_57 ?_
  obtain ⟨p6, e6, hf⟩ := Option.bind_eq_some_iff.mp hf
  refine ty_callSI p6 ([.ref a0, .int b0, .long a2, .int (a4 - (1 : Int32))]) ([]) rX5_gainOf_58 l_X5_89 moX5_gainOf msX5_gainOf rfl rfl (Nat.le_of_ble_eq_true rfl) ⟨rfl, rfl⟩ (hrc h0 e6) ?_
  refine tq_ineg rX5_gainOf_61 ?_
  refine tq_istore ([.ref a0, tq_u, .long a2, tq_u, .int a4, .long a5, tq_u, .int b0, .int (-p6), tq_u, tq_u, tq_u, tq_u]) rX5_gainOf_62 (Nat.le_of_ble_eq_true rfl) rfl ?_
  refine tq_iconst (0 : Int32) rX5_gainOf_64 (by decide) ?_
  refine tq_istore ([.ref a0, tq_u, .long a2, tq_u, .int a4, .long a5, tq_u, .int b0, .int (-p6), .int (0 : Int32), tq_u, tq_u, tq_u]) rX5_gainOf_65 (Nat.le_of_ble_eq_true rfl) rfl ?_
  obtain ⟨p12, e12, hf⟩ := Option.bind_eq_some_iff.mp hf
  refine tq_forget _ (tq_le_s (tq_le_u (tq_le_s (tq_le_u (tq_le_s (tq_le_s (tq_le_u (tq_le_s (tq_le_s (tq_le_s (tq_le_u (tq_le_u (tq_le_u tq_le_n))))))))))))) ?_
  refine tq_it_elim (P := fun p : Int32 × Int32 => tq_X S mX5_gainOf (d + 4) tq_k0 67 ([.ref a0, tq_u, .long a2, tq_u, .int a4, .long a5, tq_u, .int b0, .int p.1, .int p.2, tq_u, tq_u, tq_u]) [] (tq_st I L) (tq_Q q0)) (R := fun p : Int32 => tq_X S mX5_gainOf (d + 4) tq_k0 136 ([tq_u, tq_u, tq_u, tq_u, tq_u, tq_u, tq_u, tq_u, .int p, tq_u, tq_u, tq_u, tq_u]) [] (tq_st I L) (tq_Q q0)) (fun p o hp hk => FX5_gainOf_s67_x hrc h0 hp hk) _ (((-p6), (0 : Int32))) _ e12 ?_
  show tq_X _ _ _ _ _ _ _ _ _
  refine tq_iload rX5_gainOf_136 rfl ?_
  refine ty_iret rX5_gainOf_138 rfl rfl ?_
  have hf := Option.some.inj hf
  subst hf
  exact hk

set_option maxRecDepth 100000 in
set_option maxHeartbeats 4000000 in
theorem CX5_gainOfb {S : Nat × (Nat → Int32)} {d : Nat} {rc : tq_PI → tq_PL → Nat → Int32 → Int64 → Int32 → Option (Int32)} (hrc : ∀ {I : tq_PI} {L : tq_PL} {a0 : Nat} {a1 : Int32} {a2 : Int64} {a4 : Int32} (h0 : tq_sh0 a0 = 3) {out : Int32}, rc I L a0 a1 a2 a4 = some out → tq_K S mX5_gainOf (d + 3) [.ref a0, .int a1, .long a2, .int a4] I L (tq_one2 (some (.int out)) I L)) {I : tq_PI} {L : tq_PL} {a0 : Nat} {a1 : Int32} {a2 : Int64} {a4 : Int32} (h0 : tq_sh0 a0 = 3) {out : Int32} (hf : FX5_gainOfb rc I L a0 a1 a2 a4 = some out) : tq_K S mX5_gainOf (d + 4) [.ref a0, .int a1, .long a2, .int a4] I L (tq_one2 (some (.int out)) I L) := by
  unfold FX5_gainOfb at hf
  refine tq_K_of (by decide) (Nat.le_of_ble_eq_true rfl) (ls := [.ref a0, .int a1, .long a2, tq_u, .int a4, tq_u, tq_u, tq_u, tq_u, tq_u, tq_u, tq_u, tq_u]) rfl ?_
  refine tq_iload rX5_gainOf_0 rfl ?_
  refine tq_iconst (1 : Int32) rX5_gainOf_2 (by decide) ?_
  refine tq_icmp_lt rX5_gainOf_3 (fun c1 => ?_) (fun c1 => ?_)
  · rw [if_pos c1] at hf
    exact tq_forget _ (tq_le_u (tq_le_u (tq_le_u (tq_le_u (tq_le_u (tq_le_u (tq_le_u (tq_le_u (tq_le_u (tq_le_u (tq_le_u (tq_le_u (tq_le_u tq_le_n))))))))))))) (FX5_gainOf_j12_x hrc  hf ⟨rfl, rfl, rfl⟩)
  · rw [if_neg c1] at hf
    refine tq_iload rX5_gainOf_6 rfl ?_
    refine tq_iconst (3 : Int32) rX5_gainOf_8 (by decide) ?_
    refine tq_icmp_le rX5_gainOf_9 (fun c2 => ?_) (fun c2 => ?_)
    · rw [if_pos c2] at hf
      refine tq_aload_n rX5_gainOf_14 rfl ?_
      refine tq_iload_n rX5_gainOf_15 rfl ?_
      refine tq_lload_n rX5_gainOf_16 rfl ?_
      obtain ⟨p3, e3, hf⟩ := Option.bind_eq_some_iff.mp hf
      refine ty_callVJ p3 ([.int a1, .long a2]) ([]) rX5_gainOf_17 l_X5_83 moX3_cuttable mvX3_cuttable h0 rfl rfl (Nat.le_of_ble_eq_true rfl) ⟨rfl, rfl⟩ (CX3_cuttable h0 e3) ?_
      refine tq_lstore ([.ref a0, .int a1, .long a2, tq_u, .int a4, .long p3, tq_u, tq_u, tq_u, tq_u, tq_u, tq_u, tq_u]) rX5_gainOf_20 (Nat.le_of_ble_eq_true rfl) rfl ?_
      refine tq_iload rX5_gainOf_22 rfl ?_
      refine tq_iconst (1 : Int32) rX5_gainOf_24 (by decide) ?_
      refine tq_icmp_ne rX5_gainOf_25 (fun c4 => ?_) (fun c4 => ?_)
      · rw [if_neg c4] at hf
        refine tq_iload_n rX5_gainOf_39 rfl ?_
        refine tq_if_ne rX5_gainOf_40 (fun c5 => ?_) (fun c5 => ?_)
        · rw [if_neg c5] at hf
          refine tq_iconst (0 : Int32) rX5_gainOf_47 (by decide) ?_
          exact tq_forget _ (tq_le_s (tq_le_u (tq_le_s (tq_le_u (tq_le_s (tq_le_s (tq_le_u (tq_le_u (tq_le_u (tq_le_u (tq_le_u (tq_le_u (tq_le_u tq_le_n))))))))))))) (FX5_gainOf_j48_x hrc h0 hf ⟨rfl, rfl, rfl⟩)
        · rw [if_pos c5] at hf
          refine tq_iconst (1 : Int32) rX5_gainOf_43 (by decide) ?_
          refine tq_goto rX5_gainOf_44 ?_
          exact tq_forget _ (tq_le_s (tq_le_u (tq_le_s (tq_le_u (tq_le_s (tq_le_s (tq_le_u (tq_le_u (tq_le_u (tq_le_u (tq_le_u (tq_le_u (tq_le_u tq_le_n))))))))))))) (FX5_gainOf_j48_x hrc h0 hf ⟨rfl, rfl, rfl⟩)
      · rw [if_pos c4] at hf
        refine tq_aload_n rX5_gainOf_28 rfl ?_
        refine tq_aload_n rX5_gainOf_29 rfl ?_
        refine tq_lload rX5_gainOf_30 rfl ?_
        obtain ⟨p13, e13, hf⟩ := tq_let_elim hf
        refine ty_callVJ p13 ([.long p3]) ([.ref a0]) rX5_gainOf_32 l_X5_68 moX3_dearest mvX3_dearest h0 rfl rfl (Nat.le_of_ble_eq_true rfl) ⟨rfl, rfl⟩ (CX3_dearest h0 e13) ?_
        obtain ⟨p14, e14, hf⟩ := tq_let_elim hf
        refine ty_callVI p14 ([.long p13]) ([]) rX5_gainOf_35 l_X5_72 moX3_worthOf mvX3_worthOf h0 rfl rfl (Nat.le_of_ble_eq_true rfl) ⟨rfl, rfl⟩ (CX3_worthOf h0 e14) ?_
        refine ty_iret rX5_gainOf_38 rfl rfl ?_
        have hf := Option.some.inj hf
        subst hf
        exact ⟨rfl, rfl, rfl⟩
    · rw [if_neg c2] at hf
      exact tq_forget _ (tq_le_u (tq_le_u (tq_le_u (tq_le_u (tq_le_u (tq_le_u (tq_le_u (tq_le_u (tq_le_u (tq_le_u (tq_le_u (tq_le_u (tq_le_u tq_le_n))))))))))))) (FX5_gainOf_j12_x hrc  hf ⟨rfl, rfl, rfl⟩)

noncomputable def FX5_gainOf : Nat → tq_PI → tq_PL → Nat → Int32 → Int64 → Int32 → Option (Int32)
  | 0, _, _, _, _, _, _ => none
  | n + 1, I, L, a0, a1, a2, a4 => FX5_gainOfb (FX5_gainOf n) I L a0 a1 a2 a4
theorem CX5_gainOf_all {S : Nat × (Nat → Int32)} : ∀ (n : Nat) (d : Nat) (I : tq_PI) (L : tq_PL) (a0 : Nat) (a1 : Int32) (a2 : Int64) (a4 : Int32) (h0 : tq_sh0 a0 = 3) (out : Int32) (hf : FX5_gainOf n I L a0 a1 a2 a4 = some out), tq_K S mX5_gainOf (d + n + 3) [.ref a0, .int a1, .long a2, .int a4] I L (tq_one2 (some (.int out)) I L)
  | 0 => by
    intro d I L a0 a1 a2 a4 h0 out hf
    cases hf
  | n + 1 => by
    intro d I L a0 a1 a2 a4 h0 out hf
    exact CX5_gainOfb (d := d + n) (rc := FX5_gainOf n) (fun h0 _ hf => CX5_gainOf_all n _ _ _ _ _ _ _ h0 _ hf) h0 hf
theorem CX5_gainOf {S : Nat × (Nat → Int32)} {d : Nat} {I : tq_PI} {L : tq_PL} {a0 : Nat} {a1 : Int32} {a2 : Int64} {a4 : Int32} (h0 : tq_sh0 a0 = 3) {out : Int32} (hf : FX5_gainOf tq_n20 I L a0 a1 a2 a4 = some out) : tq_K S mX5_gainOf (d + 23) [.ref a0, .int a1, .long a2, .int a4] I L (tq_one2 (some (.int out)) I L) := by
  have h := CX5_gainOf_all (S := S) tq_n20 d I L a0 a1 a2 a4 h0 _ hf
  rw [tq_n20_eq] at h
  exact h
abbrev mX5_fight : tq_M := (yX5_fight, cX5_fight, 11, (Option.none : Option Jvm.ClassFile.FieldType), 0, 0)
theorem f_X5_26 : tq_fok RX5 26 5 4 := ⟨by decide, by decide, Or.inl (tq_sg2 _ (List.mem_of_getElem? (i := 50) rfl))⟩
theorem f_X5_29 : tq_fok RX5 29 5 5 := ⟨by decide, by decide, Or.inl (tq_sg2 _ (List.mem_of_getElem? (i := 52) rfl))⟩
theorem l_X5_79 : tq_lok RX5 79 mX3_cellCount.1 := Or.inl (tq_sg4 _ (List.mem_of_getElem? (i := 192) rfl))
theorem rX5_fight_0 : tq_D cX5_fight 0 (.aload_n 0) 1 1 := ⟨by decide +kernel, rfl⟩
theorem rX5_fight_1 : tq_D cX5_fight 1 (.iconst 0) 1 2 := ⟨by decide +kernel, rfl⟩
theorem rX5_fight_2 : tq_D cX5_fight 2 (.putfield 26) 3 5 := ⟨by decide +kernel, rfl⟩
theorem rX5_fight_5 : tq_D cX5_fight 5 (.aload_n 0) 1 6 := ⟨by decide +kernel, rfl⟩
theorem rX5_fight_6 : tq_D cX5_fight 6 (.aload_n 1) 1 7 := ⟨by decide +kernel, rfl⟩
theorem rX5_fight_7 : tq_D cX5_fight 7 (.invokevirtual 79) 3 10 := ⟨by decide +kernel, rfl⟩
theorem rX5_fight_10 : tq_D cX5_fight 10 (.putfield 29) 3 13 := ⟨by decide +kernel, rfl⟩
theorem rX5_fight_13 : tq_D cX5_fight 13 (.iload_n 2) 1 14 := ⟨by decide +kernel, rfl⟩
theorem rX5_fight_14 : tq_D cX5_fight 14 (.iconst 1) 1 15 := ⟨by decide +kernel, rfl⟩
theorem rX5_fight_15 : tq_J cX5_fight 15 (.if_icmp .ge) 19 18 := ⟨4, by decide +kernel, by decide, rfl⟩
theorem rX5_fight_18 : decode cX5_fight 18 = .ok (.return_, 1) := by decide +kernel
theorem rX5_fight_19 : tq_D cX5_fight 19 (.aload_n 1) 1 20 := ⟨by decide +kernel, rfl⟩
theorem rX5_fight_20 : tq_D cX5_fight 20 (.invokevirtual 42) 3 23 := ⟨by decide +kernel, rfl⟩
theorem rX5_fight_23 : tq_D cX5_fight 23 (.lstore_n 3) 1 24 := ⟨by decide +kernel, rfl⟩
theorem rX5_fight_24 : tq_D cX5_fight 24 (.aload_n 1) 1 25 := ⟨by decide +kernel, rfl⟩
theorem rX5_fight_25 : tq_D cX5_fight 25 (.iconst 0) 1 26 := ⟨by decide +kernel, rfl⟩
theorem rX5_fight_26 : tq_D cX5_fight 26 (.lload_n 3) 1 27 := ⟨by decide +kernel, rfl⟩
theorem rX5_fight_27 : tq_D cX5_fight 27 (.invokevirtual 83) 3 30 := ⟨by decide +kernel, rfl⟩
theorem rX5_fight_30 : tq_D cX5_fight 30 (.lstore 5) 2 32 := ⟨by decide +kernel, rfl⟩
theorem rX5_fight_32 : tq_D cX5_fight 32 (.aload_n 0) 1 33 := ⟨by decide +kernel, rfl⟩
theorem rX5_fight_33 : tq_D cX5_fight 33 (.sipush (-1000)) 3 36 := ⟨by decide +kernel, rfl⟩
theorem rX5_fight_36 : tq_D cX5_fight 36 (.putfield 26) 3 39 := ⟨by decide +kernel, rfl⟩
theorem rX5_fight_39 : tq_D cX5_fight 39 (.iconst 0) 1 40 := ⟨by decide +kernel, rfl⟩
theorem rX5_fight_40 : tq_D cX5_fight 40 (.istore 7) 2 42 := ⟨by decide +kernel, rfl⟩
theorem rX5_fight_42 : tq_D cX5_fight 42 (.iload 7) 2 44 := ⟨by decide +kernel, rfl⟩
theorem rX5_fight_44 : tq_D cX5_fight 44 (.bipush 48) 2 46 := ⟨by decide +kernel, rfl⟩
theorem rX5_fight_46 : tq_J cX5_fight 46 (.if_icmp .ge) 125 49 := ⟨79, by decide +kernel, by decide, rfl⟩
theorem rX5_fight_49 : tq_D cX5_fight 49 (.lload 5) 2 51 := ⟨by decide +kernel, rfl⟩
theorem rX5_fight_51 : tq_D cX5_fight 51 (.lconst 1) 1 52 := ⟨by decide +kernel, rfl⟩
theorem rX5_fight_52 : tq_D cX5_fight 52 (.iload 7) 2 54 := ⟨by decide +kernel, rfl⟩
theorem rX5_fight_54 : tq_D cX5_fight 54 (.lshl) 1 55 := ⟨by decide +kernel, rfl⟩
theorem rX5_fight_55 : tq_D cX5_fight 55 (.land) 1 56 := ⟨by decide +kernel, rfl⟩
theorem rX5_fight_56 : tq_D cX5_fight 56 (.lstore 8) 2 58 := ⟨by decide +kernel, rfl⟩
theorem rX5_fight_58 : tq_D cX5_fight 58 (.lload 8) 2 60 := ⟨by decide +kernel, rfl⟩
theorem rX5_fight_60 : tq_D cX5_fight 60 (.lconst 0) 1 61 := ⟨by decide +kernel, rfl⟩
theorem rX5_fight_61 : tq_D cX5_fight 61 (.lcmp) 1 62 := ⟨by decide +kernel, rfl⟩
theorem rX5_fight_62 : tq_J cX5_fight 62 (.ifCond .eq) 119 65 := ⟨57, by decide +kernel, by decide, rfl⟩
theorem rX5_fight_65 : tq_D cX5_fight 65 (.aload_n 1) 1 66 := ⟨by decide +kernel, rfl⟩
theorem rX5_fight_66 : tq_D cX5_fight 66 (.lload 8) 2 68 := ⟨by decide +kernel, rfl⟩
theorem rX5_fight_68 : tq_D cX5_fight 68 (.invokevirtual 72) 3 71 := ⟨by decide +kernel, rfl⟩
theorem rX5_fight_71 : tq_D cX5_fight 71 (.aload_n 1) 1 72 := ⟨by decide +kernel, rfl⟩
theorem rX5_fight_72 : tq_D cX5_fight 72 (.iconst 1) 1 73 := ⟨by decide +kernel, rfl⟩
theorem rX5_fight_73 : tq_D cX5_fight 73 (.aload_n 1) 1 74 := ⟨by decide +kernel, rfl⟩
theorem rX5_fight_74 : tq_D cX5_fight 74 (.lload_n 3) 1 75 := ⟨by decide +kernel, rfl⟩
theorem rX5_fight_75 : tq_D cX5_fight 75 (.lload 8) 2 77 := ⟨by decide +kernel, rfl⟩
theorem rX5_fight_77 : tq_D cX5_fight 77 (.ldc2_w 58) 3 80 := ⟨by decide +kernel, rfl⟩
theorem rX5_fight_80 : tq_D cX5_fight 80 (.lxor) 1 81 := ⟨by decide +kernel, rfl⟩
theorem rX5_fight_81 : tq_D cX5_fight 81 (.land) 1 82 := ⟨by decide +kernel, rfl⟩
theorem rX5_fight_82 : tq_D cX5_fight 82 (.invokevirtual 86) 3 85 := ⟨by decide +kernel, rfl⟩
theorem rX5_fight_85 : tq_D cX5_fight 85 (.iload_n 2) 1 86 := ⟨by decide +kernel, rfl⟩
theorem rX5_fight_86 : tq_D cX5_fight 86 (.iconst 1) 1 87 := ⟨by decide +kernel, rfl⟩
theorem rX5_fight_87 : tq_D cX5_fight 87 (.isub) 1 88 := ⟨by decide +kernel, rfl⟩
theorem rX5_fight_88 : tq_D cX5_fight 88 (.invokestatic 89) 3 91 := ⟨by decide +kernel, rfl⟩
theorem rX5_fight_91 : tq_D cX5_fight 91 (.isub) 1 92 := ⟨by decide +kernel, rfl⟩
theorem rX5_fight_92 : tq_D cX5_fight 92 (.istore 10) 2 94 := ⟨by decide +kernel, rfl⟩
theorem rX5_fight_94 : tq_D cX5_fight 94 (.iload 10) 2 96 := ⟨by decide +kernel, rfl⟩
theorem rX5_fight_96 : tq_D cX5_fight 96 (.aload_n 0) 1 97 := ⟨by decide +kernel, rfl⟩
theorem rX5_fight_97 : tq_D cX5_fight 97 (.getfield 26) 3 100 := ⟨by decide +kernel, rfl⟩
theorem rX5_fight_100 : tq_J cX5_fight 100 (.if_icmp .le) 119 103 := ⟨19, by decide +kernel, by decide, rfl⟩
theorem rX5_fight_103 : tq_D cX5_fight 103 (.aload_n 0) 1 104 := ⟨by decide +kernel, rfl⟩
theorem rX5_fight_104 : tq_D cX5_fight 104 (.iload 10) 2 106 := ⟨by decide +kernel, rfl⟩
theorem rX5_fight_106 : tq_D cX5_fight 106 (.putfield 26) 3 109 := ⟨by decide +kernel, rfl⟩
theorem rX5_fight_109 : tq_D cX5_fight 109 (.aload_n 0) 1 110 := ⟨by decide +kernel, rfl⟩
theorem rX5_fight_110 : tq_D cX5_fight 110 (.aload_n 1) 1 111 := ⟨by decide +kernel, rfl⟩
theorem rX5_fight_111 : tq_D cX5_fight 111 (.lload 8) 2 113 := ⟨by decide +kernel, rfl⟩
theorem rX5_fight_113 : tq_D cX5_fight 113 (.invokevirtual 76) 3 116 := ⟨by decide +kernel, rfl⟩
theorem rX5_fight_116 : tq_D cX5_fight 116 (.putfield 29) 3 119 := ⟨by decide +kernel, rfl⟩
theorem rX5_fight_119 : tq_D cX5_fight 119 (.iinc 7 1) 3 122 := ⟨by decide +kernel, rfl⟩
theorem rX5_fight_122 : tq_J cX5_fight 122 .goto 42 125 := ⟨(-80), by decide +kernel, by decide, rfl⟩
theorem rX5_fight_125 : tq_D cX5_fight 125 (.aload_n 1) 1 126 := ⟨by decide +kernel, rfl⟩
theorem rX5_fight_126 : tq_D cX5_fight 126 (.iconst 1) 1 127 := ⟨by decide +kernel, rfl⟩
theorem rX5_fight_127 : tq_D cX5_fight 127 (.lload_n 3) 1 128 := ⟨by decide +kernel, rfl⟩
theorem rX5_fight_128 : tq_D cX5_fight 128 (.iload_n 2) 1 129 := ⟨by decide +kernel, rfl⟩
theorem rX5_fight_129 : tq_D cX5_fight 129 (.iconst 1) 1 130 := ⟨by decide +kernel, rfl⟩
theorem rX5_fight_130 : tq_D cX5_fight 130 (.isub) 1 131 := ⟨by decide +kernel, rfl⟩
theorem rX5_fight_131 : tq_D cX5_fight 131 (.invokestatic 89) 3 134 := ⟨by decide +kernel, rfl⟩
theorem rX5_fight_134 : tq_D cX5_fight 134 (.ineg) 1 135 := ⟨by decide +kernel, rfl⟩
theorem rX5_fight_135 : tq_D cX5_fight 135 (.istore 7) 2 137 := ⟨by decide +kernel, rfl⟩
theorem rX5_fight_137 : tq_D cX5_fight 137 (.iload 7) 2 139 := ⟨by decide +kernel, rfl⟩
theorem rX5_fight_139 : tq_D cX5_fight 139 (.aload_n 0) 1 140 := ⟨by decide +kernel, rfl⟩
theorem rX5_fight_140 : tq_D cX5_fight 140 (.getfield 26) 3 143 := ⟨by decide +kernel, rfl⟩
theorem rX5_fight_143 : tq_J cX5_fight 143 (.if_icmp .le) 160 146 := ⟨17, by decide +kernel, by decide, rfl⟩
theorem rX5_fight_146 : tq_D cX5_fight 146 (.aload_n 0) 1 147 := ⟨by decide +kernel, rfl⟩
theorem rX5_fight_147 : tq_D cX5_fight 147 (.iload 7) 2 149 := ⟨by decide +kernel, rfl⟩
theorem rX5_fight_149 : tq_D cX5_fight 149 (.putfield 26) 3 152 := ⟨by decide +kernel, rfl⟩
theorem rX5_fight_152 : tq_D cX5_fight 152 (.aload_n 0) 1 153 := ⟨by decide +kernel, rfl⟩
theorem rX5_fight_153 : tq_D cX5_fight 153 (.aload_n 1) 1 154 := ⟨by decide +kernel, rfl⟩
theorem rX5_fight_154 : tq_D cX5_fight 154 (.invokevirtual 79) 3 157 := ⟨by decide +kernel, rfl⟩
theorem rX5_fight_157 : tq_D cX5_fight 157 (.putfield 29) 3 160 := ⟨by decide +kernel, rfl⟩
theorem rX5_fight_160 : decode cX5_fight 160 = .ok (.return_, 1) := by decide +kernel
noncomputable def FX5_fight_j119L42 (I : tq_PI) (L : tq_PL) (a0 : Nat) (a1 : Nat) (a2 : Int32) (a3 : Int64) (a5 : Int64) (a7 : Int32) : Option ((Int32 × tq_PI) ⊕ (tq_PI)) :=
  some (.inl ((a7 + 1), I))
noncomputable def FX5_fight_s42 (I : tq_PI) (L : tq_PL) (a0 : Nat) (a1 : Nat) (a2 : Int32) (a3 : Int64) (a5 : Int64) (a7 : Int32) : Option ((Int32 × tq_PI) ⊕ (tq_PI)) :=
  (if (48 : Int32) ≤ a7 then some (.inr I) else (if (lg_cmp (a5 &&& ((1 : Int64) <<< (Int32.toInt64 a7 &&& 63))) (0 : Int64)) = 0 then (FX5_fight_j119L42 I L a0 a1 a2 a3 a5 a7) else (tq_let (FX3_worthOf I L a1 ((a5 &&& ((1 : Int64) <<< (Int32.toInt64 a7 &&& 63))))) fun p7 => ((FX3_settled I L a1 ((a3 &&& ((a5 &&& ((1 : Int64) <<< (Int32.toInt64 a7 &&& 63))) ^^^ (-1 : Int64))))).bind fun p8 => ((FX5_gainOf tq_n20 I L a1 ((1 : Int32)) p8 ((a2 - (1 : Int32)))).bind fun p9 => (if (p7 - p9) ≤ (I a0 4) then (FX5_fight_j119L42 I L a0 a1 a2 a3 a5 a7) else ((FX3_numberOf ((tq_up2 I a0 4 (p7 - p9))) L a1 ((a5 &&& ((1 : Int64) <<< (Int32.toInt64 a7 &&& 63))))).bind fun p11 => (FX5_fight_j119L42 ((tq_up2 (tq_up2 I a0 4 (p7 - p9)) a0 5 p11)) L a0 a1 a2 a3 a5 a7))))))))
noncomputable def FX5_fight (I : tq_PI) (L : tq_PL) (a0 : Nat) (a1 : Nat) (a2 : Int32) : Option (tq_PI) :=
  (tq_let (FX3_cellCount ((tq_up2 I a0 4 (0 : Int32))) L a1) fun p1 => (if (1 : Int32) ≤ a2 then (tq_let (FX3_solid ((tq_up2 (tq_up2 I a0 4 (0 : Int32)) a0 5 p1)) L a1) fun p3 => ((FX3_cuttable ((tq_up2 (tq_up2 I a0 4 (0 : Int32)) a0 5 p1)) L a1 ((0 : Int32)) p3).bind fun p4 => ((tq_it (fun p : Int32 × tq_PI => FX5_fight_s42 p.2 L a0 a1 a2 p3 p4 p.1) tq_N ((0 : Int32), (tq_up2 (tq_up2 (tq_up2 I a0 4 (0 : Int32)) a0 5 p1) a0 4 (-1000 : Int32)))).bind fun p12 => ((FX5_gainOf tq_n20 p12 L a1 ((1 : Int32)) p3 ((a2 - (1 : Int32)))).bind fun p13 => (if (-p13) ≤ (p12 a0 4) then some p12 else (tq_let (FX3_cellCount ((tq_up2 p12 a0 4 (-p13))) L a1) fun p15 => some (tq_up2 (tq_up2 p12 a0 4 (-p13)) a0 5 p15))))))) else some (tq_up2 (tq_up2 I a0 4 (0 : Int32)) a0 5 p1)))
set_option maxRecDepth 100000 in
set_option maxHeartbeats 4000000 in
theorem FX5_fight_j119L42_x {S : Nat × (Nat → Int32)} {d : Nat} {I : tq_PI} {L : tq_PL} {a0 : Nat} {a1 : Nat} {a2 : Int32} {a3 : Int64} {a5 : Int64} {a7 : Int32} (h0 : tq_sh0 a0 = 5) (h1 : tq_sh0 a1 = 3) {q0 : Option Value → tq_PI → tq_PL → Prop} {out : (Int32 × tq_PI) ⊕ (tq_PI)} (hf : FX5_fight_j119L42 I L a0 a1 a2 a3 a5 a7 = some out) (hk : Sum.elim (fun p : Int32 × tq_PI => tq_X S mX5_fight (d + 24) tq_k0 42 ([.ref a0, .ref a1, .int a2, .long a3, tq_u, .long a5, tq_u, .int p.1, tq_u, tq_u, tq_u]) [] (tq_st p.2 L) (tq_Q q0)) (fun p : tq_PI => tq_X S mX5_fight (d + 24) tq_k0 125 ([.ref a0, .ref a1, .int a2, .long a3, tq_u, tq_u, tq_u, tq_u, tq_u, tq_u, tq_u]) [] (tq_st p L) (tq_Q q0)) out) : tq_X S mX5_fight (d + 24) tq_k0 119 ([.ref a0, .ref a1, .int a2, .long a3, tq_u, .long a5, tq_u, .int a7, tq_u, tq_u, tq_u]) ([]) (tq_st I L) (tq_Q q0) := by
  unfold FX5_fight_j119L42 at hf
  refine tq_iinc (a7 + 1) ([.ref a0, .ref a1, .int a2, .long a3, tq_u, .long a5, tq_u, .int (a7 + 1), tq_u, tq_u, tq_u]) rX5_fight_119 rfl (tq_inc (by decide)) (Nat.le_of_ble_eq_true rfl) rfl ?_
  refine tq_goto rX5_fight_122 ?_
  have hf := Option.some.inj hf
  subst hf
  exact tq_forget _ (tq_le_s (tq_le_s (tq_le_s (tq_le_s (tq_le_u (tq_le_s (tq_le_u (tq_le_s (tq_le_u (tq_le_u (tq_le_u tq_le_n))))))))))) hk

set_option maxRecDepth 100000 in
set_option maxHeartbeats 4000000 in
theorem FX5_fight_s42_x {S : Nat × (Nat → Int32)} {d : Nat} {I : tq_PI} {L : tq_PL} {a0 : Nat} {a1 : Nat} {a2 : Int32} {a3 : Int64} {a5 : Int64} {a7 : Int32} (h0 : tq_sh0 a0 = 5) (h1 : tq_sh0 a1 = 3) {q0 : Option Value → tq_PI → tq_PL → Prop} {out : (Int32 × tq_PI) ⊕ (tq_PI)} (hf : FX5_fight_s42 I L a0 a1 a2 a3 a5 a7 = some out) (hk : Sum.elim (fun p : Int32 × tq_PI => tq_X S mX5_fight (d + 24) tq_k0 42 ([.ref a0, .ref a1, .int a2, .long a3, tq_u, .long a5, tq_u, .int p.1, tq_u, tq_u, tq_u]) [] (tq_st p.2 L) (tq_Q q0)) (fun p : tq_PI => tq_X S mX5_fight (d + 24) tq_k0 125 ([.ref a0, .ref a1, .int a2, .long a3, tq_u, tq_u, tq_u, tq_u, tq_u, tq_u, tq_u]) [] (tq_st p L) (tq_Q q0)) out) : tq_X S mX5_fight (d + 24) tq_k0 42 ([.ref a0, .ref a1, .int a2, .long a3, tq_u, .long a5, tq_u, .int a7, tq_u, tq_u, tq_u]) [] (tq_st I L) (tq_Q q0) := by
  unfold FX5_fight_s42 at hf
  refine tq_iload rX5_fight_42 rfl ?_
  refine tq_bipush (48 : Int32) rX5_fight_44 (by decide) ?_
  refine tq_icmp_ge rX5_fight_46 (fun c5 => ?_) (fun c5 => ?_)
  · rw [if_pos c5] at hf
    have hf := Option.some.inj hf
    subst hf
    exact tq_forget _ (tq_le_s (tq_le_s (tq_le_s (tq_le_s (tq_le_u (tq_le_u (tq_le_u (tq_le_u (tq_le_u (tq_le_u (tq_le_u tq_le_n))))))))))) hk
  · rw [if_neg c5] at hf
    refine tq_lload rX5_fight_49 rfl ?_
    refine tq_lconst (1 : Int64) rX5_fight_51 (by decide) ?_
    refine tq_iload rX5_fight_52 rfl ?_
    refine tq_lshl rX5_fight_54 ?_
    refine tq_land rX5_fight_55 ?_
    refine tq_lstore ([.ref a0, .ref a1, .int a2, .long a3, tq_u, .long a5, tq_u, .int a7, .long (a5 &&& ((1 : Int64) <<< (Int32.toInt64 a7 &&& 63))), tq_u, tq_u]) rX5_fight_56 (Nat.le_of_ble_eq_true rfl) rfl ?_
    refine tq_lload rX5_fight_58 rfl ?_
    refine tq_lconst (0 : Int64) rX5_fight_60 (by decide) ?_
    refine tq_lcmp rX5_fight_61 ?_
    refine tq_if_eq rX5_fight_62 (fun c6 => ?_) (fun c6 => ?_)
    · rw [if_pos c6] at hf
      exact tq_forget _ (tq_le_s (tq_le_s (tq_le_s (tq_le_s (tq_le_u (tq_le_s (tq_le_u (tq_le_s (tq_le_u (tq_le_u (tq_le_u tq_le_n))))))))))) (FX5_fight_j119L42_x  h0 h1 hf hk)
    · rw [if_neg c6] at hf
      refine tq_aload_n rX5_fight_65 rfl ?_
      refine tq_lload rX5_fight_66 rfl ?_
      obtain ⟨p7, e7, hf⟩ := tq_let_elim hf
      refine ty_callVI p7 ([.long (a5 &&& ((1 : Int64) <<< (Int32.toInt64 a7 &&& 63)))]) ([]) rX5_fight_68 l_X5_72 moX3_worthOf mvX3_worthOf h1 rfl rfl (Nat.le_of_ble_eq_true rfl) ⟨rfl, rfl⟩ (CX3_worthOf h1 e7) ?_
      refine tq_aload_n rX5_fight_71 rfl ?_
      refine tq_iconst (1 : Int32) rX5_fight_72 (by decide) ?_
      refine tq_aload_n rX5_fight_73 rfl ?_
      refine tq_lload_n rX5_fight_74 rfl ?_
      refine tq_lload rX5_fight_75 rfl ?_
      refine tq_ldc2 rX5_fight_77 (k_X5_58) ?_
      refine tq_lxor rX5_fight_80 ?_
      refine tq_land rX5_fight_81 ?_
      obtain ⟨p8, e8, hf⟩ := Option.bind_eq_some_iff.mp hf
      refine ty_callVJ p8 ([.long (a3 &&& ((a5 &&& ((1 : Int64) <<< (Int32.toInt64 a7 &&& 63))) ^^^ (-1 : Int64)))]) ([.int (1 : Int32), .ref a1, .int p7]) rX5_fight_82 l_X5_86 moX3_settled mvX3_settled h1 rfl rfl (Nat.le_of_ble_eq_true rfl) ⟨rfl, rfl⟩ (CX3_settled h1 e8) ?_
      refine tq_iload_n rX5_fight_85 rfl ?_
      refine tq_iconst (1 : Int32) rX5_fight_86 (by decide) ?_
      refine tq_isub rX5_fight_87 ?_
      obtain ⟨p9, e9, hf⟩ := Option.bind_eq_some_iff.mp hf
      refine ty_callSI p9 ([.ref a1, .int (1 : Int32), .long p8, .int (a2 - (1 : Int32))]) ([.int p7]) rX5_fight_88 l_X5_89 moX5_gainOf msX5_gainOf rfl rfl (Nat.le_of_ble_eq_true rfl) ⟨rfl, rfl⟩ (CX5_gainOf h1 e9) ?_
      refine tq_isub rX5_fight_91 ?_
      refine tq_istore ([.ref a0, .ref a1, .int a2, .long a3, tq_u, .long a5, tq_u, .int a7, .long (a5 &&& ((1 : Int64) <<< (Int32.toInt64 a7 &&& 63))), tq_u, .int (p7 - p9)]) rX5_fight_92 (Nat.le_of_ble_eq_true rfl) rfl ?_
      refine tq_iload rX5_fight_94 rfl ?_
      refine tq_aload_n rX5_fight_96 rfl ?_
      refine ty_getI rX5_fight_97 f_X5_26 rfl h0 ?_
      refine tq_icmp_le rX5_fight_100 (fun c10 => ?_) (fun c10 => ?_)
      · rw [if_pos c10] at hf
        exact tq_forget _ (tq_le_s (tq_le_s (tq_le_s (tq_le_s (tq_le_u (tq_le_s (tq_le_u (tq_le_s (tq_le_u (tq_le_u (tq_le_u tq_le_n))))))))))) (FX5_fight_j119L42_x  h0 h1 hf hk)
      · rw [if_neg c10] at hf
        refine tq_aload_n rX5_fight_103 rfl ?_
        refine tq_iload rX5_fight_104 rfl ?_
        refine ty_putI rX5_fight_106 f_X5_26 rfl h0 rfl ?_
        refine tq_aload_n rX5_fight_109 rfl ?_
        refine tq_aload_n rX5_fight_110 rfl ?_
        refine tq_lload rX5_fight_111 rfl ?_
        obtain ⟨p11, e11, hf⟩ := Option.bind_eq_some_iff.mp hf
        refine ty_callVI p11 ([.long (a5 &&& ((1 : Int64) <<< (Int32.toInt64 a7 &&& 63)))]) ([.ref a0]) rX5_fight_113 l_X5_76 moX3_numberOf mvX3_numberOf h1 rfl rfl (Nat.le_of_ble_eq_true rfl) ⟨rfl, rfl⟩ (CX3_numberOf h1 e11) ?_
        refine ty_putI rX5_fight_116 f_X5_29 rfl h0 rfl ?_
        exact tq_forget _ (tq_le_s (tq_le_s (tq_le_s (tq_le_s (tq_le_u (tq_le_s (tq_le_u (tq_le_s (tq_le_u (tq_le_u (tq_le_u tq_le_n))))))))))) (FX5_fight_j119L42_x  h0 h1 hf hk)

set_option maxRecDepth 100000 in
set_option maxHeartbeats 4000000 in
theorem CX5_fight {S : Nat × (Nat → Int32)} {d : Nat} {I : tq_PI} {L : tq_PL} {a0 : Nat} {a1 : Nat} {a2 : Int32} (h0 : tq_sh0 a0 = 5) (h1 : tq_sh0 a1 = 3) {out : tq_PI} (hf : FX5_fight I L a0 a1 a2 = some out) : tq_K S mX5_fight (d + 24) [.ref a0, .ref a1, .int a2] I L (tq_one2 (none) out L) := by
  unfold FX5_fight at hf
  refine tq_K_of (by decide) (Nat.le_of_ble_eq_true rfl) (ls := [.ref a0, .ref a1, .int a2, tq_u, tq_u, tq_u, tq_u, tq_u, tq_u, tq_u, tq_u]) rfl ?_
  refine tq_aload_n rX5_fight_0 rfl ?_
  refine tq_iconst (0 : Int32) rX5_fight_1 (by decide) ?_
  refine ty_putI rX5_fight_2 f_X5_26 rfl h0 rfl ?_
  refine tq_aload_n rX5_fight_5 rfl ?_
  refine tq_aload_n rX5_fight_6 rfl ?_
  obtain ⟨p1, e1, hf⟩ := tq_let_elim hf
  refine ty_callVI p1 ([]) ([.ref a0]) rX5_fight_7 l_X5_79 moX3_cellCount mvX3_cellCount h1 rfl rfl (Nat.le_of_ble_eq_true rfl) ⟨rfl, rfl⟩ (CX3_cellCount h1 e1) ?_
  refine ty_putI rX5_fight_10 f_X5_29 rfl h0 rfl ?_
  refine tq_iload_n rX5_fight_13 rfl ?_
  refine tq_iconst (1 : Int32) rX5_fight_14 (by decide) ?_
  refine tq_icmp_ge rX5_fight_15 (fun c2 => ?_) (fun c2 => ?_)
  · rw [if_pos c2] at hf
    refine tq_aload_n rX5_fight_19 rfl ?_
    obtain ⟨p3, e3, hf⟩ := tq_let_elim hf
    refine ty_callVJ p3 ([]) ([]) rX5_fight_20 l_X5_42 moX3_solid mvX3_solid h1 rfl rfl (Nat.le_of_ble_eq_true rfl) ⟨rfl, rfl⟩ (CX3_solid h1 e3) ?_
    refine tq_lstore_n ([.ref a0, .ref a1, .int a2, .long p3, tq_u, tq_u, tq_u, tq_u, tq_u, tq_u, tq_u]) rX5_fight_23 (Nat.le_of_ble_eq_true rfl) rfl ?_
    refine tq_aload_n rX5_fight_24 rfl ?_
    refine tq_iconst (0 : Int32) rX5_fight_25 (by decide) ?_
    refine tq_lload_n rX5_fight_26 rfl ?_
    obtain ⟨p4, e4, hf⟩ := Option.bind_eq_some_iff.mp hf
    refine ty_callVJ p4 ([.int (0 : Int32), .long p3]) ([]) rX5_fight_27 l_X5_83 moX3_cuttable mvX3_cuttable h1 rfl rfl (Nat.le_of_ble_eq_true rfl) ⟨rfl, rfl⟩ (CX3_cuttable h1 e4) ?_
    refine tq_lstore ([.ref a0, .ref a1, .int a2, .long p3, tq_u, .long p4, tq_u, tq_u, tq_u, tq_u, tq_u]) rX5_fight_30 (Nat.le_of_ble_eq_true rfl) rfl ?_
    refine tq_aload_n rX5_fight_32 rfl ?_
    refine tq_sipush (-1000 : Int32) rX5_fight_33 (by decide) ?_
    refine ty_putI rX5_fight_36 f_X5_26 rfl h0 rfl ?_
    refine tq_iconst (0 : Int32) rX5_fight_39 (by decide) ?_
    refine tq_istore ([.ref a0, .ref a1, .int a2, .long p3, tq_u, .long p4, tq_u, .int (0 : Int32), tq_u, tq_u, tq_u]) rX5_fight_40 (Nat.le_of_ble_eq_true rfl) rfl ?_
    obtain ⟨p12, e12, hf⟩ := Option.bind_eq_some_iff.mp hf
    refine tq_forget _ (tq_le_s (tq_le_s (tq_le_s (tq_le_s (tq_le_u (tq_le_s (tq_le_u (tq_le_s (tq_le_u (tq_le_u (tq_le_u tq_le_n))))))))))) ?_
    refine tq_it_elim (P := fun p : Int32 × tq_PI => tq_X S mX5_fight (d + 24) tq_k0 42 ([.ref a0, .ref a1, .int a2, .long p3, tq_u, .long p4, tq_u, .int p.1, tq_u, tq_u, tq_u]) [] (tq_st p.2 L) (tq_Q (tq_one2 (none) out L))) (R := fun p : tq_PI => tq_X S mX5_fight (d + 24) tq_k0 125 ([.ref a0, .ref a1, .int a2, .long p3, tq_u, tq_u, tq_u, tq_u, tq_u, tq_u, tq_u]) [] (tq_st p L) (tq_Q (tq_one2 (none) out L))) (fun p o hp hk => FX5_fight_s42_x  h0 h1 hp hk) _ (((0 : Int32), (tq_up2 (tq_up2 (tq_up2 I a0 4 (0 : Int32)) a0 5 p1) a0 4 (-1000 : Int32)))) _ e12 ?_
    show tq_X _ _ _ _ _ _ _ _ _
    refine tq_aload_n rX5_fight_125 rfl ?_
    refine tq_iconst (1 : Int32) rX5_fight_126 (by decide) ?_
    refine tq_lload_n rX5_fight_127 rfl ?_
    refine tq_iload_n rX5_fight_128 rfl ?_
    refine tq_iconst (1 : Int32) rX5_fight_129 (by decide) ?_
    refine tq_isub rX5_fight_130 ?_
    obtain ⟨p13, e13, hf⟩ := Option.bind_eq_some_iff.mp hf
    refine ty_callSI p13 ([.ref a1, .int (1 : Int32), .long p3, .int (a2 - (1 : Int32))]) ([]) rX5_fight_131 l_X5_89 moX5_gainOf msX5_gainOf rfl rfl (Nat.le_of_ble_eq_true rfl) ⟨rfl, rfl⟩ (CX5_gainOf h1 e13) ?_
    refine tq_ineg rX5_fight_134 ?_
    refine tq_istore ([.ref a0, .ref a1, .int a2, .long p3, tq_u, tq_u, tq_u, .int (-p13), tq_u, tq_u, tq_u]) rX5_fight_135 (Nat.le_of_ble_eq_true rfl) rfl ?_
    refine tq_iload rX5_fight_137 rfl ?_
    refine tq_aload_n rX5_fight_139 rfl ?_
    refine ty_getI rX5_fight_140 f_X5_26 rfl h0 ?_
    refine tq_icmp_le rX5_fight_143 (fun c14 => ?_) (fun c14 => ?_)
    · rw [if_pos c14] at hf
      refine ty_vret rX5_fight_160 rfl rfl ?_
      have hf := Option.some.inj hf
      subst hf
      exact ⟨rfl, rfl, rfl⟩
    · rw [if_neg c14] at hf
      refine tq_aload_n rX5_fight_146 rfl ?_
      refine tq_iload rX5_fight_147 rfl ?_
      refine ty_putI rX5_fight_149 f_X5_26 rfl h0 rfl ?_
      refine tq_aload_n rX5_fight_152 rfl ?_
      refine tq_aload_n rX5_fight_153 rfl ?_
      obtain ⟨p15, e15, hf⟩ := tq_let_elim hf
      refine ty_callVI p15 ([]) ([.ref a0]) rX5_fight_154 l_X5_79 moX3_cellCount mvX3_cellCount h1 rfl rfl (Nat.le_of_ble_eq_true rfl) ⟨rfl, rfl⟩ (CX3_cellCount h1 e15) ?_
      refine ty_putI rX5_fight_157 f_X5_29 rfl h0 rfl ?_
      refine ty_vret rX5_fight_160 rfl rfl ?_
      have hf := Option.some.inj hf
      subst hf
      exact ⟨rfl, rfl, rfl⟩
  · rw [if_neg c2] at hf
    refine ty_vret rX5_fight_18 rfl rfl ?_
    have hf := Option.some.inj hf
    subst hf
    exact ⟨rfl, rfl, rfl⟩

