/-! THE CONSTRUCTORS, walked with their numbers: by program (wip/whole/gen_ctor.py). -/
/-- behind the cells made nothing is known; references lie in the first 40 slots -/
def tq_Zb (σ : tq_S) : Prop := (∀ a, σ.1.1 ≤ a → σ.2.1.1 a = 99) ∧ (∀ a, σ.1.1 ≤ a → σ.2.1.2.1 a = 0) ∧ ∀ a k, (σ.1.1 ≤ a ∨ 40 ≤ k) → σ.2.1.2.2 a k = none
theorem tq_Zb_sI {σ : tq_S} {a k : Nat} {x : Int32} (h : tq_Zb σ) : tq_Zb (tq_sI σ a k x) := h
theorem tq_Zb_sL {σ : tq_S} {a k : Nat} {x : Int64} (h : tq_Zb σ) : tq_Zb (tq_sL σ a k x) := h
theorem tq_Zb_sR {σ : tq_S} {a k b : Nat} (ha : a < σ.1.1) (hk : k < 40) (h : tq_Zb σ) : tq_Zb (tq_sR σ a k b) := by
  refine ⟨h.1, h.2.1, fun a2 k2 h2 => ?_⟩
  have e : (tq_sR σ a k b).2.1.2.2 a2 k2 = σ.2.1.2.2 a2 k2 := by
    refine tq_up2_any ?_
    rcases h2 with h2 | h2
    · have h2 : σ.1.1 ≤ a2 := h2
      exact Or.inl (by omega)
    · exact Or.inr (by omega)
  rw [e]
  exact h.2.2 a2 k2 h2
theorem tq_Zb_add {σ : tq_S} {t n w : Nat} (h : tq_Zb σ) : tq_Zb (tq_add σ t n w) := by
  refine ⟨fun a ha => ?_, fun a ha => ?_, fun a k ha => ?_⟩
  · have ha : σ.1.1 + 1 ≤ a := ha
    have e : (tq_add σ t n w).2.1.1 a = σ.2.1.1 a := tq_row_n (by omega)
    rw [e]; exact h.1 a (by omega)
  · have ha : σ.1.1 + 1 ≤ a := ha
    have e : (tq_add σ t n w).2.1.2.1 a = σ.2.1.2.1 a := tq_row_n (by omega)
    rw [e]; exact h.2.1 a (by omega)
  · by_cases hq : a = σ.1.1
    · subst hq
      have e : (tq_add σ t n w).2.1.2.2 σ.1.1 = (fun _ => none) := tq_row_s
      rw [e]
    · have e : (tq_add σ t n w).2.1.2.2 a = σ.2.1.2.2 a := tq_row_n hq
      rw [e]
      refine h.2.2 a k ?_
      rcases ha with ha | ha
      · have ha : σ.1.1 + 1 ≤ a := ha
        exact Or.inl (by omega)
      · exact Or.inr ha
section TZ
variable {S : Nat × (Nat → Int32)} {M : tq_M} {d : Nat} {c0 : Nat × Nat} {pc nx tgt : Nat} {ls st : List Value} {σ : tq_S} {Q : Option Value → tq_S → Prop}
theorem tz_new (x : Nat) {ix ci : Nat} (hd : tq_D M.2.1 pc (.new ix) 3 nx) (hci : ci < 13) (hw : Cond.classLink M.1.cls ix (tq_cl ci).1 ∈ lw_tbl ∧ Cond.instantiable (tq_cl ci).1 (tq_cl ci).2.2 ∈ lw_tbl ∧ Cond.initialized (tq_cl ci).1 ∈ lw_tbl) (hx : σ.1.1 = x) (hb : σ.1.1 + 1 ≤ c0.1 + M.2.2.2.2.1 ∧ σ.1.2 + tq_nf ci ≤ c0.2 + M.2.2.2.2.2)
    (kk : tq_X S M d c0 nx ls (.ref x :: st) (tq_add σ ci 0 (tq_nf ci)) Q) : tq_X S M d c0 pc ls st σ Q := by
  subst hx
  exact tq_new hd hci hw hb kk
theorem tz_newa (x0 : Nat) {at0 : ArrayType} {t n : Nat} {x : Int32} (hd : tq_D M.2.1 pc (.newarray at0) 2 nx) (ht : (t = 100 ∧ at0 = .int) ∨ (t = 101 ∧ at0 = .long) ∨ (t = 102 ∧ at0 = .byte) ∨ (t = 103 ∧ at0 = .boolean)) (hw : Cond.arrayClass (tq_at t) ∈ lw_tbl) (hx : x = nI n) (hn : n < 60000) (hx0 : σ.1.1 = x0) (hb : σ.1.1 + 1 ≤ c0.1 + M.2.2.2.2.1 ∧ σ.1.2 + n ≤ c0.2 + M.2.2.2.2.2)
    (kk : tq_X S M d c0 nx ls (.ref x0 :: st) (tq_add σ t n n) Q) : tq_X S M d c0 pc ls (.int x :: st) σ Q := by
  subst hx0
  exact tq_newa hd ht hw hx hn hb kk
theorem tz_anew (x0 : Nat) {ix ci n : Nat} {x : Int32} (hd : tq_D M.2.1 pc (.anewarray ix) 3 nx) (hci : ci < 13) (hw : Cond.classLink M.1.cls ix (tq_cl ci).1 ∈ lw_tbl ∧ Cond.arrayOver (.object (tq_cl ci).1) ∈ lw_tbl) (hx : x = nI n) (hn : n < 60000) (hx0 : σ.1.1 = x0) (hb : σ.1.1 + 1 ≤ c0.1 + M.2.2.2.2.1 ∧ σ.1.2 + n ≤ c0.2 + M.2.2.2.2.2)
    (kk : tq_X S M d c0 nx ls (.ref x0 :: st) (tq_add σ (110 + ci) n n) Q) : tq_X S M d c0 pc ls (.int x :: st) σ Q := by
  subst hx0
  exact tq_anew hd hci hw hx hn hb kk
theorem tz_alen (v : Int32) {a t : Nat} (hd : tq_D M.2.1 pc (.arraylength) 1 nx) (hs : σ.2.1.1 a = t) (ht : t = 100 ∨ t = 101 ∨ t = 102 ∨ t = 103 ∨ 110 ≤ t) (hv : nI (σ.2.1.2.1 a) = v) (kk : tq_X S M d c0 nx ls (.int v :: st) σ Q) : tq_X S M d c0 pc ls (.ref a :: st) σ Q := by
  subst hv
  exact tq_alen hd hs ht kk
theorem tz_in {i : Int32} {j n : Nat} (hj : nI j = i) (h : j < n ∧ n < 100000) : vp_in i n := by
  subst hj
  exact vp_in_nI h.1 (by omega)
theorem tz_aast {a b ci j : Nat} {i : Int32} (hd : tq_D M.2.1 pc (.aastore) 1 nx) (hs : σ.2.1.1 a = 110 + ci) (hci : ci < 13) (hb : σ.2.1.1 b = ci) (hi : j < σ.2.1.2.1 a ∧ σ.2.1.2.1 a < 100000) (hj : nI j = i ∧ j < 100000) (kk : tq_X S M d c0 nx ls st (tq_sR σ a j b) Q) : tq_X S M d c0 pc ls (.ref b :: .int i :: .ref a :: st) σ Q := by
  refine tq_aast hd hs hci hb (tz_in hj.1 hi) ?_
  rw [← hj.1, nI_clamp (by omega)]
  exact kk
theorem tz_iast {a j : Nat} {i x : Int32} (hd : tq_D M.2.1 pc (.iastore) 1 nx) (hs : σ.2.1.1 a = 100) (hi : j < σ.2.1.2.1 a ∧ σ.2.1.2.1 a < 100000) (hj : nI j = i ∧ j < 100000) (kk : tq_X S M d c0 nx ls st (tq_sI σ a j x) Q) : tq_X S M d c0 pc ls (.int x :: .int i :: .ref a :: st) σ Q := by
  refine tq_iast hd hs (tz_in hj.1 hi) ?_
  rw [← hj.1, nI_clamp (by omega)]
  exact kk
end TZ

abbrev miX11_init : tq_M := (yX11_init, cX11_init, 2, (Option.none : Option Jvm.ClassFile.FieldType), 135, 4692)
abbrev miX0_init : tq_M := (yX0_init, cX0_init, 2, (Option.none : Option Jvm.ClassFile.FieldType), 26, 938)
abbrev miX3_init : tq_M := (yX3_init, cX3_init, 1, (Option.none : Option Jvm.ClassFile.FieldType), 0, 0)
abbrev miX10_init : tq_M := (yX10_init, cX10_init, 1, (Option.none : Option Jvm.ClassFile.FieldType), 3, 120)
abbrev miX4_init : tq_M := (yX4_init, cX4_init, 1, (Option.none : Option Jvm.ClassFile.FieldType), 2, 16)
abbrev miX9_init : tq_M := (yX9_init, cX9_init, 1, (Option.none : Option Jvm.ClassFile.FieldType), 1, 8)
abbrev miX7_init : tq_M := (yX7_init, cX7_init, 1, (Option.none : Option Jvm.ClassFile.FieldType), 12, 766)
abbrev miX8_init : tq_M := (yX8_init, cX8_init, 1, (Option.none : Option Jvm.ClassFile.FieldType), 1, 10)
abbrev miX5_init : tq_M := (yX5_init, cX5_init, 1, (Option.none : Option Jvm.ClassFile.FieldType), 2, 6)
abbrev miX6_init : tq_M := (yX6_init, cX6_init, 1, (Option.none : Option Jvm.ClassFile.FieldType), 0, 0)
abbrev miX2_init : tq_M := (yX2_init, cX2_init, 1, (Option.none : Option Jvm.ClassFile.FieldType), 2, 20)
abbrev miX1_init : tq_M := (yX1_init, cX1_init, 1, (Option.none : Option Jvm.ClassFile.FieldType), 1, 8)
abbrev miX12_init : tq_M := (yX12_init, cX12_init, 1, (Option.none : Option Jvm.ClassFile.FieldType), 17, 5016)
theorem aw_X0_29 : Cond.classLink RX0 29 (tq_cl 3).1 ∈ lw_tbl ∧ Cond.arrayOver (.object (tq_cl 3).1) ∈ lw_tbl := ⟨tq_sg1 _ (List.mem_of_getElem? (i := 35) rfl), tq_sg1 _ (List.mem_of_getElem? (i := 36) rfl)⟩
theorem aw_X0_35 : Cond.classLink RX0 35 (tq_cl 10).1 ∈ lw_tbl ∧ Cond.arrayOver (.object (tq_cl 10).1) ∈ lw_tbl := ⟨tq_sg1 _ (List.mem_of_getElem? (i := 37) rfl), tq_sg1 _ (List.mem_of_getElem? (i := 38) rfl)⟩
theorem aw_X0_41 : Cond.classLink RX0 41 (tq_cl 4).1 ∈ lw_tbl ∧ Cond.arrayOver (.object (tq_cl 4).1) ∈ lw_tbl := ⟨tq_sg1 _ (List.mem_of_getElem? (i := 39) rfl), tq_sg1 _ (List.mem_of_getElem? (i := 40) rfl)⟩
theorem aw_X0_47 : Cond.classLink RX0 47 (tq_cl 9).1 ∈ lw_tbl ∧ Cond.arrayOver (.object (tq_cl 9).1) ∈ lw_tbl := ⟨tq_sg1 _ (List.mem_of_getElem? (i := 41) rfl), tq_sg1 _ (List.mem_of_getElem? (i := 42) rfl)⟩
theorem aw_X11_7 : Cond.classLink RX11 7 (tq_cl 0).1 ∈ lw_tbl ∧ Cond.arrayOver (.object (tq_cl 0).1) ∈ lw_tbl := ⟨tq_sg1 _ (List.mem_of_getElem? (i := 29) rfl), tq_sg1 _ (List.mem_of_getElem? (i := 171) rfl)⟩
theorem na_100 : Cond.arrayClass (tq_at 100) ∈ lw_tbl := tq_sg1 _ (List.mem_of_getElem? (i := 84) rfl)
theorem na_101 : Cond.arrayClass (tq_at 101) ∈ lw_tbl := tq_sg2 _ (List.mem_of_getElem? (i := 79) rfl)
theorem na_102 : Cond.arrayClass (tq_at 102) ∈ lw_tbl := tq_sg1 _ (List.mem_of_getElem? (i := 83) rfl)
theorem na_103 : Cond.arrayClass (tq_at 103) ∈ lw_tbl := tq_sg1 _ (List.mem_of_getElem? (i := 232) rfl)
theorem moiX0_init : tq_mok miX0_init 0 := ⟨tq_sg1 _ (List.mem_of_getElem? (i := 2) rfl), tq_sg1 _ (List.mem_of_getElem? (i := 33) rfl), ⟨by decide, by decide, by decide +kernel⟩, by decide⟩
theorem miiX0_init : Cond.instanceMethod miX0_init.1 ∈ lw_tbl := tq_sg1 _ (List.mem_of_getElem? (i := 32) rfl)
theorem moiX1_init : tq_mok miX1_init 0 := ⟨tq_sg1 _ (List.mem_of_getElem? (i := 12) rfl), tq_sg2 _ (List.mem_of_getElem? (i := 112) rfl), ⟨by decide, by decide, by decide +kernel⟩, by decide⟩
theorem miiX1_init : Cond.instanceMethod miX1_init.1 ∈ lw_tbl := tq_sg2 _ (List.mem_of_getElem? (i := 111) rfl)
theorem moiX2_init : tq_mok miX2_init 0 := ⟨tq_sg1 _ (List.mem_of_getElem? (i := 11) rfl), tq_sg2 _ (List.mem_of_getElem? (i := 99) rfl), ⟨by decide, by decide, by decide +kernel⟩, by decide⟩
theorem miiX2_init : Cond.instanceMethod miX2_init.1 ∈ lw_tbl := tq_sg2 _ (List.mem_of_getElem? (i := 98) rfl)
theorem moiX3_init : tq_mok miX3_init 0 := ⟨tq_sg1 _ (List.mem_of_getElem? (i := 3) rfl), tq_sg1 _ (List.mem_of_getElem? (i := 46) rfl), ⟨by decide, by decide, by decide +kernel⟩, by decide⟩
theorem miiX3_init : Cond.instanceMethod miX3_init.1 ∈ lw_tbl := tq_sg1 _ (List.mem_of_getElem? (i := 45) rfl)
theorem moiX4_init : tq_mok miX4_init 0 := ⟨tq_sg1 _ (List.mem_of_getElem? (i := 5) rfl), tq_sg1 _ (List.mem_of_getElem? (i := 109) rfl), ⟨by decide, by decide, by decide +kernel⟩, by decide⟩
theorem miiX4_init : Cond.instanceMethod miX4_init.1 ∈ lw_tbl := tq_sg1 _ (List.mem_of_getElem? (i := 108) rfl)
theorem moiX5_init : tq_mok miX5_init 0 := ⟨tq_sg1 _ (List.mem_of_getElem? (i := 9) rfl), tq_sg2 _ (List.mem_of_getElem? (i := 42) rfl), ⟨by decide, by decide, by decide +kernel⟩, by decide⟩
theorem miiX5_init : Cond.instanceMethod miX5_init.1 ∈ lw_tbl := tq_sg2 _ (List.mem_of_getElem? (i := 41) rfl)
theorem moiX6_init : tq_mok miX6_init 0 := ⟨tq_sg1 _ (List.mem_of_getElem? (i := 10) rfl), tq_sg2 _ (List.mem_of_getElem? (i := 84) rfl), ⟨by decide, by decide, by decide +kernel⟩, by decide⟩
theorem miiX6_init : Cond.instanceMethod miX6_init.1 ∈ lw_tbl := tq_sg2 _ (List.mem_of_getElem? (i := 83) rfl)
theorem moiX7_init : tq_mok miX7_init 0 := ⟨tq_sg1 _ (List.mem_of_getElem? (i := 7) rfl), tq_sg1 _ (List.mem_of_getElem? (i := 176) rfl), ⟨by decide, by decide, by decide +kernel⟩, by decide⟩
theorem miiX7_init : Cond.instanceMethod miX7_init.1 ∈ lw_tbl := tq_sg1 _ (List.mem_of_getElem? (i := 175) rfl)
theorem moiX8_init : tq_mok miX8_init 0 := ⟨tq_sg1 _ (List.mem_of_getElem? (i := 8) rfl), tq_sg1 _ (List.mem_of_getElem? (i := 237) rfl), ⟨by decide, by decide, by decide +kernel⟩, by decide⟩
theorem miiX8_init : Cond.instanceMethod miX8_init.1 ∈ lw_tbl := tq_sg1 _ (List.mem_of_getElem? (i := 236) rfl)
theorem moiX9_init : tq_mok miX9_init 0 := ⟨tq_sg1 _ (List.mem_of_getElem? (i := 6) rfl), tq_sg1 _ (List.mem_of_getElem? (i := 127) rfl), ⟨by decide, by decide, by decide +kernel⟩, by decide⟩
theorem miiX9_init : Cond.instanceMethod miX9_init.1 ∈ lw_tbl := tq_sg1 _ (List.mem_of_getElem? (i := 126) rfl)
theorem moiX10_init : tq_mok miX10_init 0 := ⟨tq_sg1 _ (List.mem_of_getElem? (i := 4) rfl), tq_sg1 _ (List.mem_of_getElem? (i := 88) rfl), ⟨by decide, by decide, by decide +kernel⟩, by decide⟩
theorem miiX10_init : Cond.instanceMethod miX10_init.1 ∈ lw_tbl := tq_sg1 _ (List.mem_of_getElem? (i := 87) rfl)
theorem ff_X0_25 : "<init>" = "<init>" ∧ (tq_cl 0).1 = RX0 ∧ ((tq_cl 0).2.1 4).2.2.2 = true ∧ Cond.fieldLink RX0 25 (tq_cl 0).1 ((tq_cl 0).2.1 4).2.1 ((tq_cl 0).2.1 4).2.2.1 ∈ lw_tbl := ⟨rfl, rfl, rfl, tq_sg1 _ (List.mem_of_getElem? (i := 147) rfl)⟩
theorem ff_X0_31 : "<init>" = "<init>" ∧ (tq_cl 0).1 = RX0 ∧ ((tq_cl 0).2.1 5).2.2.2 = true ∧ Cond.fieldLink RX0 31 (tq_cl 0).1 ((tq_cl 0).2.1 5).2.1 ((tq_cl 0).2.1 5).2.2.1 ∈ lw_tbl := ⟨rfl, rfl, rfl, tq_sg1 _ (List.mem_of_getElem? (i := 148) rfl)⟩
theorem ff_X0_37 : "<init>" = "<init>" ∧ (tq_cl 0).1 = RX0 ∧ ((tq_cl 0).2.1 6).2.2.2 = true ∧ Cond.fieldLink RX0 37 (tq_cl 0).1 ((tq_cl 0).2.1 6).2.1 ((tq_cl 0).2.1 6).2.2.1 ∈ lw_tbl := ⟨rfl, rfl, rfl, tq_sg1 _ (List.mem_of_getElem? (i := 149) rfl)⟩
theorem ff_X0_43 : "<init>" = "<init>" ∧ (tq_cl 0).1 = RX0 ∧ ((tq_cl 0).2.1 7).2.2.2 = true ∧ Cond.fieldLink RX0 43 (tq_cl 0).1 ((tq_cl 0).2.1 7).2.1 ((tq_cl 0).2.1 7).2.2.1 ∈ lw_tbl := ⟨rfl, rfl, rfl, tq_sg1 _ (List.mem_of_getElem? (i := 150) rfl)⟩
theorem ff_X0_49 : "<init>" = "<init>" ∧ (tq_cl 0).1 = RX0 ∧ ((tq_cl 0).2.1 8).2.2.2 = true ∧ Cond.fieldLink RX0 49 (tq_cl 0).1 ((tq_cl 0).2.1 8).2.1 ((tq_cl 0).2.1 8).2.2.1 ∈ lw_tbl := ⟨rfl, rfl, rfl, tq_sg1 _ (List.mem_of_getElem? (i := 151) rfl)⟩
theorem ff_X0_9 : "<init>" = "<init>" ∧ (tq_cl 0).1 = RX0 ∧ ((tq_cl 0).2.1 0).2.2.2 = true ∧ Cond.fieldLink RX0 9 (tq_cl 0).1 ((tq_cl 0).2.1 0).2.1 ((tq_cl 0).2.1 0).2.2.1 ∈ lw_tbl := ⟨rfl, rfl, rfl, tq_sg1 _ (List.mem_of_getElem? (i := 139) rfl)⟩
theorem ff_X1_9 : "<init>" = "<init>" ∧ (tq_cl 1).1 = RX1 ∧ ((tq_cl 1).2.1 0).2.2.2 = true ∧ Cond.fieldLink RX1 9 (tq_cl 1).1 ((tq_cl 1).2.1 0).2.1 ((tq_cl 1).2.1 0).2.2.1 ∈ lw_tbl := ⟨rfl, rfl, rfl, tq_sg2 _ (List.mem_of_getElem? (i := 114) rfl)⟩
theorem ff_X2_15 : "<init>" = "<init>" ∧ (tq_cl 2).1 = RX2 ∧ ((tq_cl 2).2.1 1).2.2.2 = true ∧ Cond.fieldLink RX2 15 (tq_cl 2).1 ((tq_cl 2).2.1 1).2.1 ((tq_cl 2).2.1 1).2.2.1 ∈ lw_tbl := ⟨rfl, rfl, rfl, tq_sg2 _ (List.mem_of_getElem? (i := 102) rfl)⟩
theorem ff_X2_9 : "<init>" = "<init>" ∧ (tq_cl 2).1 = RX2 ∧ ((tq_cl 2).2.1 0).2.2.2 = true ∧ Cond.fieldLink RX2 9 (tq_cl 2).1 ((tq_cl 2).2.1 0).2.1 ((tq_cl 2).2.1 0).2.2.1 ∈ lw_tbl := ⟨rfl, rfl, rfl, tq_sg2 _ (List.mem_of_getElem? (i := 101) rfl)⟩
theorem ff_X4_15 : "<init>" = "<init>" ∧ (tq_cl 4).1 = RX4 ∧ ((tq_cl 4).2.1 1).2.2.2 = true ∧ Cond.fieldLink RX4 15 (tq_cl 4).1 ((tq_cl 4).2.1 1).2.1 ((tq_cl 4).2.1 1).2.2.1 ∈ lw_tbl := ⟨rfl, rfl, rfl, tq_sg1 _ (List.mem_of_getElem? (i := 115) rfl)⟩
theorem ff_X4_19 : "<init>" = "<init>" ∧ (tq_cl 4).1 = RX4 ∧ ((tq_cl 4).2.1 2).2.2.2 = true ∧ Cond.fieldLink RX4 19 (tq_cl 4).1 ((tq_cl 4).2.1 2).2.1 ((tq_cl 4).2.1 2).2.2.1 ∈ lw_tbl := ⟨rfl, rfl, rfl, tq_sg1 _ (List.mem_of_getElem? (i := 116) rfl)⟩
theorem ff_X5_15 : "<init>" = "<init>" ∧ (tq_cl 5).1 = RX5 ∧ ((tq_cl 5).2.1 1).2.2.2 = true ∧ Cond.fieldLink RX5 15 (tq_cl 5).1 ((tq_cl 5).2.1 1).2.1 ((tq_cl 5).2.1 1).2.2.1 ∈ lw_tbl := ⟨rfl, rfl, rfl, tq_sg2 _ (List.mem_of_getElem? (i := 45) rfl)⟩
theorem ff_X5_9 : "<init>" = "<init>" ∧ (tq_cl 5).1 = RX5 ∧ ((tq_cl 5).2.1 0).2.2.2 = true ∧ Cond.fieldLink RX5 9 (tq_cl 5).1 ((tq_cl 5).2.1 0).2.1 ((tq_cl 5).2.1 0).2.2.1 ∈ lw_tbl := ⟨rfl, rfl, rfl, tq_sg2 _ (List.mem_of_getElem? (i := 44) rfl)⟩
theorem ff_X7_18 : "<init>" = "<init>" ∧ (tq_cl 7).1 = RX7 ∧ ((tq_cl 7).2.1 1).2.2.2 = true ∧ Cond.fieldLink RX7 18 (tq_cl 7).1 ((tq_cl 7).2.1 1).2.1 ((tq_cl 7).2.1 1).2.2.1 ∈ lw_tbl := ⟨rfl, rfl, rfl, tq_sg1 _ (List.mem_of_getElem? (i := 187) rfl)⟩
theorem ff_X7_25 : "<init>" = "<init>" ∧ (tq_cl 7).1 = RX7 ∧ ((tq_cl 7).2.1 2).2.2.2 = true ∧ Cond.fieldLink RX7 25 (tq_cl 7).1 ((tq_cl 7).2.1 2).2.1 ((tq_cl 7).2.1 2).2.2.1 ∈ lw_tbl := ⟨rfl, rfl, rfl, tq_sg1 _ (List.mem_of_getElem? (i := 189) rfl)⟩
theorem ff_X7_32 : "<init>" = "<init>" ∧ (tq_cl 7).1 = RX7 ∧ ((tq_cl 7).2.1 3).2.2.2 = true ∧ Cond.fieldLink RX7 32 (tq_cl 7).1 ((tq_cl 7).2.1 3).2.1 ((tq_cl 7).2.1 3).2.2.1 ∈ lw_tbl := ⟨rfl, rfl, rfl, tq_sg1 _ (List.mem_of_getElem? (i := 191) rfl)⟩
theorem ff_X7_39 : "<init>" = "<init>" ∧ (tq_cl 7).1 = RX7 ∧ ((tq_cl 7).2.1 4).2.2.2 = true ∧ Cond.fieldLink RX7 39 (tq_cl 7).1 ((tq_cl 7).2.1 4).2.1 ((tq_cl 7).2.1 4).2.2.1 ∈ lw_tbl := ⟨rfl, rfl, rfl, tq_sg1 _ (List.mem_of_getElem? (i := 193) rfl)⟩
theorem ff_X7_43 : "<init>" = "<init>" ∧ (tq_cl 7).1 = RX7 ∧ ((tq_cl 7).2.1 5).2.2.2 = true ∧ Cond.fieldLink RX7 43 (tq_cl 7).1 ((tq_cl 7).2.1 5).2.1 ((tq_cl 7).2.1 5).2.2.1 ∈ lw_tbl := ⟨rfl, rfl, rfl, tq_sg1 _ (List.mem_of_getElem? (i := 195) rfl)⟩
theorem ff_X7_9 : "<init>" = "<init>" ∧ (tq_cl 7).1 = RX7 ∧ ((tq_cl 7).2.1 0).2.2.2 = true ∧ Cond.fieldLink RX7 9 (tq_cl 7).1 ((tq_cl 7).2.1 0).2.1 ((tq_cl 7).2.1 0).2.2.1 ∈ lw_tbl := ⟨rfl, rfl, rfl, tq_sg1 _ (List.mem_of_getElem? (i := 186) rfl)⟩
theorem ff_X8_12 : "<init>" = "<init>" ∧ (tq_cl 8).1 = RX8 ∧ ((tq_cl 8).2.1 0).2.2.2 = true ∧ Cond.fieldLink RX8 12 (tq_cl 8).1 ((tq_cl 8).2.1 0).2.1 ((tq_cl 8).2.1 0).2.2.1 ∈ lw_tbl := ⟨rfl, rfl, rfl, tq_sg2 _ (List.mem_of_getElem? (i := 1) rfl)⟩
theorem ff_X9_15 : "<init>" = "<init>" ∧ (tq_cl 9).1 = RX9 ∧ ((tq_cl 9).2.1 1).2.2.2 = true ∧ Cond.fieldLink RX9 15 (tq_cl 9).1 ((tq_cl 9).2.1 1).2.1 ((tq_cl 9).2.1 1).2.2.1 ∈ lw_tbl := ⟨rfl, rfl, rfl, tq_sg1 _ (List.mem_of_getElem? (i := 133) rfl)⟩
theorem ff_X10_15 : "<init>" = "<init>" ∧ (tq_cl 10).1 = RX10 ∧ ((tq_cl 10).2.1 1).2.2.2 = true ∧ Cond.fieldLink RX10 15 (tq_cl 10).1 ((tq_cl 10).2.1 1).2.1 ((tq_cl 10).2.1 1).2.2.1 ∈ lw_tbl := ⟨rfl, rfl, rfl, tq_sg1 _ (List.mem_of_getElem? (i := 94) rfl)⟩
theorem ff_X10_19 : "<init>" = "<init>" ∧ (tq_cl 10).1 = RX10 ∧ ((tq_cl 10).2.1 2).2.2.2 = true ∧ Cond.fieldLink RX10 19 (tq_cl 10).1 ((tq_cl 10).2.1 2).2.1 ((tq_cl 10).2.1 2).2.2.1 ∈ lw_tbl := ⟨rfl, rfl, rfl, tq_sg1 _ (List.mem_of_getElem? (i := 95) rfl)⟩
theorem ff_X10_22 : "<init>" = "<init>" ∧ (tq_cl 10).1 = RX10 ∧ ((tq_cl 10).2.1 3).2.2.2 = true ∧ Cond.fieldLink RX10 22 (tq_cl 10).1 ((tq_cl 10).2.1 3).2.1 ((tq_cl 10).2.1 3).2.2.1 ∈ lw_tbl := ⟨rfl, rfl, rfl, tq_sg1 _ (List.mem_of_getElem? (i := 96) rfl)⟩
theorem ff_X11_10 : "<init>" = "<init>" ∧ (tq_cl 11).1 = RX11 ∧ ((tq_cl 11).2.1 0).2.2.2 = true ∧ Cond.fieldLink RX11 10 (tq_cl 11).1 ((tq_cl 11).2.1 0).2.1 ((tq_cl 11).2.1 0).2.2.1 ∈ lw_tbl := ⟨rfl, rfl, rfl, tq_sg2 _ (List.mem_of_getElem? (i := 121) rfl)⟩
theorem ff_X11_16 : "<init>" = "<init>" ∧ (tq_cl 11).1 = RX11 ∧ ((tq_cl 11).2.1 1).2.2.2 = true ∧ Cond.fieldLink RX11 16 (tq_cl 11).1 ((tq_cl 11).2.1 1).2.1 ((tq_cl 11).2.1 1).2.2.1 ∈ lw_tbl := ⟨rfl, rfl, rfl, tq_sg2 _ (List.mem_of_getElem? (i := 122) rfl)⟩
theorem ff_X11_20 : "<init>" = "<init>" ∧ (tq_cl 11).1 = RX11 ∧ ((tq_cl 11).2.1 2).2.2.2 = true ∧ Cond.fieldLink RX11 20 (tq_cl 11).1 ((tq_cl 11).2.1 2).2.1 ((tq_cl 11).2.1 2).2.2.1 ∈ lw_tbl := ⟨rfl, rfl, rfl, tq_sg2 _ (List.mem_of_getElem? (i := 123) rfl)⟩
theorem ff_X11_27 : "<init>" = "<init>" ∧ (tq_cl 11).1 = RX11 ∧ ((tq_cl 11).2.1 3).2.2.2 = true ∧ Cond.fieldLink RX11 27 (tq_cl 11).1 ((tq_cl 11).2.1 3).2.1 ((tq_cl 11).2.1 3).2.2.1 ∈ lw_tbl := ⟨rfl, rfl, rfl, tq_sg2 _ (List.mem_of_getElem? (i := 124) rfl)⟩
theorem ff_X11_34 : "<init>" = "<init>" ∧ (tq_cl 11).1 = RX11 ∧ ((tq_cl 11).2.1 4).2.2.2 = true ∧ Cond.fieldLink RX11 34 (tq_cl 11).1 ((tq_cl 11).2.1 4).2.1 ((tq_cl 11).2.1 4).2.2.1 ∈ lw_tbl := ⟨rfl, rfl, rfl, tq_sg2 _ (List.mem_of_getElem? (i := 125) rfl)⟩
theorem ff_X11_41 : "<init>" = "<init>" ∧ (tq_cl 11).1 = RX11 ∧ ((tq_cl 11).2.1 5).2.2.2 = true ∧ Cond.fieldLink RX11 41 (tq_cl 11).1 ((tq_cl 11).2.1 5).2.1 ((tq_cl 11).2.1 5).2.2.1 ∈ lw_tbl := ⟨rfl, rfl, rfl, tq_sg2 _ (List.mem_of_getElem? (i := 126) rfl)⟩
theorem ff_X11_48 : "<init>" = "<init>" ∧ (tq_cl 11).1 = RX11 ∧ ((tq_cl 11).2.1 6).2.2.2 = true ∧ Cond.fieldLink RX11 48 (tq_cl 11).1 ((tq_cl 11).2.1 6).2.1 ((tq_cl 11).2.1 6).2.2.1 ∈ lw_tbl := ⟨rfl, rfl, rfl, tq_sg2 _ (List.mem_of_getElem? (i := 127) rfl)⟩
theorem ff_X11_55 : "<init>" = "<init>" ∧ (tq_cl 11).1 = RX11 ∧ ((tq_cl 11).2.1 7).2.2.2 = true ∧ Cond.fieldLink RX11 55 (tq_cl 11).1 ((tq_cl 11).2.1 7).2.1 ((tq_cl 11).2.1 7).2.2.1 ∈ lw_tbl := ⟨rfl, rfl, rfl, tq_sg2 _ (List.mem_of_getElem? (i := 128) rfl)⟩
theorem ff_X11_62 : "<init>" = "<init>" ∧ (tq_cl 11).1 = RX11 ∧ ((tq_cl 11).2.1 8).2.2.2 = true ∧ Cond.fieldLink RX11 62 (tq_cl 11).1 ((tq_cl 11).2.1 8).2.1 ((tq_cl 11).2.1 8).2.2.1 ∈ lw_tbl := ⟨rfl, rfl, rfl, tq_sg2 _ (List.mem_of_getElem? (i := 129) rfl)⟩
theorem ff_X11_66 : "<init>" = "<init>" ∧ (tq_cl 11).1 = RX11 ∧ ((tq_cl 11).2.1 9).2.2.2 = true ∧ Cond.fieldLink RX11 66 (tq_cl 11).1 ((tq_cl 11).2.1 9).2.1 ((tq_cl 11).2.1 9).2.2.1 ∈ lw_tbl := ⟨rfl, rfl, rfl, tq_sg2 _ (List.mem_of_getElem? (i := 130) rfl)⟩
theorem ff_X12_13 : "<init>" = "<init>" ∧ (tq_cl 12).1 = RX12 ∧ ((tq_cl 12).2.1 1).2.2.2 = true ∧ Cond.fieldLink RX12 13 (tq_cl 12).1 ((tq_cl 12).2.1 1).2.1 ((tq_cl 12).2.1 1).2.2.1 ∈ lw_tbl := ⟨rfl, rfl, rfl, tq_sg6 _ (List.mem_of_getElem? (i := 74) rfl)⟩
theorem ff_X12_17 : "<init>" = "<init>" ∧ (tq_cl 12).1 = RX12 ∧ ((tq_cl 12).2.1 11).2.2.2 = true ∧ Cond.fieldLink RX12 17 (tq_cl 12).1 ((tq_cl 12).2.1 11).2.1 ((tq_cl 12).2.1 11).2.2.1 ∈ lw_tbl := ⟨rfl, rfl, rfl, tq_sg6 _ (List.mem_of_getElem? (i := 84) rfl)⟩
theorem ff_X12_20 : "<init>" = "<init>" ∧ (tq_cl 12).1 = RX12 ∧ ((tq_cl 12).2.1 15).2.2.2 = true ∧ Cond.fieldLink RX12 20 (tq_cl 12).1 ((tq_cl 12).2.1 15).2.1 ((tq_cl 12).2.1 15).2.2.1 ∈ lw_tbl := ⟨rfl, rfl, rfl, tq_sg6 _ (List.mem_of_getElem? (i := 88) rfl)⟩
theorem ff_X12_23 : "<init>" = "<init>" ∧ (tq_cl 12).1 = RX12 ∧ ((tq_cl 12).2.1 16).2.2.2 = true ∧ Cond.fieldLink RX12 23 (tq_cl 12).1 ((tq_cl 12).2.1 16).2.1 ((tq_cl 12).2.1 16).2.2.1 ∈ lw_tbl := ⟨rfl, rfl, rfl, tq_sg6 _ (List.mem_of_getElem? (i := 89) rfl)⟩
theorem ff_X12_26 : "<init>" = "<init>" ∧ (tq_cl 12).1 = RX12 ∧ ((tq_cl 12).2.1 17).2.2.2 = true ∧ Cond.fieldLink RX12 26 (tq_cl 12).1 ((tq_cl 12).2.1 17).2.1 ((tq_cl 12).2.1 17).2.2.1 ∈ lw_tbl := ⟨rfl, rfl, rfl, tq_sg6 _ (List.mem_of_getElem? (i := 90) rfl)⟩
theorem ff_X12_29 : "<init>" = "<init>" ∧ (tq_cl 12).1 = RX12 ∧ ((tq_cl 12).2.1 18).2.2.2 = true ∧ Cond.fieldLink RX12 29 (tq_cl 12).1 ((tq_cl 12).2.1 18).2.1 ((tq_cl 12).2.1 18).2.2.1 ∈ lw_tbl := ⟨rfl, rfl, rfl, tq_sg6 _ (List.mem_of_getElem? (i := 91) rfl)⟩
theorem ff_X12_32 : "<init>" = "<init>" ∧ (tq_cl 12).1 = RX12 ∧ ((tq_cl 12).2.1 20).2.2.2 = true ∧ Cond.fieldLink RX12 32 (tq_cl 12).1 ((tq_cl 12).2.1 20).2.1 ((tq_cl 12).2.1 20).2.2.1 ∈ lw_tbl := ⟨rfl, rfl, rfl, tq_sg6 _ (List.mem_of_getElem? (i := 93) rfl)⟩
theorem ff_X12_35 : "<init>" = "<init>" ∧ (tq_cl 12).1 = RX12 ∧ ((tq_cl 12).2.1 21).2.2.2 = true ∧ Cond.fieldLink RX12 35 (tq_cl 12).1 ((tq_cl 12).2.1 21).2.1 ((tq_cl 12).2.1 21).2.2.1 ∈ lw_tbl := ⟨rfl, rfl, rfl, tq_sg6 _ (List.mem_of_getElem? (i := 94) rfl)⟩
theorem ff_X12_38 : "<init>" = "<init>" ∧ (tq_cl 12).1 = RX12 ∧ ((tq_cl 12).2.1 25).2.2.2 = true ∧ Cond.fieldLink RX12 38 (tq_cl 12).1 ((tq_cl 12).2.1 25).2.1 ((tq_cl 12).2.1 25).2.2.1 ∈ lw_tbl := ⟨rfl, rfl, rfl, tq_sg6 _ (List.mem_of_getElem? (i := 98) rfl)⟩
theorem ff_X12_41 : "<init>" = "<init>" ∧ (tq_cl 12).1 = RX12 ∧ ((tq_cl 12).2.1 26).2.2.2 = true ∧ Cond.fieldLink RX12 41 (tq_cl 12).1 ((tq_cl 12).2.1 26).2.1 ((tq_cl 12).2.1 26).2.2.1 ∈ lw_tbl := ⟨rfl, rfl, rfl, tq_sg6 _ (List.mem_of_getElem? (i := 99) rfl)⟩
theorem ff_X12_44 : "<init>" = "<init>" ∧ (tq_cl 12).1 = RX12 ∧ ((tq_cl 12).2.1 27).2.2.2 = true ∧ Cond.fieldLink RX12 44 (tq_cl 12).1 ((tq_cl 12).2.1 27).2.1 ((tq_cl 12).2.1 27).2.2.1 ∈ lw_tbl := ⟨rfl, rfl, rfl, tq_sg6 _ (List.mem_of_getElem? (i := 100) rfl)⟩
theorem ff_X12_47 : "<init>" = "<init>" ∧ (tq_cl 12).1 = RX12 ∧ ((tq_cl 12).2.1 30).2.2.2 = true ∧ Cond.fieldLink RX12 47 (tq_cl 12).1 ((tq_cl 12).2.1 30).2.1 ((tq_cl 12).2.1 30).2.2.1 ∈ lw_tbl := ⟨rfl, rfl, rfl, tq_sg6 _ (List.mem_of_getElem? (i := 103) rfl)⟩
theorem ff_X12_51 : "<init>" = "<init>" ∧ (tq_cl 12).1 = RX12 ∧ ((tq_cl 12).2.1 32).2.2.2 = true ∧ Cond.fieldLink RX12 51 (tq_cl 12).1 ((tq_cl 12).2.1 32).2.1 ((tq_cl 12).2.1 32).2.2.1 ∈ lw_tbl := ⟨rfl, rfl, rfl, tq_sg6 _ (List.mem_of_getElem? (i := 105) rfl)⟩
theorem ff_X12_54 : "<init>" = "<init>" ∧ (tq_cl 12).1 = RX12 ∧ ((tq_cl 12).2.1 34).2.2.2 = true ∧ Cond.fieldLink RX12 54 (tq_cl 12).1 ((tq_cl 12).2.1 34).2.1 ((tq_cl 12).2.1 34).2.2.1 ∈ lw_tbl := ⟨rfl, rfl, rfl, tq_sg6 _ (List.mem_of_getElem? (i := 107) rfl)⟩
theorem ff_X12_57 : "<init>" = "<init>" ∧ (tq_cl 12).1 = RX12 ∧ ((tq_cl 12).2.1 36).2.2.2 = true ∧ Cond.fieldLink RX12 57 (tq_cl 12).1 ((tq_cl 12).2.1 36).2.1 ((tq_cl 12).2.1 36).2.2.1 ∈ lw_tbl := ⟨rfl, rfl, rfl, tq_sg6 _ (List.mem_of_getElem? (i := 109) rfl)⟩
theorem ff_X12_60 : "<init>" = "<init>" ∧ (tq_cl 12).1 = RX12 ∧ ((tq_cl 12).2.1 37).2.2.2 = true ∧ Cond.fieldLink RX12 60 (tq_cl 12).1 ((tq_cl 12).2.1 37).2.1 ((tq_cl 12).2.1 37).2.2.1 ∈ lw_tbl := ⟨rfl, rfl, rfl, tq_sg6 _ (List.mem_of_getElem? (i := 110) rfl)⟩
theorem ff_X12_7 : "<init>" = "<init>" ∧ (tq_cl 12).1 = RX12 ∧ ((tq_cl 12).2.1 0).2.2.2 = true ∧ Cond.fieldLink RX12 7 (tq_cl 12).1 ((tq_cl 12).2.1 0).2.1 ((tq_cl 12).2.1 0).2.2.1 ∈ lw_tbl := ⟨rfl, rfl, rfl, tq_sg6 _ (List.mem_of_getElem? (i := 73) rfl)⟩
theorem l_X0_53 : tq_lok RX0 53 miX3_init.1 := Or.inr ⟨_, tq_sg1 _ (List.mem_of_getElem? (i := 44) rfl)⟩
theorem l_X0_54 : tq_lok RX0 54 miX10_init.1 := Or.inr ⟨_, tq_sg1 _ (List.mem_of_getElem? (i := 86) rfl)⟩
theorem l_X0_55 : tq_lok RX0 55 miX4_init.1 := Or.inr ⟨_, tq_sg1 _ (List.mem_of_getElem? (i := 107) rfl)⟩
theorem l_X0_56 : tq_lok RX0 56 miX9_init.1 := Or.inr ⟨_, tq_sg1 _ (List.mem_of_getElem? (i := 125) rfl)⟩
theorem l_X7_17 : tq_lok RX7 17 miX3_init.1 := Or.inr ⟨_, tq_sg1 _ (List.mem_of_getElem? (i := 179) rfl)⟩
theorem l_X7_24 : tq_lok RX7 24 miX10_init.1 := Or.inr ⟨_, tq_sg1 _ (List.mem_of_getElem? (i := 181) rfl)⟩
theorem l_X7_31 : tq_lok RX7 31 miX4_init.1 := Or.inr ⟨_, tq_sg1 _ (List.mem_of_getElem? (i := 183) rfl)⟩
theorem l_X7_38 : tq_lok RX7 38 miX9_init.1 := Or.inr ⟨_, tq_sg1 _ (List.mem_of_getElem? (i := 185) rfl)⟩
theorem l_X8_11 : tq_lok RX8 11 miX3_init.1 := Or.inr ⟨_, tq_sg2 _ (List.mem_of_getElem? (i := 0) rfl)⟩
theorem l_X11_26 : tq_lok RX11 26 miX7_init.1 := Or.inr ⟨_, tq_sg1 _ (List.mem_of_getElem? (i := 174) rfl)⟩
theorem l_X11_33 : tq_lok RX11 33 miX8_init.1 := Or.inr ⟨_, tq_sg1 _ (List.mem_of_getElem? (i := 235) rfl)⟩
theorem l_X11_40 : tq_lok RX11 40 miX5_init.1 := Or.inr ⟨_, tq_sg2 _ (List.mem_of_getElem? (i := 40) rfl)⟩
theorem l_X11_47 : tq_lok RX11 47 miX6_init.1 := Or.inr ⟨_, tq_sg2 _ (List.mem_of_getElem? (i := 82) rfl)⟩
theorem l_X11_54 : tq_lok RX11 54 miX2_init.1 := Or.inr ⟨_, tq_sg2 _ (List.mem_of_getElem? (i := 97) rfl)⟩
theorem l_X11_61 : tq_lok RX11 61 miX1_init.1 := Or.inr ⟨_, tq_sg2 _ (List.mem_of_getElem? (i := 110) rfl)⟩
theorem l_X11_9 : tq_lok RX11 9 miX0_init.1 := Or.inl (tq_sg1 _ (List.mem_of_getElem? (i := 31) rfl))
theorem nw_X0_29 : Cond.classLink RX0 29 (tq_cl 3).1 ∈ lw_tbl ∧ Cond.instantiable (tq_cl 3).1 (tq_cl 3).2.2 ∈ lw_tbl ∧ Cond.initialized (tq_cl 3).1 ∈ lw_tbl := ⟨tq_sg1 _ (List.mem_of_getElem? (i := 35) rfl), tq_sg1 _ (List.mem_of_getElem? (i := 43) rfl), tq_sg1 _ (List.mem_of_getElem? (i := 3) rfl)⟩
theorem nw_X0_35 : Cond.classLink RX0 35 (tq_cl 10).1 ∈ lw_tbl ∧ Cond.instantiable (tq_cl 10).1 (tq_cl 10).2.2 ∈ lw_tbl ∧ Cond.initialized (tq_cl 10).1 ∈ lw_tbl := ⟨tq_sg1 _ (List.mem_of_getElem? (i := 37) rfl), tq_sg1 _ (List.mem_of_getElem? (i := 85) rfl), tq_sg1 _ (List.mem_of_getElem? (i := 4) rfl)⟩
theorem nw_X0_41 : Cond.classLink RX0 41 (tq_cl 4).1 ∈ lw_tbl ∧ Cond.instantiable (tq_cl 4).1 (tq_cl 4).2.2 ∈ lw_tbl ∧ Cond.initialized (tq_cl 4).1 ∈ lw_tbl := ⟨tq_sg1 _ (List.mem_of_getElem? (i := 39) rfl), tq_sg1 _ (List.mem_of_getElem? (i := 106) rfl), tq_sg1 _ (List.mem_of_getElem? (i := 5) rfl)⟩
theorem nw_X0_47 : Cond.classLink RX0 47 (tq_cl 9).1 ∈ lw_tbl ∧ Cond.instantiable (tq_cl 9).1 (tq_cl 9).2.2 ∈ lw_tbl ∧ Cond.initialized (tq_cl 9).1 ∈ lw_tbl := ⟨tq_sg1 _ (List.mem_of_getElem? (i := 41) rfl), tq_sg1 _ (List.mem_of_getElem? (i := 124) rfl), tq_sg1 _ (List.mem_of_getElem? (i := 6) rfl)⟩
theorem nw_X7_15 : Cond.classLink RX7 15 (tq_cl 3).1 ∈ lw_tbl ∧ Cond.instantiable (tq_cl 3).1 (tq_cl 3).2.2 ∈ lw_tbl ∧ Cond.initialized (tq_cl 3).1 ∈ lw_tbl := ⟨tq_sg1 _ (List.mem_of_getElem? (i := 178) rfl), tq_sg1 _ (List.mem_of_getElem? (i := 43) rfl), tq_sg1 _ (List.mem_of_getElem? (i := 3) rfl)⟩
theorem nw_X7_22 : Cond.classLink RX7 22 (tq_cl 10).1 ∈ lw_tbl ∧ Cond.instantiable (tq_cl 10).1 (tq_cl 10).2.2 ∈ lw_tbl ∧ Cond.initialized (tq_cl 10).1 ∈ lw_tbl := ⟨tq_sg1 _ (List.mem_of_getElem? (i := 180) rfl), tq_sg1 _ (List.mem_of_getElem? (i := 85) rfl), tq_sg1 _ (List.mem_of_getElem? (i := 4) rfl)⟩
theorem nw_X7_29 : Cond.classLink RX7 29 (tq_cl 4).1 ∈ lw_tbl ∧ Cond.instantiable (tq_cl 4).1 (tq_cl 4).2.2 ∈ lw_tbl ∧ Cond.initialized (tq_cl 4).1 ∈ lw_tbl := ⟨tq_sg1 _ (List.mem_of_getElem? (i := 182) rfl), tq_sg1 _ (List.mem_of_getElem? (i := 106) rfl), tq_sg1 _ (List.mem_of_getElem? (i := 5) rfl)⟩
theorem nw_X7_36 : Cond.classLink RX7 36 (tq_cl 9).1 ∈ lw_tbl ∧ Cond.instantiable (tq_cl 9).1 (tq_cl 9).2.2 ∈ lw_tbl ∧ Cond.initialized (tq_cl 9).1 ∈ lw_tbl := ⟨tq_sg1 _ (List.mem_of_getElem? (i := 184) rfl), tq_sg1 _ (List.mem_of_getElem? (i := 124) rfl), tq_sg1 _ (List.mem_of_getElem? (i := 6) rfl)⟩
theorem nw_X8_9 : Cond.classLink RX8 9 (tq_cl 3).1 ∈ lw_tbl ∧ Cond.instantiable (tq_cl 3).1 (tq_cl 3).2.2 ∈ lw_tbl ∧ Cond.initialized (tq_cl 3).1 ∈ lw_tbl := ⟨tq_sg1 _ (List.mem_of_getElem? (i := 239) rfl), tq_sg1 _ (List.mem_of_getElem? (i := 43) rfl), tq_sg1 _ (List.mem_of_getElem? (i := 3) rfl)⟩
theorem nw_X11_24 : Cond.classLink RX11 24 (tq_cl 7).1 ∈ lw_tbl ∧ Cond.instantiable (tq_cl 7).1 (tq_cl 7).2.2 ∈ lw_tbl ∧ Cond.initialized (tq_cl 7).1 ∈ lw_tbl := ⟨tq_sg1 _ (List.mem_of_getElem? (i := 172) rfl), tq_sg1 _ (List.mem_of_getElem? (i := 173) rfl), tq_sg1 _ (List.mem_of_getElem? (i := 7) rfl)⟩
theorem nw_X11_31 : Cond.classLink RX11 31 (tq_cl 8).1 ∈ lw_tbl ∧ Cond.instantiable (tq_cl 8).1 (tq_cl 8).2.2 ∈ lw_tbl ∧ Cond.initialized (tq_cl 8).1 ∈ lw_tbl := ⟨tq_sg1 _ (List.mem_of_getElem? (i := 233) rfl), tq_sg1 _ (List.mem_of_getElem? (i := 234) rfl), tq_sg1 _ (List.mem_of_getElem? (i := 8) rfl)⟩
theorem nw_X11_38 : Cond.classLink RX11 38 (tq_cl 5).1 ∈ lw_tbl ∧ Cond.instantiable (tq_cl 5).1 (tq_cl 5).2.2 ∈ lw_tbl ∧ Cond.initialized (tq_cl 5).1 ∈ lw_tbl := ⟨tq_sg2 _ (List.mem_of_getElem? (i := 38) rfl), tq_sg2 _ (List.mem_of_getElem? (i := 39) rfl), tq_sg1 _ (List.mem_of_getElem? (i := 9) rfl)⟩
theorem nw_X11_45 : Cond.classLink RX11 45 (tq_cl 6).1 ∈ lw_tbl ∧ Cond.instantiable (tq_cl 6).1 (tq_cl 6).2.2 ∈ lw_tbl ∧ Cond.initialized (tq_cl 6).1 ∈ lw_tbl := ⟨tq_sg2 _ (List.mem_of_getElem? (i := 80) rfl), tq_sg2 _ (List.mem_of_getElem? (i := 81) rfl), tq_sg1 _ (List.mem_of_getElem? (i := 10) rfl)⟩
theorem nw_X11_52 : Cond.classLink RX11 52 (tq_cl 2).1 ∈ lw_tbl ∧ Cond.instantiable (tq_cl 2).1 (tq_cl 2).2.2 ∈ lw_tbl ∧ Cond.initialized (tq_cl 2).1 ∈ lw_tbl := ⟨tq_sg2 _ (List.mem_of_getElem? (i := 95) rfl), tq_sg2 _ (List.mem_of_getElem? (i := 96) rfl), tq_sg1 _ (List.mem_of_getElem? (i := 11) rfl)⟩
theorem nw_X11_59 : Cond.classLink RX11 59 (tq_cl 1).1 ∈ lw_tbl ∧ Cond.instantiable (tq_cl 1).1 (tq_cl 1).2.2 ∈ lw_tbl ∧ Cond.initialized (tq_cl 1).1 ∈ lw_tbl := ⟨tq_sg2 _ (List.mem_of_getElem? (i := 108) rfl), tq_sg2 _ (List.mem_of_getElem? (i := 109) rfl), tq_sg1 _ (List.mem_of_getElem? (i := 12) rfl)⟩
theorem nw_X11_7 : Cond.classLink RX11 7 (tq_cl 0).1 ∈ lw_tbl ∧ Cond.instantiable (tq_cl 0).1 (tq_cl 0).2.2 ∈ lw_tbl ∧ Cond.initialized (tq_cl 0).1 ∈ lw_tbl := ⟨tq_sg1 _ (List.mem_of_getElem? (i := 29) rfl), tq_sg1 _ (List.mem_of_getElem? (i := 30) rfl), tq_sg1 _ (List.mem_of_getElem? (i := 2) rfl)⟩
theorem ob_X0_3 : Cond.methodLink RX0 3 Lib.objectInit ∈ lw_tbl ∧ Cond.instanceMethod Lib.objectInit ∈ lw_tbl ∧ Cond.code Lib.objectInit ⟨#[0xb1]⟩ 1 none ∈ lw_tbl := ⟨tq_sg1 _ (List.mem_of_getElem? (i := 34) rfl), tq_sg1 _ (List.mem_of_getElem? (i := 27) rfl), tq_sg1 _ (List.mem_of_getElem? (i := 28) rfl)⟩
theorem ob_X1_3 : Cond.methodLink RX1 3 Lib.objectInit ∈ lw_tbl ∧ Cond.instanceMethod Lib.objectInit ∈ lw_tbl ∧ Cond.code Lib.objectInit ⟨#[0xb1]⟩ 1 none ∈ lw_tbl := ⟨tq_sg2 _ (List.mem_of_getElem? (i := 113) rfl), tq_sg1 _ (List.mem_of_getElem? (i := 27) rfl), tq_sg1 _ (List.mem_of_getElem? (i := 28) rfl)⟩
theorem ob_X2_3 : Cond.methodLink RX2 3 Lib.objectInit ∈ lw_tbl ∧ Cond.instanceMethod Lib.objectInit ∈ lw_tbl ∧ Cond.code Lib.objectInit ⟨#[0xb1]⟩ 1 none ∈ lw_tbl := ⟨tq_sg2 _ (List.mem_of_getElem? (i := 100) rfl), tq_sg1 _ (List.mem_of_getElem? (i := 27) rfl), tq_sg1 _ (List.mem_of_getElem? (i := 28) rfl)⟩
theorem ob_X3_3 : Cond.methodLink RX3 3 Lib.objectInit ∈ lw_tbl ∧ Cond.instanceMethod Lib.objectInit ∈ lw_tbl ∧ Cond.code Lib.objectInit ⟨#[0xb1]⟩ 1 none ∈ lw_tbl := ⟨tq_sg1 _ (List.mem_of_getElem? (i := 47) rfl), tq_sg1 _ (List.mem_of_getElem? (i := 27) rfl), tq_sg1 _ (List.mem_of_getElem? (i := 28) rfl)⟩
theorem ob_X4_3 : Cond.methodLink RX4 3 Lib.objectInit ∈ lw_tbl ∧ Cond.instanceMethod Lib.objectInit ∈ lw_tbl ∧ Cond.code Lib.objectInit ⟨#[0xb1]⟩ 1 none ∈ lw_tbl := ⟨tq_sg1 _ (List.mem_of_getElem? (i := 110) rfl), tq_sg1 _ (List.mem_of_getElem? (i := 27) rfl), tq_sg1 _ (List.mem_of_getElem? (i := 28) rfl)⟩
theorem ob_X5_3 : Cond.methodLink RX5 3 Lib.objectInit ∈ lw_tbl ∧ Cond.instanceMethod Lib.objectInit ∈ lw_tbl ∧ Cond.code Lib.objectInit ⟨#[0xb1]⟩ 1 none ∈ lw_tbl := ⟨tq_sg2 _ (List.mem_of_getElem? (i := 43) rfl), tq_sg1 _ (List.mem_of_getElem? (i := 27) rfl), tq_sg1 _ (List.mem_of_getElem? (i := 28) rfl)⟩
theorem ob_X6_3 : Cond.methodLink RX6 3 Lib.objectInit ∈ lw_tbl ∧ Cond.instanceMethod Lib.objectInit ∈ lw_tbl ∧ Cond.code Lib.objectInit ⟨#[0xb1]⟩ 1 none ∈ lw_tbl := ⟨tq_sg2 _ (List.mem_of_getElem? (i := 85) rfl), tq_sg1 _ (List.mem_of_getElem? (i := 27) rfl), tq_sg1 _ (List.mem_of_getElem? (i := 28) rfl)⟩
theorem ob_X7_3 : Cond.methodLink RX7 3 Lib.objectInit ∈ lw_tbl ∧ Cond.instanceMethod Lib.objectInit ∈ lw_tbl ∧ Cond.code Lib.objectInit ⟨#[0xb1]⟩ 1 none ∈ lw_tbl := ⟨tq_sg1 _ (List.mem_of_getElem? (i := 177) rfl), tq_sg1 _ (List.mem_of_getElem? (i := 27) rfl), tq_sg1 _ (List.mem_of_getElem? (i := 28) rfl)⟩
theorem ob_X8_3 : Cond.methodLink RX8 3 Lib.objectInit ∈ lw_tbl ∧ Cond.instanceMethod Lib.objectInit ∈ lw_tbl ∧ Cond.code Lib.objectInit ⟨#[0xb1]⟩ 1 none ∈ lw_tbl := ⟨tq_sg1 _ (List.mem_of_getElem? (i := 238) rfl), tq_sg1 _ (List.mem_of_getElem? (i := 27) rfl), tq_sg1 _ (List.mem_of_getElem? (i := 28) rfl)⟩
theorem ob_X9_3 : Cond.methodLink RX9 3 Lib.objectInit ∈ lw_tbl ∧ Cond.instanceMethod Lib.objectInit ∈ lw_tbl ∧ Cond.code Lib.objectInit ⟨#[0xb1]⟩ 1 none ∈ lw_tbl := ⟨tq_sg1 _ (List.mem_of_getElem? (i := 128) rfl), tq_sg1 _ (List.mem_of_getElem? (i := 27) rfl), tq_sg1 _ (List.mem_of_getElem? (i := 28) rfl)⟩
theorem ob_X10_3 : Cond.methodLink RX10 3 Lib.objectInit ∈ lw_tbl ∧ Cond.instanceMethod Lib.objectInit ∈ lw_tbl ∧ Cond.code Lib.objectInit ⟨#[0xb1]⟩ 1 none ∈ lw_tbl := ⟨tq_sg1 _ (List.mem_of_getElem? (i := 89) rfl), tq_sg1 _ (List.mem_of_getElem? (i := 27) rfl), tq_sg1 _ (List.mem_of_getElem? (i := 28) rfl)⟩
theorem ob_X11_1 : Cond.methodLink RX11 1 Lib.objectInit ∈ lw_tbl ∧ Cond.instanceMethod Lib.objectInit ∈ lw_tbl ∧ Cond.code Lib.objectInit ⟨#[0xb1]⟩ 1 none ∈ lw_tbl := ⟨tq_sg1 _ (List.mem_of_getElem? (i := 26) rfl), tq_sg1 _ (List.mem_of_getElem? (i := 27) rfl), tq_sg1 _ (List.mem_of_getElem? (i := 28) rfl)⟩
theorem ob_X12_1 : Cond.methodLink RX12 1 Lib.objectInit ∈ lw_tbl ∧ Cond.instanceMethod Lib.objectInit ∈ lw_tbl ∧ Cond.code Lib.objectInit ⟨#[0xb1]⟩ 1 none ∈ lw_tbl := ⟨tq_sg6 _ (List.mem_of_getElem? (i := 72) rfl), tq_sg1 _ (List.mem_of_getElem? (i := 27) rfl), tq_sg1 _ (List.mem_of_getElem? (i := 28) rfl)⟩
theorem rX0_init_0 : tq_D cX0_init 0 (.aload_n 0) 1 1 := ⟨by decide +kernel, rfl⟩
theorem rX0_init_1 : tq_D cX0_init 1 (.invokespecial 3) 3 4 := ⟨by decide +kernel, rfl⟩
theorem rX0_init_4 : tq_D cX0_init 4 (.aload_n 0) 1 5 := ⟨by decide +kernel, rfl⟩
theorem rX0_init_5 : tq_D cX0_init 5 (.sipush 600) 3 8 := ⟨by decide +kernel, rfl⟩
theorem rX0_init_8 : tq_D cX0_init 8 (.newarray .byte) 2 10 := ⟨by decide +kernel, rfl⟩
theorem rX0_init_10 : tq_D cX0_init 10 (.putfield 9) 3 13 := ⟨by decide +kernel, rfl⟩
theorem rX0_init_13 : tq_D cX0_init 13 (.aload_n 0) 1 14 := ⟨by decide +kernel, rfl⟩
theorem rX0_init_14 : tq_D cX0_init 14 (.iconst 0) 1 15 := ⟨by decide +kernel, rfl⟩
theorem rX0_init_15 : tq_D cX0_init 15 (.putfield 15) 3 18 := ⟨by decide +kernel, rfl⟩
theorem rX0_init_18 : tq_D cX0_init 18 (.aload_n 0) 1 19 := ⟨by decide +kernel, rfl⟩
theorem rX0_init_19 : tq_D cX0_init 19 (.iconst 0) 1 20 := ⟨by decide +kernel, rfl⟩
theorem rX0_init_20 : tq_D cX0_init 20 (.putfield 19) 3 23 := ⟨by decide +kernel, rfl⟩
theorem rX0_init_23 : tq_D cX0_init 23 (.aload_n 0) 1 24 := ⟨by decide +kernel, rfl⟩
theorem rX0_init_24 : tq_D cX0_init 24 (.iconst (-1)) 1 25 := ⟨by decide +kernel, rfl⟩
theorem rX0_init_25 : tq_D cX0_init 25 (.putfield 22) 3 28 := ⟨by decide +kernel, rfl⟩
theorem rX0_init_28 : tq_D cX0_init 28 (.aload_n 0) 1 29 := ⟨by decide +kernel, rfl⟩
theorem rX0_init_29 : tq_D cX0_init 29 (.iconst 4) 1 30 := ⟨by decide +kernel, rfl⟩
theorem rX0_init_30 : tq_D cX0_init 30 (.newarray .int) 2 32 := ⟨by decide +kernel, rfl⟩
theorem rX0_init_32 : tq_D cX0_init 32 (.putfield 25) 3 35 := ⟨by decide +kernel, rfl⟩
theorem rX0_init_35 : tq_D cX0_init 35 (.aload_n 0) 1 36 := ⟨by decide +kernel, rfl⟩
theorem rX0_init_36 : tq_D cX0_init 36 (.iconst 2) 1 37 := ⟨by decide +kernel, rfl⟩
theorem rX0_init_37 : tq_D cX0_init 37 (.anewarray 29) 3 40 := ⟨by decide +kernel, rfl⟩
theorem rX0_init_40 : tq_D cX0_init 40 (.putfield 31) 3 43 := ⟨by decide +kernel, rfl⟩
theorem rX0_init_43 : tq_D cX0_init 43 (.aload_n 0) 1 44 := ⟨by decide +kernel, rfl⟩
theorem rX0_init_44 : tq_D cX0_init 44 (.iconst 2) 1 45 := ⟨by decide +kernel, rfl⟩
theorem rX0_init_45 : tq_D cX0_init 45 (.anewarray 35) 3 48 := ⟨by decide +kernel, rfl⟩
theorem rX0_init_48 : tq_D cX0_init 48 (.putfield 37) 3 51 := ⟨by decide +kernel, rfl⟩
theorem rX0_init_51 : tq_D cX0_init 51 (.aload_n 0) 1 52 := ⟨by decide +kernel, rfl⟩
theorem rX0_init_52 : tq_D cX0_init 52 (.iconst 2) 1 53 := ⟨by decide +kernel, rfl⟩
theorem rX0_init_53 : tq_D cX0_init 53 (.anewarray 41) 3 56 := ⟨by decide +kernel, rfl⟩
theorem rX0_init_56 : tq_D cX0_init 56 (.putfield 43) 3 59 := ⟨by decide +kernel, rfl⟩
theorem rX0_init_59 : tq_D cX0_init 59 (.aload_n 0) 1 60 := ⟨by decide +kernel, rfl⟩
theorem rX0_init_60 : tq_D cX0_init 60 (.iconst 2) 1 61 := ⟨by decide +kernel, rfl⟩
theorem rX0_init_61 : tq_D cX0_init 61 (.anewarray 47) 3 64 := ⟨by decide +kernel, rfl⟩
theorem rX0_init_64 : tq_D cX0_init 64 (.putfield 49) 3 67 := ⟨by decide +kernel, rfl⟩
theorem rX0_init_67 : tq_D cX0_init 67 (.iconst 0) 1 68 := ⟨by decide +kernel, rfl⟩
theorem rX0_init_68 : tq_D cX0_init 68 (.istore_n 1) 1 69 := ⟨by decide +kernel, rfl⟩
theorem rX0_init_69 : tq_D cX0_init 69 (.iload_n 1) 1 70 := ⟨by decide +kernel, rfl⟩
theorem rX0_init_70 : tq_D cX0_init 70 (.iconst 2) 1 71 := ⟨by decide +kernel, rfl⟩
theorem rX0_init_71 : tq_J cX0_init 71 (.if_icmp .ge) 132 74 := ⟨61, by decide +kernel, by decide, rfl⟩
theorem rX0_init_74 : tq_D cX0_init 74 (.aload_n 0) 1 75 := ⟨by decide +kernel, rfl⟩
theorem rX0_init_75 : tq_D cX0_init 75 (.getfield 31) 3 78 := ⟨by decide +kernel, rfl⟩
theorem rX0_init_78 : tq_D cX0_init 78 (.iload_n 1) 1 79 := ⟨by decide +kernel, rfl⟩
theorem rX0_init_79 : tq_D cX0_init 79 (.new 29) 3 82 := ⟨by decide +kernel, rfl⟩
theorem rX0_init_82 : tq_D cX0_init 82 (.dup) 1 83 := ⟨by decide +kernel, rfl⟩
theorem rX0_init_83 : tq_D cX0_init 83 (.invokespecial 53) 3 86 := ⟨by decide +kernel, rfl⟩
theorem rX0_init_86 : tq_D cX0_init 86 (.aastore) 1 87 := ⟨by decide +kernel, rfl⟩
theorem rX0_init_87 : tq_D cX0_init 87 (.aload_n 0) 1 88 := ⟨by decide +kernel, rfl⟩
theorem rX0_init_88 : tq_D cX0_init 88 (.getfield 37) 3 91 := ⟨by decide +kernel, rfl⟩
theorem rX0_init_91 : tq_D cX0_init 91 (.iload_n 1) 1 92 := ⟨by decide +kernel, rfl⟩
theorem rX0_init_92 : tq_D cX0_init 92 (.new 35) 3 95 := ⟨by decide +kernel, rfl⟩
theorem rX0_init_95 : tq_D cX0_init 95 (.dup) 1 96 := ⟨by decide +kernel, rfl⟩
theorem rX0_init_96 : tq_D cX0_init 96 (.invokespecial 54) 3 99 := ⟨by decide +kernel, rfl⟩
theorem rX0_init_99 : tq_D cX0_init 99 (.aastore) 1 100 := ⟨by decide +kernel, rfl⟩
theorem rX0_init_100 : tq_D cX0_init 100 (.aload_n 0) 1 101 := ⟨by decide +kernel, rfl⟩
theorem rX0_init_101 : tq_D cX0_init 101 (.getfield 43) 3 104 := ⟨by decide +kernel, rfl⟩
theorem rX0_init_104 : tq_D cX0_init 104 (.iload_n 1) 1 105 := ⟨by decide +kernel, rfl⟩
theorem rX0_init_105 : tq_D cX0_init 105 (.new 41) 3 108 := ⟨by decide +kernel, rfl⟩
theorem rX0_init_108 : tq_D cX0_init 108 (.dup) 1 109 := ⟨by decide +kernel, rfl⟩
theorem rX0_init_109 : tq_D cX0_init 109 (.invokespecial 55) 3 112 := ⟨by decide +kernel, rfl⟩
theorem rX0_init_112 : tq_D cX0_init 112 (.aastore) 1 113 := ⟨by decide +kernel, rfl⟩
theorem rX0_init_113 : tq_D cX0_init 113 (.aload_n 0) 1 114 := ⟨by decide +kernel, rfl⟩
theorem rX0_init_114 : tq_D cX0_init 114 (.getfield 49) 3 117 := ⟨by decide +kernel, rfl⟩
theorem rX0_init_117 : tq_D cX0_init 117 (.iload_n 1) 1 118 := ⟨by decide +kernel, rfl⟩
theorem rX0_init_118 : tq_D cX0_init 118 (.new 47) 3 121 := ⟨by decide +kernel, rfl⟩
theorem rX0_init_121 : tq_D cX0_init 121 (.dup) 1 122 := ⟨by decide +kernel, rfl⟩
theorem rX0_init_122 : tq_D cX0_init 122 (.invokespecial 56) 3 125 := ⟨by decide +kernel, rfl⟩
theorem rX0_init_125 : tq_D cX0_init 125 (.aastore) 1 126 := ⟨by decide +kernel, rfl⟩
theorem rX0_init_126 : tq_D cX0_init 126 (.iinc 1 1) 3 129 := ⟨by decide +kernel, rfl⟩
theorem rX0_init_129 : tq_J cX0_init 129 .goto 69 132 := ⟨(-60), by decide +kernel, by decide, rfl⟩
theorem rX0_init_132 : decode cX0_init 132 = .ok (.return_, 1) := by decide +kernel
theorem rX10_init_0 : tq_D cX10_init 0 (.aload_n 0) 1 1 := ⟨by decide +kernel, rfl⟩
theorem rX10_init_1 : tq_D cX10_init 1 (.invokespecial 3) 3 4 := ⟨by decide +kernel, rfl⟩
theorem rX10_init_4 : tq_D cX10_init 4 (.aload_n 0) 1 5 := ⟨by decide +kernel, rfl⟩
theorem rX10_init_5 : tq_D cX10_init 5 (.iconst 0) 1 6 := ⟨by decide +kernel, rfl⟩
theorem rX10_init_6 : tq_D cX10_init 6 (.putfield 9) 3 9 := ⟨by decide +kernel, rfl⟩
theorem rX10_init_9 : tq_D cX10_init 9 (.aload_n 0) 1 10 := ⟨by decide +kernel, rfl⟩
theorem rX10_init_10 : tq_D cX10_init 10 (.bipush 40) 2 12 := ⟨by decide +kernel, rfl⟩
theorem rX10_init_12 : tq_D cX10_init 12 (.newarray .int) 2 14 := ⟨by decide +kernel, rfl⟩
theorem rX10_init_14 : tq_D cX10_init 14 (.putfield 15) 3 17 := ⟨by decide +kernel, rfl⟩
theorem rX10_init_17 : tq_D cX10_init 17 (.aload_n 0) 1 18 := ⟨by decide +kernel, rfl⟩
theorem rX10_init_18 : tq_D cX10_init 18 (.bipush 40) 2 20 := ⟨by decide +kernel, rfl⟩
theorem rX10_init_20 : tq_D cX10_init 20 (.newarray .int) 2 22 := ⟨by decide +kernel, rfl⟩
theorem rX10_init_22 : tq_D cX10_init 22 (.putfield 19) 3 25 := ⟨by decide +kernel, rfl⟩
theorem rX10_init_25 : tq_D cX10_init 25 (.aload_n 0) 1 26 := ⟨by decide +kernel, rfl⟩
theorem rX10_init_26 : tq_D cX10_init 26 (.bipush 40) 2 28 := ⟨by decide +kernel, rfl⟩
theorem rX10_init_28 : tq_D cX10_init 28 (.newarray .int) 2 30 := ⟨by decide +kernel, rfl⟩
theorem rX10_init_30 : tq_D cX10_init 30 (.putfield 22) 3 33 := ⟨by decide +kernel, rfl⟩
theorem rX10_init_33 : decode cX10_init 33 = .ok (.return_, 1) := by decide +kernel
theorem rX11_init_0 : tq_D cX11_init 0 (.aload_n 0) 1 1 := ⟨by decide +kernel, rfl⟩
theorem rX11_init_1 : tq_D cX11_init 1 (.invokespecial 1) 3 4 := ⟨by decide +kernel, rfl⟩
theorem rX11_init_4 : tq_D cX11_init 4 (.aload_n 0) 1 5 := ⟨by decide +kernel, rfl⟩
theorem rX11_init_5 : tq_D cX11_init 5 (.new 7) 3 8 := ⟨by decide +kernel, rfl⟩
theorem rX11_init_8 : tq_D cX11_init 8 (.dup) 1 9 := ⟨by decide +kernel, rfl⟩
theorem rX11_init_9 : tq_D cX11_init 9 (.invokespecial 9) 3 12 := ⟨by decide +kernel, rfl⟩
theorem rX11_init_12 : tq_D cX11_init 12 (.putfield 10) 3 15 := ⟨by decide +kernel, rfl⟩
theorem rX11_init_15 : tq_D cX11_init 15 (.aload_n 0) 1 16 := ⟨by decide +kernel, rfl⟩
theorem rX11_init_16 : tq_D cX11_init 16 (.iconst 3) 1 17 := ⟨by decide +kernel, rfl⟩
theorem rX11_init_17 : tq_D cX11_init 17 (.anewarray 7) 3 20 := ⟨by decide +kernel, rfl⟩
theorem rX11_init_20 : tq_D cX11_init 20 (.putfield 16) 3 23 := ⟨by decide +kernel, rfl⟩
theorem rX11_init_23 : tq_D cX11_init 23 (.aload_n 0) 1 24 := ⟨by decide +kernel, rfl⟩
theorem rX11_init_24 : tq_D cX11_init 24 (.iconst 3) 1 25 := ⟨by decide +kernel, rfl⟩
theorem rX11_init_25 : tq_D cX11_init 25 (.newarray .boolean) 2 27 := ⟨by decide +kernel, rfl⟩
theorem rX11_init_27 : tq_D cX11_init 27 (.putfield 20) 3 30 := ⟨by decide +kernel, rfl⟩
theorem rX11_init_30 : tq_D cX11_init 30 (.aload_n 0) 1 31 := ⟨by decide +kernel, rfl⟩
theorem rX11_init_31 : tq_D cX11_init 31 (.new 24) 3 34 := ⟨by decide +kernel, rfl⟩
theorem rX11_init_34 : tq_D cX11_init 34 (.dup) 1 35 := ⟨by decide +kernel, rfl⟩
theorem rX11_init_35 : tq_D cX11_init 35 (.invokespecial 26) 3 38 := ⟨by decide +kernel, rfl⟩
theorem rX11_init_38 : tq_D cX11_init 38 (.putfield 27) 3 41 := ⟨by decide +kernel, rfl⟩
theorem rX11_init_41 : tq_D cX11_init 41 (.aload_n 0) 1 42 := ⟨by decide +kernel, rfl⟩
theorem rX11_init_42 : tq_D cX11_init 42 (.new 31) 3 45 := ⟨by decide +kernel, rfl⟩
theorem rX11_init_45 : tq_D cX11_init 45 (.dup) 1 46 := ⟨by decide +kernel, rfl⟩
theorem rX11_init_46 : tq_D cX11_init 46 (.invokespecial 33) 3 49 := ⟨by decide +kernel, rfl⟩
theorem rX11_init_49 : tq_D cX11_init 49 (.putfield 34) 3 52 := ⟨by decide +kernel, rfl⟩
theorem rX11_init_52 : tq_D cX11_init 52 (.aload_n 0) 1 53 := ⟨by decide +kernel, rfl⟩
theorem rX11_init_53 : tq_D cX11_init 53 (.new 38) 3 56 := ⟨by decide +kernel, rfl⟩
theorem rX11_init_56 : tq_D cX11_init 56 (.dup) 1 57 := ⟨by decide +kernel, rfl⟩
theorem rX11_init_57 : tq_D cX11_init 57 (.invokespecial 40) 3 60 := ⟨by decide +kernel, rfl⟩
theorem rX11_init_60 : tq_D cX11_init 60 (.putfield 41) 3 63 := ⟨by decide +kernel, rfl⟩
theorem rX11_init_63 : tq_D cX11_init 63 (.aload_n 0) 1 64 := ⟨by decide +kernel, rfl⟩
theorem rX11_init_64 : tq_D cX11_init 64 (.new 45) 3 67 := ⟨by decide +kernel, rfl⟩
theorem rX11_init_67 : tq_D cX11_init 67 (.dup) 1 68 := ⟨by decide +kernel, rfl⟩
theorem rX11_init_68 : tq_D cX11_init 68 (.invokespecial 47) 3 71 := ⟨by decide +kernel, rfl⟩
theorem rX11_init_71 : tq_D cX11_init 71 (.putfield 48) 3 74 := ⟨by decide +kernel, rfl⟩
theorem rX11_init_74 : tq_D cX11_init 74 (.aload_n 0) 1 75 := ⟨by decide +kernel, rfl⟩
theorem rX11_init_75 : tq_D cX11_init 75 (.new 52) 3 78 := ⟨by decide +kernel, rfl⟩
theorem rX11_init_78 : tq_D cX11_init 78 (.dup) 1 79 := ⟨by decide +kernel, rfl⟩
theorem rX11_init_79 : tq_D cX11_init 79 (.invokespecial 54) 3 82 := ⟨by decide +kernel, rfl⟩
theorem rX11_init_82 : tq_D cX11_init 82 (.putfield 55) 3 85 := ⟨by decide +kernel, rfl⟩
theorem rX11_init_85 : tq_D cX11_init 85 (.aload_n 0) 1 86 := ⟨by decide +kernel, rfl⟩
theorem rX11_init_86 : tq_D cX11_init 86 (.new 59) 3 89 := ⟨by decide +kernel, rfl⟩
theorem rX11_init_89 : tq_D cX11_init 89 (.dup) 1 90 := ⟨by decide +kernel, rfl⟩
theorem rX11_init_90 : tq_D cX11_init 90 (.invokespecial 61) 3 93 := ⟨by decide +kernel, rfl⟩
theorem rX11_init_93 : tq_D cX11_init 93 (.putfield 62) 3 96 := ⟨by decide +kernel, rfl⟩
theorem rX11_init_96 : tq_D cX11_init 96 (.aload_n 0) 1 97 := ⟨by decide +kernel, rfl⟩
theorem rX11_init_97 : tq_D cX11_init 97 (.bipush 49) 2 99 := ⟨by decide +kernel, rfl⟩
theorem rX11_init_99 : tq_D cX11_init 99 (.newarray .long) 2 101 := ⟨by decide +kernel, rfl⟩
theorem rX11_init_101 : tq_D cX11_init 101 (.putfield 66) 3 104 := ⟨by decide +kernel, rfl⟩
theorem rX11_init_104 : tq_D cX11_init 104 (.iconst 0) 1 105 := ⟨by decide +kernel, rfl⟩
theorem rX11_init_105 : tq_D cX11_init 105 (.istore_n 1) 1 106 := ⟨by decide +kernel, rfl⟩
theorem rX11_init_106 : tq_D cX11_init 106 (.iload_n 1) 1 107 := ⟨by decide +kernel, rfl⟩
theorem rX11_init_107 : tq_D cX11_init 107 (.aload_n 0) 1 108 := ⟨by decide +kernel, rfl⟩
theorem rX11_init_108 : tq_D cX11_init 108 (.getfield 16) 3 111 := ⟨by decide +kernel, rfl⟩
theorem rX11_init_111 : tq_D cX11_init 111 (.arraylength) 1 112 := ⟨by decide +kernel, rfl⟩
theorem rX11_init_112 : tq_J cX11_init 112 (.if_icmp .ge) 134 115 := ⟨22, by decide +kernel, by decide, rfl⟩
theorem rX11_init_115 : tq_D cX11_init 115 (.aload_n 0) 1 116 := ⟨by decide +kernel, rfl⟩
theorem rX11_init_116 : tq_D cX11_init 116 (.getfield 16) 3 119 := ⟨by decide +kernel, rfl⟩
theorem rX11_init_119 : tq_D cX11_init 119 (.iload_n 1) 1 120 := ⟨by decide +kernel, rfl⟩
theorem rX11_init_120 : tq_D cX11_init 120 (.new 7) 3 123 := ⟨by decide +kernel, rfl⟩
theorem rX11_init_123 : tq_D cX11_init 123 (.dup) 1 124 := ⟨by decide +kernel, rfl⟩
theorem rX11_init_124 : tq_D cX11_init 124 (.invokespecial 9) 3 127 := ⟨by decide +kernel, rfl⟩
theorem rX11_init_127 : tq_D cX11_init 127 (.aastore) 1 128 := ⟨by decide +kernel, rfl⟩
theorem rX11_init_128 : tq_D cX11_init 128 (.iinc 1 1) 3 131 := ⟨by decide +kernel, rfl⟩
theorem rX11_init_131 : tq_J cX11_init 131 .goto 106 134 := ⟨(-25), by decide +kernel, by decide, rfl⟩
theorem rX11_init_134 : decode cX11_init 134 = .ok (.return_, 1) := by decide +kernel
theorem rX12_init_0 : tq_D cX12_init 0 (.aload_n 0) 1 1 := ⟨by decide +kernel, rfl⟩
theorem rX12_init_1 : tq_D cX12_init 1 (.invokespecial 1) 3 4 := ⟨by decide +kernel, rfl⟩
theorem rX12_init_4 : tq_D cX12_init 4 (.aload_n 0) 1 5 := ⟨by decide +kernel, rfl⟩
theorem rX12_init_5 : tq_D cX12_init 5 (.sipush 4016) 3 8 := ⟨by decide +kernel, rfl⟩
theorem rX12_init_8 : tq_D cX12_init 8 (.newarray .int) 2 10 := ⟨by decide +kernel, rfl⟩
theorem rX12_init_10 : tq_D cX12_init 10 (.putfield 7) 3 13 := ⟨by decide +kernel, rfl⟩
theorem rX12_init_13 : tq_D cX12_init 13 (.aload_n 0) 1 14 := ⟨by decide +kernel, rfl⟩
theorem rX12_init_14 : tq_D cX12_init 14 (.iconst 3) 1 15 := ⟨by decide +kernel, rfl⟩
theorem rX12_init_15 : tq_D cX12_init 15 (.newarray .boolean) 2 17 := ⟨by decide +kernel, rfl⟩
theorem rX12_init_17 : tq_D cX12_init 17 (.putfield 13) 3 20 := ⟨by decide +kernel, rfl⟩
theorem rX12_init_20 : tq_D cX12_init 20 (.aload_n 0) 1 21 := ⟨by decide +kernel, rfl⟩
theorem rX12_init_21 : tq_D cX12_init 21 (.bipush 121) 2 23 := ⟨by decide +kernel, rfl⟩
theorem rX12_init_23 : tq_D cX12_init 23 (.newarray .int) 2 25 := ⟨by decide +kernel, rfl⟩
theorem rX12_init_25 : tq_D cX12_init 25 (.putfield 17) 3 28 := ⟨by decide +kernel, rfl⟩
theorem rX12_init_28 : tq_D cX12_init 28 (.aload_n 0) 1 29 := ⟨by decide +kernel, rfl⟩
theorem rX12_init_29 : tq_D cX12_init 29 (.sipush 192) 3 32 := ⟨by decide +kernel, rfl⟩
theorem rX12_init_32 : tq_D cX12_init 32 (.newarray .int) 2 34 := ⟨by decide +kernel, rfl⟩
theorem rX12_init_34 : tq_D cX12_init 34 (.putfield 20) 3 37 := ⟨by decide +kernel, rfl⟩
theorem rX12_init_37 : tq_D cX12_init 37 (.aload_n 0) 1 38 := ⟨by decide +kernel, rfl⟩
theorem rX12_init_38 : tq_D cX12_init 38 (.bipush 48) 2 40 := ⟨by decide +kernel, rfl⟩
theorem rX12_init_40 : tq_D cX12_init 40 (.newarray .boolean) 2 42 := ⟨by decide +kernel, rfl⟩
theorem rX12_init_42 : tq_D cX12_init 42 (.putfield 23) 3 45 := ⟨by decide +kernel, rfl⟩
theorem rX12_init_45 : tq_D cX12_init 45 (.aload_n 0) 1 46 := ⟨by decide +kernel, rfl⟩
theorem rX12_init_46 : tq_D cX12_init 46 (.bipush 48) 2 48 := ⟨by decide +kernel, rfl⟩
theorem rX12_init_48 : tq_D cX12_init 48 (.newarray .int) 2 50 := ⟨by decide +kernel, rfl⟩
theorem rX12_init_50 : tq_D cX12_init 50 (.putfield 26) 3 53 := ⟨by decide +kernel, rfl⟩
theorem rX12_init_53 : tq_D cX12_init 53 (.aload_n 0) 1 54 := ⟨by decide +kernel, rfl⟩
theorem rX12_init_54 : tq_D cX12_init 54 (.bipush 48) 2 56 := ⟨by decide +kernel, rfl⟩
theorem rX12_init_56 : tq_D cX12_init 56 (.newarray .int) 2 58 := ⟨by decide +kernel, rfl⟩
theorem rX12_init_58 : tq_D cX12_init 58 (.putfield 29) 3 61 := ⟨by decide +kernel, rfl⟩
theorem rX12_init_61 : tq_D cX12_init 61 (.aload_n 0) 1 62 := ⟨by decide +kernel, rfl⟩
theorem rX12_init_62 : tq_D cX12_init 62 (.iconst 2) 1 63 := ⟨by decide +kernel, rfl⟩
theorem rX12_init_63 : tq_D cX12_init 63 (.newarray .int) 2 65 := ⟨by decide +kernel, rfl⟩
theorem rX12_init_65 : tq_D cX12_init 65 (.putfield 32) 3 68 := ⟨by decide +kernel, rfl⟩
theorem rX12_init_68 : tq_D cX12_init 68 (.aload_n 0) 1 69 := ⟨by decide +kernel, rfl⟩
theorem rX12_init_69 : tq_D cX12_init 69 (.iconst 2) 1 70 := ⟨by decide +kernel, rfl⟩
theorem rX12_init_70 : tq_D cX12_init 70 (.newarray .int) 2 72 := ⟨by decide +kernel, rfl⟩
theorem rX12_init_72 : tq_D cX12_init 72 (.putfield 35) 3 75 := ⟨by decide +kernel, rfl⟩
theorem rX12_init_75 : tq_D cX12_init 75 (.aload_n 0) 1 76 := ⟨by decide +kernel, rfl⟩
theorem rX12_init_76 : tq_D cX12_init 76 (.iconst 2) 1 77 := ⟨by decide +kernel, rfl⟩
theorem rX12_init_77 : tq_D cX12_init 77 (.newarray .int) 2 79 := ⟨by decide +kernel, rfl⟩
theorem rX12_init_79 : tq_D cX12_init 79 (.putfield 38) 3 82 := ⟨by decide +kernel, rfl⟩
theorem rX12_init_82 : tq_D cX12_init 82 (.aload_n 0) 1 83 := ⟨by decide +kernel, rfl⟩
theorem rX12_init_83 : tq_D cX12_init 83 (.iconst 3) 1 84 := ⟨by decide +kernel, rfl⟩
theorem rX12_init_84 : tq_D cX12_init 84 (.newarray .int) 2 86 := ⟨by decide +kernel, rfl⟩
theorem rX12_init_86 : tq_D cX12_init 86 (.putfield 41) 3 89 := ⟨by decide +kernel, rfl⟩
theorem rX12_init_89 : tq_D cX12_init 89 (.aload_n 0) 1 90 := ⟨by decide +kernel, rfl⟩
theorem rX12_init_90 : tq_D cX12_init 90 (.iconst 3) 1 91 := ⟨by decide +kernel, rfl⟩
theorem rX12_init_91 : tq_D cX12_init 91 (.newarray .int) 2 93 := ⟨by decide +kernel, rfl⟩
theorem rX12_init_93 : tq_D cX12_init 93 (.putfield 44) 3 96 := ⟨by decide +kernel, rfl⟩
theorem rX12_init_96 : tq_D cX12_init 96 (.aload_n 0) 1 97 := ⟨by decide +kernel, rfl⟩
theorem rX12_init_97 : tq_D cX12_init 97 (.iconst 4) 1 98 := ⟨by decide +kernel, rfl⟩
theorem rX12_init_98 : tq_D cX12_init 98 (.newarray .long) 2 100 := ⟨by decide +kernel, rfl⟩
theorem rX12_init_100 : tq_D cX12_init 100 (.putfield 47) 3 103 := ⟨by decide +kernel, rfl⟩
theorem rX12_init_103 : tq_D cX12_init 103 (.aload_n 0) 1 104 := ⟨by decide +kernel, rfl⟩
theorem rX12_init_104 : tq_D cX12_init 104 (.iconst 2) 1 105 := ⟨by decide +kernel, rfl⟩
theorem rX12_init_105 : tq_D cX12_init 105 (.newarray .int) 2 107 := ⟨by decide +kernel, rfl⟩
theorem rX12_init_107 : tq_D cX12_init 107 (.putfield 51) 3 110 := ⟨by decide +kernel, rfl⟩
theorem rX12_init_110 : tq_D cX12_init 110 (.aload_n 0) 1 111 := ⟨by decide +kernel, rfl⟩
theorem rX12_init_111 : tq_D cX12_init 111 (.bipush 10) 2 113 := ⟨by decide +kernel, rfl⟩
theorem rX12_init_113 : tq_D cX12_init 113 (.newarray .int) 2 115 := ⟨by decide +kernel, rfl⟩
theorem rX12_init_115 : tq_D cX12_init 115 (.putfield 54) 3 118 := ⟨by decide +kernel, rfl⟩
theorem rX12_init_118 : tq_D cX12_init 118 (.aload_n 0) 1 119 := ⟨by decide +kernel, rfl⟩
theorem rX12_init_119 : tq_D cX12_init 119 (.sipush 256) 3 122 := ⟨by decide +kernel, rfl⟩
theorem rX12_init_122 : tq_D cX12_init 122 (.newarray .int) 2 124 := ⟨by decide +kernel, rfl⟩
theorem rX12_init_124 : tq_D cX12_init 124 (.putfield 57) 3 127 := ⟨by decide +kernel, rfl⟩
theorem rX12_init_127 : tq_D cX12_init 127 (.aload_n 0) 1 128 := ⟨by decide +kernel, rfl⟩
theorem rX12_init_128 : tq_D cX12_init 128 (.sipush 256) 3 131 := ⟨by decide +kernel, rfl⟩
theorem rX12_init_131 : tq_D cX12_init 131 (.newarray .int) 2 133 := ⟨by decide +kernel, rfl⟩
theorem rX12_init_133 : tq_D cX12_init 133 (.putfield 60) 3 136 := ⟨by decide +kernel, rfl⟩
theorem rX12_init_136 : tq_D cX12_init 136 (.aload_n 0) 1 137 := ⟨by decide +kernel, rfl⟩
theorem rX12_init_137 : tq_D cX12_init 137 (.getfield 7) 3 140 := ⟨by decide +kernel, rfl⟩
theorem rX12_init_140 : tq_D cX12_init 140 (.bipush 6) 2 142 := ⟨by decide +kernel, rfl⟩
theorem rX12_init_142 : tq_D cX12_init 142 (.iconst (-1)) 1 143 := ⟨by decide +kernel, rfl⟩
theorem rX12_init_143 : tq_D cX12_init 143 (.iastore) 1 144 := ⟨by decide +kernel, rfl⟩
theorem rX12_init_144 : decode cX12_init 144 = .ok (.return_, 1) := by decide +kernel
theorem rX1_init_0 : tq_D cX1_init 0 (.aload_n 0) 1 1 := ⟨by decide +kernel, rfl⟩
theorem rX1_init_1 : tq_D cX1_init 1 (.invokespecial 3) 3 4 := ⟨by decide +kernel, rfl⟩
theorem rX1_init_4 : tq_D cX1_init 4 (.aload_n 0) 1 5 := ⟨by decide +kernel, rfl⟩
theorem rX1_init_5 : tq_D cX1_init 5 (.bipush 8) 2 7 := ⟨by decide +kernel, rfl⟩
theorem rX1_init_7 : tq_D cX1_init 7 (.newarray .int) 2 9 := ⟨by decide +kernel, rfl⟩
theorem rX1_init_9 : tq_D cX1_init 9 (.putfield 9) 3 12 := ⟨by decide +kernel, rfl⟩
theorem rX1_init_12 : tq_D cX1_init 12 (.aload_n 0) 1 13 := ⟨by decide +kernel, rfl⟩
theorem rX1_init_13 : tq_D cX1_init 13 (.iconst 0) 1 14 := ⟨by decide +kernel, rfl⟩
theorem rX1_init_14 : tq_D cX1_init 14 (.putfield 15) 3 17 := ⟨by decide +kernel, rfl⟩
theorem rX1_init_17 : decode cX1_init 17 = .ok (.return_, 1) := by decide +kernel
theorem rX2_init_0 : tq_D cX2_init 0 (.aload_n 0) 1 1 := ⟨by decide +kernel, rfl⟩
theorem rX2_init_1 : tq_D cX2_init 1 (.invokespecial 3) 3 4 := ⟨by decide +kernel, rfl⟩
theorem rX2_init_4 : tq_D cX2_init 4 (.aload_n 0) 1 5 := ⟨by decide +kernel, rfl⟩
theorem rX2_init_5 : tq_D cX2_init 5 (.bipush 10) 2 7 := ⟨by decide +kernel, rfl⟩
theorem rX2_init_7 : tq_D cX2_init 7 (.newarray .long) 2 9 := ⟨by decide +kernel, rfl⟩
theorem rX2_init_9 : tq_D cX2_init 9 (.putfield 9) 3 12 := ⟨by decide +kernel, rfl⟩
theorem rX2_init_12 : tq_D cX2_init 12 (.aload_n 0) 1 13 := ⟨by decide +kernel, rfl⟩
theorem rX2_init_13 : tq_D cX2_init 13 (.bipush 10) 2 15 := ⟨by decide +kernel, rfl⟩
theorem rX2_init_15 : tq_D cX2_init 15 (.newarray .int) 2 17 := ⟨by decide +kernel, rfl⟩
theorem rX2_init_17 : tq_D cX2_init 17 (.putfield 15) 3 20 := ⟨by decide +kernel, rfl⟩
theorem rX2_init_20 : decode cX2_init 20 = .ok (.return_, 1) := by decide +kernel
theorem rX3_init_0 : tq_D cX3_init 0 (.aload_n 0) 1 1 := ⟨by decide +kernel, rfl⟩
theorem rX3_init_1 : tq_D cX3_init 1 (.invokespecial 3) 3 4 := ⟨by decide +kernel, rfl⟩
theorem rX3_init_4 : tq_D cX3_init 4 (.aload_n 0) 1 5 := ⟨by decide +kernel, rfl⟩
theorem rX3_init_5 : tq_D cX3_init 5 (.iconst 0) 1 6 := ⟨by decide +kernel, rfl⟩
theorem rX3_init_6 : tq_D cX3_init 6 (.putfield 9) 3 9 := ⟨by decide +kernel, rfl⟩
theorem rX3_init_9 : tq_D cX3_init 9 (.aload_n 0) 1 10 := ⟨by decide +kernel, rfl⟩
theorem rX3_init_10 : tq_D cX3_init 10 (.iconst 0) 1 11 := ⟨by decide +kernel, rfl⟩
theorem rX3_init_11 : tq_D cX3_init 11 (.putfield 15) 3 14 := ⟨by decide +kernel, rfl⟩
theorem rX3_init_14 : tq_D cX3_init 14 (.aload_n 0) 1 15 := ⟨by decide +kernel, rfl⟩
theorem rX3_init_15 : tq_D cX3_init 15 (.lconst 0) 1 16 := ⟨by decide +kernel, rfl⟩
theorem rX3_init_16 : tq_D cX3_init 16 (.putfield 18) 3 19 := ⟨by decide +kernel, rfl⟩
theorem rX3_init_19 : tq_D cX3_init 19 (.aload_n 0) 1 20 := ⟨by decide +kernel, rfl⟩
theorem rX3_init_20 : tq_D cX3_init 20 (.lconst 0) 1 21 := ⟨by decide +kernel, rfl⟩
theorem rX3_init_21 : tq_D cX3_init 21 (.putfield 22) 3 24 := ⟨by decide +kernel, rfl⟩
theorem rX3_init_24 : tq_D cX3_init 24 (.aload_n 0) 1 25 := ⟨by decide +kernel, rfl⟩
theorem rX3_init_25 : tq_D cX3_init 25 (.lconst 0) 1 26 := ⟨by decide +kernel, rfl⟩
theorem rX3_init_26 : tq_D cX3_init 26 (.putfield 25) 3 29 := ⟨by decide +kernel, rfl⟩
theorem rX3_init_29 : tq_D cX3_init 29 (.aload_n 0) 1 30 := ⟨by decide +kernel, rfl⟩
theorem rX3_init_30 : tq_D cX3_init 30 (.lconst 0) 1 31 := ⟨by decide +kernel, rfl⟩
theorem rX3_init_31 : tq_D cX3_init 31 (.putfield 28) 3 34 := ⟨by decide +kernel, rfl⟩
theorem rX3_init_34 : tq_D cX3_init 34 (.aload_n 0) 1 35 := ⟨by decide +kernel, rfl⟩
theorem rX3_init_35 : tq_D cX3_init 35 (.lconst 0) 1 36 := ⟨by decide +kernel, rfl⟩
theorem rX3_init_36 : tq_D cX3_init 36 (.putfield 31) 3 39 := ⟨by decide +kernel, rfl⟩
theorem rX3_init_39 : tq_D cX3_init 39 (.aload_n 0) 1 40 := ⟨by decide +kernel, rfl⟩
theorem rX3_init_40 : tq_D cX3_init 40 (.lconst 0) 1 41 := ⟨by decide +kernel, rfl⟩
theorem rX3_init_41 : tq_D cX3_init 41 (.putfield 34) 3 44 := ⟨by decide +kernel, rfl⟩
theorem rX3_init_44 : tq_D cX3_init 44 (.aload_n 0) 1 45 := ⟨by decide +kernel, rfl⟩
theorem rX3_init_45 : tq_D cX3_init 45 (.lconst 0) 1 46 := ⟨by decide +kernel, rfl⟩
theorem rX3_init_46 : tq_D cX3_init 46 (.putfield 37) 3 49 := ⟨by decide +kernel, rfl⟩
theorem rX3_init_49 : tq_D cX3_init 49 (.aload_n 0) 1 50 := ⟨by decide +kernel, rfl⟩
theorem rX3_init_50 : tq_D cX3_init 50 (.lconst 0) 1 51 := ⟨by decide +kernel, rfl⟩
theorem rX3_init_51 : tq_D cX3_init 51 (.putfield 40) 3 54 := ⟨by decide +kernel, rfl⟩
theorem rX3_init_54 : decode cX3_init 54 = .ok (.return_, 1) := by decide +kernel
theorem rX4_init_0 : tq_D cX4_init 0 (.aload_n 0) 1 1 := ⟨by decide +kernel, rfl⟩
theorem rX4_init_1 : tq_D cX4_init 1 (.invokespecial 3) 3 4 := ⟨by decide +kernel, rfl⟩
theorem rX4_init_4 : tq_D cX4_init 4 (.aload_n 0) 1 5 := ⟨by decide +kernel, rfl⟩
theorem rX4_init_5 : tq_D cX4_init 5 (.iconst 0) 1 6 := ⟨by decide +kernel, rfl⟩
theorem rX4_init_6 : tq_D cX4_init 6 (.putfield 9) 3 9 := ⟨by decide +kernel, rfl⟩
theorem rX4_init_9 : tq_D cX4_init 9 (.aload_n 0) 1 10 := ⟨by decide +kernel, rfl⟩
theorem rX4_init_10 : tq_D cX4_init 10 (.bipush 8) 2 12 := ⟨by decide +kernel, rfl⟩
theorem rX4_init_12 : tq_D cX4_init 12 (.newarray .int) 2 14 := ⟨by decide +kernel, rfl⟩
theorem rX4_init_14 : tq_D cX4_init 14 (.putfield 15) 3 17 := ⟨by decide +kernel, rfl⟩
theorem rX4_init_17 : tq_D cX4_init 17 (.aload_n 0) 1 18 := ⟨by decide +kernel, rfl⟩
theorem rX4_init_18 : tq_D cX4_init 18 (.bipush 8) 2 20 := ⟨by decide +kernel, rfl⟩
theorem rX4_init_20 : tq_D cX4_init 20 (.newarray .int) 2 22 := ⟨by decide +kernel, rfl⟩
theorem rX4_init_22 : tq_D cX4_init 22 (.putfield 19) 3 25 := ⟨by decide +kernel, rfl⟩
theorem rX4_init_25 : decode cX4_init 25 = .ok (.return_, 1) := by decide +kernel
theorem rX5_init_0 : tq_D cX5_init 0 (.aload_n 0) 1 1 := ⟨by decide +kernel, rfl⟩
theorem rX5_init_1 : tq_D cX5_init 1 (.invokespecial 3) 3 4 := ⟨by decide +kernel, rfl⟩
theorem rX5_init_4 : tq_D cX5_init 4 (.aload_n 0) 1 5 := ⟨by decide +kernel, rfl⟩
theorem rX5_init_5 : tq_D cX5_init 5 (.iconst 3) 1 6 := ⟨by decide +kernel, rfl⟩
theorem rX5_init_6 : tq_D cX5_init 6 (.newarray .long) 2 8 := ⟨by decide +kernel, rfl⟩
theorem rX5_init_8 : tq_D cX5_init 8 (.putfield 9) 3 11 := ⟨by decide +kernel, rfl⟩
theorem rX5_init_11 : tq_D cX5_init 11 (.aload_n 0) 1 12 := ⟨by decide +kernel, rfl⟩
theorem rX5_init_12 : tq_D cX5_init 12 (.iconst 3) 1 13 := ⟨by decide +kernel, rfl⟩
theorem rX5_init_13 : tq_D cX5_init 13 (.newarray .int) 2 15 := ⟨by decide +kernel, rfl⟩
theorem rX5_init_15 : tq_D cX5_init 15 (.putfield 15) 3 18 := ⟨by decide +kernel, rfl⟩
theorem rX5_init_18 : tq_D cX5_init 18 (.aload_n 0) 1 19 := ⟨by decide +kernel, rfl⟩
theorem rX5_init_19 : tq_D cX5_init 19 (.iconst 0) 1 20 := ⟨by decide +kernel, rfl⟩
theorem rX5_init_20 : tq_D cX5_init 20 (.putfield 19) 3 23 := ⟨by decide +kernel, rfl⟩
theorem rX5_init_23 : tq_D cX5_init 23 (.aload_n 0) 1 24 := ⟨by decide +kernel, rfl⟩
theorem rX5_init_24 : tq_D cX5_init 24 (.iconst 0) 1 25 := ⟨by decide +kernel, rfl⟩
theorem rX5_init_25 : tq_D cX5_init 25 (.putfield 23) 3 28 := ⟨by decide +kernel, rfl⟩
theorem rX5_init_28 : tq_D cX5_init 28 (.aload_n 0) 1 29 := ⟨by decide +kernel, rfl⟩
theorem rX5_init_29 : tq_D cX5_init 29 (.iconst 0) 1 30 := ⟨by decide +kernel, rfl⟩
theorem rX5_init_30 : tq_D cX5_init 30 (.putfield 26) 3 33 := ⟨by decide +kernel, rfl⟩
theorem rX5_init_33 : tq_D cX5_init 33 (.aload_n 0) 1 34 := ⟨by decide +kernel, rfl⟩
theorem rX5_init_34 : tq_D cX5_init 34 (.iconst 0) 1 35 := ⟨by decide +kernel, rfl⟩
theorem rX5_init_35 : tq_D cX5_init 35 (.putfield 29) 3 38 := ⟨by decide +kernel, rfl⟩
theorem rX5_init_38 : tq_D cX5_init 38 (.aload_n 0) 1 39 := ⟨by decide +kernel, rfl⟩
theorem rX5_init_39 : tq_D cX5_init 39 (.iconst 0) 1 40 := ⟨by decide +kernel, rfl⟩
theorem rX5_init_40 : tq_D cX5_init 40 (.putfield 32) 3 43 := ⟨by decide +kernel, rfl⟩
theorem rX5_init_43 : tq_D cX5_init 43 (.aload_n 0) 1 44 := ⟨by decide +kernel, rfl⟩
theorem rX5_init_44 : tq_D cX5_init 44 (.iconst 0) 1 45 := ⟨by decide +kernel, rfl⟩
theorem rX5_init_45 : tq_D cX5_init 45 (.putfield 35) 3 48 := ⟨by decide +kernel, rfl⟩
theorem rX5_init_48 : tq_D cX5_init 48 (.aload_n 0) 1 49 := ⟨by decide +kernel, rfl⟩
theorem rX5_init_49 : tq_D cX5_init 49 (.lconst 0) 1 50 := ⟨by decide +kernel, rfl⟩
theorem rX5_init_50 : tq_D cX5_init 50 (.putfield 38) 3 53 := ⟨by decide +kernel, rfl⟩
theorem rX5_init_53 : decode cX5_init 53 = .ok (.return_, 1) := by decide +kernel
theorem rX6_init_0 : tq_D cX6_init 0 (.aload_n 0) 1 1 := ⟨by decide +kernel, rfl⟩
theorem rX6_init_1 : tq_D cX6_init 1 (.invokespecial 3) 3 4 := ⟨by decide +kernel, rfl⟩
theorem rX6_init_4 : tq_D cX6_init 4 (.aload_n 0) 1 5 := ⟨by decide +kernel, rfl⟩
theorem rX6_init_5 : tq_D cX6_init 5 (.lconst 0) 1 6 := ⟨by decide +kernel, rfl⟩
theorem rX6_init_6 : tq_D cX6_init 6 (.putfield 9) 3 9 := ⟨by decide +kernel, rfl⟩
theorem rX6_init_9 : tq_D cX6_init 9 (.aload_n 0) 1 10 := ⟨by decide +kernel, rfl⟩
theorem rX6_init_10 : tq_D cX6_init 10 (.iconst (-1)) 1 11 := ⟨by decide +kernel, rfl⟩
theorem rX6_init_11 : tq_D cX6_init 11 (.putfield 15) 3 14 := ⟨by decide +kernel, rfl⟩
theorem rX6_init_14 : decode cX6_init 14 = .ok (.return_, 1) := by decide +kernel
theorem rX7_init_0 : tq_D cX7_init 0 (.aload_n 0) 1 1 := ⟨by decide +kernel, rfl⟩
theorem rX7_init_1 : tq_D cX7_init 1 (.invokespecial 3) 3 4 := ⟨by decide +kernel, rfl⟩
theorem rX7_init_4 : tq_D cX7_init 4 (.aload_n 0) 1 5 := ⟨by decide +kernel, rfl⟩
theorem rX7_init_5 : tq_D cX7_init 5 (.sipush 600) 3 8 := ⟨by decide +kernel, rfl⟩
theorem rX7_init_8 : tq_D cX7_init 8 (.newarray .byte) 2 10 := ⟨by decide +kernel, rfl⟩
theorem rX7_init_10 : tq_D cX7_init 10 (.putfield 9) 3 13 := ⟨by decide +kernel, rfl⟩
theorem rX7_init_13 : tq_D cX7_init 13 (.aload_n 0) 1 14 := ⟨by decide +kernel, rfl⟩
theorem rX7_init_14 : tq_D cX7_init 14 (.new 15) 3 17 := ⟨by decide +kernel, rfl⟩
theorem rX7_init_17 : tq_D cX7_init 17 (.dup) 1 18 := ⟨by decide +kernel, rfl⟩
theorem rX7_init_18 : tq_D cX7_init 18 (.invokespecial 17) 3 21 := ⟨by decide +kernel, rfl⟩
theorem rX7_init_21 : tq_D cX7_init 21 (.putfield 18) 3 24 := ⟨by decide +kernel, rfl⟩
theorem rX7_init_24 : tq_D cX7_init 24 (.aload_n 0) 1 25 := ⟨by decide +kernel, rfl⟩
theorem rX7_init_25 : tq_D cX7_init 25 (.new 22) 3 28 := ⟨by decide +kernel, rfl⟩
theorem rX7_init_28 : tq_D cX7_init 28 (.dup) 1 29 := ⟨by decide +kernel, rfl⟩
theorem rX7_init_29 : tq_D cX7_init 29 (.invokespecial 24) 3 32 := ⟨by decide +kernel, rfl⟩
theorem rX7_init_32 : tq_D cX7_init 32 (.putfield 25) 3 35 := ⟨by decide +kernel, rfl⟩
theorem rX7_init_35 : tq_D cX7_init 35 (.aload_n 0) 1 36 := ⟨by decide +kernel, rfl⟩
theorem rX7_init_36 : tq_D cX7_init 36 (.new 29) 3 39 := ⟨by decide +kernel, rfl⟩
theorem rX7_init_39 : tq_D cX7_init 39 (.dup) 1 40 := ⟨by decide +kernel, rfl⟩
theorem rX7_init_40 : tq_D cX7_init 40 (.invokespecial 31) 3 43 := ⟨by decide +kernel, rfl⟩
theorem rX7_init_43 : tq_D cX7_init 43 (.putfield 32) 3 46 := ⟨by decide +kernel, rfl⟩
theorem rX7_init_46 : tq_D cX7_init 46 (.aload_n 0) 1 47 := ⟨by decide +kernel, rfl⟩
theorem rX7_init_47 : tq_D cX7_init 47 (.new 36) 3 50 := ⟨by decide +kernel, rfl⟩
theorem rX7_init_50 : tq_D cX7_init 50 (.dup) 1 51 := ⟨by decide +kernel, rfl⟩
theorem rX7_init_51 : tq_D cX7_init 51 (.invokespecial 38) 3 54 := ⟨by decide +kernel, rfl⟩
theorem rX7_init_54 : tq_D cX7_init 54 (.putfield 39) 3 57 := ⟨by decide +kernel, rfl⟩
theorem rX7_init_57 : tq_D cX7_init 57 (.aload_n 0) 1 58 := ⟨by decide +kernel, rfl⟩
theorem rX7_init_58 : tq_D cX7_init 58 (.iconst 3) 1 59 := ⟨by decide +kernel, rfl⟩
theorem rX7_init_59 : tq_D cX7_init 59 (.newarray .int) 2 61 := ⟨by decide +kernel, rfl⟩
theorem rX7_init_61 : tq_D cX7_init 61 (.putfield 43) 3 64 := ⟨by decide +kernel, rfl⟩
theorem rX7_init_64 : tq_D cX7_init 64 (.aload_n 0) 1 65 := ⟨by decide +kernel, rfl⟩
theorem rX7_init_65 : tq_D cX7_init 65 (.lconst 0) 1 66 := ⟨by decide +kernel, rfl⟩
theorem rX7_init_66 : tq_D cX7_init 66 (.putfield 47) 3 69 := ⟨by decide +kernel, rfl⟩
theorem rX7_init_69 : tq_D cX7_init 69 (.aload_n 0) 1 70 := ⟨by decide +kernel, rfl⟩
theorem rX7_init_70 : tq_D cX7_init 70 (.iconst 0) 1 71 := ⟨by decide +kernel, rfl⟩
theorem rX7_init_71 : tq_D cX7_init 71 (.putfield 51) 3 74 := ⟨by decide +kernel, rfl⟩
theorem rX7_init_74 : tq_D cX7_init 74 (.aload_n 0) 1 75 := ⟨by decide +kernel, rfl⟩
theorem rX7_init_75 : tq_D cX7_init 75 (.iconst 0) 1 76 := ⟨by decide +kernel, rfl⟩
theorem rX7_init_76 : tq_D cX7_init 76 (.putfield 55) 3 79 := ⟨by decide +kernel, rfl⟩
theorem rX7_init_79 : tq_D cX7_init 79 (.aload_n 0) 1 80 := ⟨by decide +kernel, rfl⟩
theorem rX7_init_80 : tq_D cX7_init 80 (.iconst 0) 1 81 := ⟨by decide +kernel, rfl⟩
theorem rX7_init_81 : tq_D cX7_init 81 (.putfield 58) 3 84 := ⟨by decide +kernel, rfl⟩
theorem rX7_init_84 : tq_D cX7_init 84 (.aload_n 0) 1 85 := ⟨by decide +kernel, rfl⟩
theorem rX7_init_85 : tq_D cX7_init 85 (.iconst 0) 1 86 := ⟨by decide +kernel, rfl⟩
theorem rX7_init_86 : tq_D cX7_init 86 (.putfield 61) 3 89 := ⟨by decide +kernel, rfl⟩
theorem rX7_init_89 : tq_D cX7_init 89 (.aload_n 0) 1 90 := ⟨by decide +kernel, rfl⟩
theorem rX7_init_90 : tq_D cX7_init 90 (.iconst 0) 1 91 := ⟨by decide +kernel, rfl⟩
theorem rX7_init_91 : tq_D cX7_init 91 (.putfield 64) 3 94 := ⟨by decide +kernel, rfl⟩
theorem rX7_init_94 : tq_D cX7_init 94 (.aload_n 0) 1 95 := ⟨by decide +kernel, rfl⟩
theorem rX7_init_95 : tq_D cX7_init 95 (.iconst (-1)) 1 96 := ⟨by decide +kernel, rfl⟩
theorem rX7_init_96 : tq_D cX7_init 96 (.putfield 67) 3 99 := ⟨by decide +kernel, rfl⟩
theorem rX7_init_99 : decode cX7_init 99 = .ok (.return_, 1) := by decide +kernel
theorem rX8_init_0 : tq_D cX8_init 0 (.aload_n 0) 1 1 := ⟨by decide +kernel, rfl⟩
theorem rX8_init_1 : tq_D cX8_init 1 (.invokespecial 3) 3 4 := ⟨by decide +kernel, rfl⟩
theorem rX8_init_4 : tq_D cX8_init 4 (.aload_n 0) 1 5 := ⟨by decide +kernel, rfl⟩
theorem rX8_init_5 : tq_D cX8_init 5 (.new 9) 3 8 := ⟨by decide +kernel, rfl⟩
theorem rX8_init_8 : tq_D cX8_init 8 (.dup) 1 9 := ⟨by decide +kernel, rfl⟩
theorem rX8_init_9 : tq_D cX8_init 9 (.invokespecial 11) 3 12 := ⟨by decide +kernel, rfl⟩
theorem rX8_init_12 : tq_D cX8_init 12 (.putfield 12) 3 15 := ⟨by decide +kernel, rfl⟩
theorem rX8_init_15 : tq_D cX8_init 15 (.aload_n 0) 1 16 := ⟨by decide +kernel, rfl⟩
theorem rX8_init_16 : tq_D cX8_init 16 (.iconst 0) 1 17 := ⟨by decide +kernel, rfl⟩
theorem rX8_init_17 : tq_D cX8_init 17 (.putfield 18) 3 20 := ⟨by decide +kernel, rfl⟩
theorem rX8_init_20 : tq_D cX8_init 20 (.aload_n 0) 1 21 := ⟨by decide +kernel, rfl⟩
theorem rX8_init_21 : tq_D cX8_init 21 (.iconst 0) 1 22 := ⟨by decide +kernel, rfl⟩
theorem rX8_init_22 : tq_D cX8_init 22 (.putfield 22) 3 25 := ⟨by decide +kernel, rfl⟩
theorem rX8_init_25 : tq_D cX8_init 25 (.aload_n 0) 1 26 := ⟨by decide +kernel, rfl⟩
theorem rX8_init_26 : tq_D cX8_init 26 (.iconst 0) 1 27 := ⟨by decide +kernel, rfl⟩
theorem rX8_init_27 : tq_D cX8_init 27 (.putfield 25) 3 30 := ⟨by decide +kernel, rfl⟩
theorem rX8_init_30 : tq_D cX8_init 30 (.aload_n 0) 1 31 := ⟨by decide +kernel, rfl⟩
theorem rX8_init_31 : tq_D cX8_init 31 (.iconst 0) 1 32 := ⟨by decide +kernel, rfl⟩
theorem rX8_init_32 : tq_D cX8_init 32 (.putfield 28) 3 35 := ⟨by decide +kernel, rfl⟩
theorem rX8_init_35 : tq_D cX8_init 35 (.aload_n 0) 1 36 := ⟨by decide +kernel, rfl⟩
theorem rX8_init_36 : tq_D cX8_init 36 (.iconst 0) 1 37 := ⟨by decide +kernel, rfl⟩
theorem rX8_init_37 : tq_D cX8_init 37 (.putfield 31) 3 40 := ⟨by decide +kernel, rfl⟩
theorem rX8_init_40 : tq_D cX8_init 40 (.aload_n 0) 1 41 := ⟨by decide +kernel, rfl⟩
theorem rX8_init_41 : tq_D cX8_init 41 (.iconst 0) 1 42 := ⟨by decide +kernel, rfl⟩
theorem rX8_init_42 : tq_D cX8_init 42 (.putfield 34) 3 45 := ⟨by decide +kernel, rfl⟩
theorem rX8_init_45 : tq_D cX8_init 45 (.aload_n 0) 1 46 := ⟨by decide +kernel, rfl⟩
theorem rX8_init_46 : tq_D cX8_init 46 (.iconst (-1)) 1 47 := ⟨by decide +kernel, rfl⟩
theorem rX8_init_47 : tq_D cX8_init 47 (.putfield 37) 3 50 := ⟨by decide +kernel, rfl⟩
theorem rX8_init_50 : tq_D cX8_init 50 (.aload_n 0) 1 51 := ⟨by decide +kernel, rfl⟩
theorem rX8_init_51 : tq_D cX8_init 51 (.iconst (-1)) 1 52 := ⟨by decide +kernel, rfl⟩
theorem rX8_init_52 : tq_D cX8_init 52 (.putfield 40) 3 55 := ⟨by decide +kernel, rfl⟩
theorem rX8_init_55 : tq_D cX8_init 55 (.aload_n 0) 1 56 := ⟨by decide +kernel, rfl⟩
theorem rX8_init_56 : tq_D cX8_init 56 (.iconst 0) 1 57 := ⟨by decide +kernel, rfl⟩
theorem rX8_init_57 : tq_D cX8_init 57 (.putfield 43) 3 60 := ⟨by decide +kernel, rfl⟩
theorem rX8_init_60 : tq_D cX8_init 60 (.aload_n 0) 1 61 := ⟨by decide +kernel, rfl⟩
theorem rX8_init_61 : tq_D cX8_init 61 (.iconst 0) 1 62 := ⟨by decide +kernel, rfl⟩
theorem rX8_init_62 : tq_D cX8_init 62 (.putfield 46) 3 65 := ⟨by decide +kernel, rfl⟩
theorem rX8_init_65 : decode cX8_init 65 = .ok (.return_, 1) := by decide +kernel
theorem rX9_init_0 : tq_D cX9_init 0 (.aload_n 0) 1 1 := ⟨by decide +kernel, rfl⟩
theorem rX9_init_1 : tq_D cX9_init 1 (.invokespecial 3) 3 4 := ⟨by decide +kernel, rfl⟩
theorem rX9_init_4 : tq_D cX9_init 4 (.aload_n 0) 1 5 := ⟨by decide +kernel, rfl⟩
theorem rX9_init_5 : tq_D cX9_init 5 (.iconst 0) 1 6 := ⟨by decide +kernel, rfl⟩
theorem rX9_init_6 : tq_D cX9_init 6 (.putfield 9) 3 9 := ⟨by decide +kernel, rfl⟩
theorem rX9_init_9 : tq_D cX9_init 9 (.aload_n 0) 1 10 := ⟨by decide +kernel, rfl⟩
theorem rX9_init_10 : tq_D cX9_init 10 (.bipush 8) 2 12 := ⟨by decide +kernel, rfl⟩
theorem rX9_init_12 : tq_D cX9_init 12 (.newarray .int) 2 14 := ⟨by decide +kernel, rfl⟩
theorem rX9_init_14 : tq_D cX9_init 14 (.putfield 15) 3 17 := ⟨by decide +kernel, rfl⟩
theorem rX9_init_17 : decode cX9_init 17 = .ok (.return_, 1) := by decide +kernel
def Z0 : tq_S := ((0, 0), (fun _ => 99, fun _ => 0, fun _ _ => none), fun _ _ => 0, fun _ _ => 0)
def Z1 : tq_S := tq_add Z0 11 0 10
def Z2 : tq_S := tq_add Z1 0 0 9
def Z3 : tq_S := tq_add Z2 102 600 600
def Z4 : tq_S := tq_sR Z3 1 0 2
def Z5 : tq_S := tq_sI Z4 1 1 (0)
def Z6 : tq_S := tq_sI Z5 1 2 (0)
def Z7 : tq_S := tq_sI Z6 1 3 (-1)
def Z8 : tq_S := tq_add Z7 100 4 4
def Z9 : tq_S := tq_sR Z8 1 4 3
def Z10 : tq_S := tq_add Z9 113 2 2
def Z11 : tq_S := tq_sR Z10 1 5 4
def Z12 : tq_S := tq_add Z11 120 2 2
def Z13 : tq_S := tq_sR Z12 1 6 5
def Z14 : tq_S := tq_add Z13 114 2 2
def Z15 : tq_S := tq_sR Z14 1 7 6
def Z16 : tq_S := tq_add Z15 119 2 2
def Z17 : tq_S := tq_sR Z16 1 8 7
def Z18 : tq_S := tq_add Z17 3 0 10
def Z19 : tq_S := tq_sI Z18 8 0 (0)
def Z20 : tq_S := tq_sI Z19 8 1 (0)
def Z21 : tq_S := tq_sL Z20 8 2 (0)
def Z22 : tq_S := tq_sL Z21 8 3 (0)
def Z23 : tq_S := tq_sL Z22 8 4 (0)
def Z24 : tq_S := tq_sL Z23 8 5 (0)
def Z25 : tq_S := tq_sL Z24 8 6 (0)
def Z26 : tq_S := tq_sL Z25 8 7 (0)
def Z27 : tq_S := tq_sL Z26 8 8 (0)
def Z28 : tq_S := tq_sL Z27 8 9 (0)
def Z29 : tq_S := tq_sR Z28 4 0 8
def Z30 : tq_S := tq_add Z29 10 0 4
def Z31 : tq_S := tq_sI Z30 9 0 (0)
def Z32 : tq_S := tq_add Z31 100 40 40
def Z33 : tq_S := tq_sR Z32 9 1 10
def Z34 : tq_S := tq_add Z33 100 40 40
def Z35 : tq_S := tq_sR Z34 9 2 11
def Z36 : tq_S := tq_add Z35 100 40 40
def Z37 : tq_S := tq_sR Z36 9 3 12
def Z38 : tq_S := tq_sR Z37 5 0 9
def Z39 : tq_S := tq_add Z38 4 0 3
def Z40 : tq_S := tq_sI Z39 13 0 (0)
def Z41 : tq_S := tq_add Z40 100 8 8
def Z42 : tq_S := tq_sR Z41 13 1 14
def Z43 : tq_S := tq_add Z42 100 8 8
def Z44 : tq_S := tq_sR Z43 13 2 15
def Z45 : tq_S := tq_sR Z44 6 0 13
def Z46 : tq_S := tq_add Z45 9 0 2
def Z47 : tq_S := tq_sI Z46 16 0 (0)
def Z48 : tq_S := tq_add Z47 100 8 8
def Z49 : tq_S := tq_sR Z48 16 1 17
def Z50 : tq_S := tq_sR Z49 7 0 16
def Z51 : tq_S := tq_add Z50 3 0 10
def Z52 : tq_S := tq_sI Z51 18 0 (0)
def Z53 : tq_S := tq_sI Z52 18 1 (0)
def Z54 : tq_S := tq_sL Z53 18 2 (0)
def Z55 : tq_S := tq_sL Z54 18 3 (0)
def Z56 : tq_S := tq_sL Z55 18 4 (0)
def Z57 : tq_S := tq_sL Z56 18 5 (0)
def Z58 : tq_S := tq_sL Z57 18 6 (0)
def Z59 : tq_S := tq_sL Z58 18 7 (0)
def Z60 : tq_S := tq_sL Z59 18 8 (0)
def Z61 : tq_S := tq_sL Z60 18 9 (0)
def Z62 : tq_S := tq_sR Z61 4 1 18
def Z63 : tq_S := tq_add Z62 10 0 4
def Z64 : tq_S := tq_sI Z63 19 0 (0)
def Z65 : tq_S := tq_add Z64 100 40 40
def Z66 : tq_S := tq_sR Z65 19 1 20
def Z67 : tq_S := tq_add Z66 100 40 40
def Z68 : tq_S := tq_sR Z67 19 2 21
def Z69 : tq_S := tq_add Z68 100 40 40
def Z70 : tq_S := tq_sR Z69 19 3 22
def Z71 : tq_S := tq_sR Z70 5 1 19
def Z72 : tq_S := tq_add Z71 4 0 3
def Z73 : tq_S := tq_sI Z72 23 0 (0)
def Z74 : tq_S := tq_add Z73 100 8 8
def Z75 : tq_S := tq_sR Z74 23 1 24
def Z76 : tq_S := tq_add Z75 100 8 8
def Z77 : tq_S := tq_sR Z76 23 2 25
def Z78 : tq_S := tq_sR Z77 6 1 23
def Z79 : tq_S := tq_add Z78 9 0 2
def Z80 : tq_S := tq_sI Z79 26 0 (0)
def Z81 : tq_S := tq_add Z80 100 8 8
def Z82 : tq_S := tq_sR Z81 26 1 27
def Z83 : tq_S := tq_sR Z82 7 1 26
def Z84 : tq_S := tq_sR Z83 0 0 1
def Z85 : tq_S := tq_add Z84 110 3 3
def Z86 : tq_S := tq_sR Z85 0 1 28
def Z87 : tq_S := tq_add Z86 103 3 3
def Z88 : tq_S := tq_sR Z87 0 2 29
def Z89 : tq_S := tq_add Z88 7 0 13
def Z90 : tq_S := tq_add Z89 102 600 600
def Z91 : tq_S := tq_sR Z90 30 0 31
def Z92 : tq_S := tq_add Z91 3 0 10
def Z93 : tq_S := tq_sI Z92 32 0 (0)
def Z94 : tq_S := tq_sI Z93 32 1 (0)
def Z95 : tq_S := tq_sL Z94 32 2 (0)
def Z96 : tq_S := tq_sL Z95 32 3 (0)
def Z97 : tq_S := tq_sL Z96 32 4 (0)
def Z98 : tq_S := tq_sL Z97 32 5 (0)
def Z99 : tq_S := tq_sL Z98 32 6 (0)
def Z100 : tq_S := tq_sL Z99 32 7 (0)
def Z101 : tq_S := tq_sL Z100 32 8 (0)
def Z102 : tq_S := tq_sL Z101 32 9 (0)
def Z103 : tq_S := tq_sR Z102 30 1 32
def Z104 : tq_S := tq_add Z103 10 0 4
def Z105 : tq_S := tq_sI Z104 33 0 (0)
def Z106 : tq_S := tq_add Z105 100 40 40
def Z107 : tq_S := tq_sR Z106 33 1 34
def Z108 : tq_S := tq_add Z107 100 40 40
def Z109 : tq_S := tq_sR Z108 33 2 35
def Z110 : tq_S := tq_add Z109 100 40 40
def Z111 : tq_S := tq_sR Z110 33 3 36
def Z112 : tq_S := tq_sR Z111 30 2 33
def Z113 : tq_S := tq_add Z112 4 0 3
def Z114 : tq_S := tq_sI Z113 37 0 (0)
def Z115 : tq_S := tq_add Z114 100 8 8
def Z116 : tq_S := tq_sR Z115 37 1 38
def Z117 : tq_S := tq_add Z116 100 8 8
def Z118 : tq_S := tq_sR Z117 37 2 39
def Z119 : tq_S := tq_sR Z118 30 3 37
def Z120 : tq_S := tq_add Z119 9 0 2
def Z121 : tq_S := tq_sI Z120 40 0 (0)
def Z122 : tq_S := tq_add Z121 100 8 8
def Z123 : tq_S := tq_sR Z122 40 1 41
def Z124 : tq_S := tq_sR Z123 30 4 40
def Z125 : tq_S := tq_add Z124 100 3 3
def Z126 : tq_S := tq_sR Z125 30 5 42
def Z127 : tq_S := tq_sL Z126 30 6 (0)
def Z128 : tq_S := tq_sI Z127 30 7 (0)
def Z129 : tq_S := tq_sI Z128 30 8 (0)
def Z130 : tq_S := tq_sI Z129 30 9 (0)
def Z131 : tq_S := tq_sI Z130 30 10 (0)
def Z132 : tq_S := tq_sI Z131 30 11 (0)
def Z133 : tq_S := tq_sI Z132 30 12 (-1)
def Z134 : tq_S := tq_sR Z133 0 3 30
def Z135 : tq_S := tq_add Z134 8 0 11
def Z136 : tq_S := tq_add Z135 3 0 10
def Z137 : tq_S := tq_sI Z136 44 0 (0)
def Z138 : tq_S := tq_sI Z137 44 1 (0)
def Z139 : tq_S := tq_sL Z138 44 2 (0)
def Z140 : tq_S := tq_sL Z139 44 3 (0)
def Z141 : tq_S := tq_sL Z140 44 4 (0)
def Z142 : tq_S := tq_sL Z141 44 5 (0)
def Z143 : tq_S := tq_sL Z142 44 6 (0)
def Z144 : tq_S := tq_sL Z143 44 7 (0)
def Z145 : tq_S := tq_sL Z144 44 8 (0)
def Z146 : tq_S := tq_sL Z145 44 9 (0)
def Z147 : tq_S := tq_sR Z146 43 0 44
def Z148 : tq_S := tq_sI Z147 43 1 (0)
def Z149 : tq_S := tq_sI Z148 43 2 (0)
def Z150 : tq_S := tq_sI Z149 43 3 (0)
def Z151 : tq_S := tq_sI Z150 43 4 (0)
def Z152 : tq_S := tq_sI Z151 43 5 (0)
def Z153 : tq_S := tq_sI Z152 43 6 (0)
def Z154 : tq_S := tq_sI Z153 43 7 (-1)
def Z155 : tq_S := tq_sI Z154 43 8 (-1)
def Z156 : tq_S := tq_sI Z155 43 9 (0)
def Z157 : tq_S := tq_sI Z156 43 10 (0)
def Z158 : tq_S := tq_sR Z157 0 4 43
def Z159 : tq_S := tq_add Z158 5 0 9
def Z160 : tq_S := tq_add Z159 101 3 3
def Z161 : tq_S := tq_sR Z160 45 0 46
def Z162 : tq_S := tq_add Z161 100 3 3
def Z163 : tq_S := tq_sR Z162 45 1 47
def Z164 : tq_S := tq_sI Z163 45 2 (0)
def Z165 : tq_S := tq_sI Z164 45 3 (0)
def Z166 : tq_S := tq_sI Z165 45 4 (0)
def Z167 : tq_S := tq_sI Z166 45 5 (0)
def Z168 : tq_S := tq_sI Z167 45 6 (0)
def Z169 : tq_S := tq_sI Z168 45 7 (0)
def Z170 : tq_S := tq_sL Z169 45 8 (0)
def Z171 : tq_S := tq_sR Z170 0 5 45
def Z172 : tq_S := tq_add Z171 6 0 2
def Z173 : tq_S := tq_sL Z172 48 0 (0)
def Z174 : tq_S := tq_sI Z173 48 1 (-1)
def Z175 : tq_S := tq_sR Z174 0 6 48
def Z176 : tq_S := tq_add Z175 2 0 2
def Z177 : tq_S := tq_add Z176 101 10 10
def Z178 : tq_S := tq_sR Z177 49 0 50
def Z179 : tq_S := tq_add Z178 100 10 10
def Z180 : tq_S := tq_sR Z179 49 1 51
def Z181 : tq_S := tq_sR Z180 0 7 49
def Z182 : tq_S := tq_add Z181 1 0 2
def Z183 : tq_S := tq_add Z182 100 8 8
def Z184 : tq_S := tq_sR Z183 52 0 53
def Z185 : tq_S := tq_sI Z184 52 1 (0)
def Z186 : tq_S := tq_sR Z185 0 8 52
def Z187 : tq_S := tq_add Z186 101 49 49
def Z188 : tq_S := tq_sR Z187 0 9 54
def Z189 : tq_S := tq_add Z188 0 0 9
def Z190 : tq_S := tq_add Z189 102 600 600
def Z191 : tq_S := tq_sR Z190 55 0 56
def Z192 : tq_S := tq_sI Z191 55 1 (0)
def Z193 : tq_S := tq_sI Z192 55 2 (0)
def Z194 : tq_S := tq_sI Z193 55 3 (-1)
def Z195 : tq_S := tq_add Z194 100 4 4
def Z196 : tq_S := tq_sR Z195 55 4 57
def Z197 : tq_S := tq_add Z196 113 2 2
def Z198 : tq_S := tq_sR Z197 55 5 58
def Z199 : tq_S := tq_add Z198 120 2 2
def Z200 : tq_S := tq_sR Z199 55 6 59
def Z201 : tq_S := tq_add Z200 114 2 2
def Z202 : tq_S := tq_sR Z201 55 7 60
def Z203 : tq_S := tq_add Z202 119 2 2
def Z204 : tq_S := tq_sR Z203 55 8 61
def Z205 : tq_S := tq_add Z204 3 0 10
def Z206 : tq_S := tq_sI Z205 62 0 (0)
def Z207 : tq_S := tq_sI Z206 62 1 (0)
def Z208 : tq_S := tq_sL Z207 62 2 (0)
def Z209 : tq_S := tq_sL Z208 62 3 (0)
def Z210 : tq_S := tq_sL Z209 62 4 (0)
def Z211 : tq_S := tq_sL Z210 62 5 (0)
def Z212 : tq_S := tq_sL Z211 62 6 (0)
def Z213 : tq_S := tq_sL Z212 62 7 (0)
def Z214 : tq_S := tq_sL Z213 62 8 (0)
def Z215 : tq_S := tq_sL Z214 62 9 (0)
def Z216 : tq_S := tq_sR Z215 58 0 62
def Z217 : tq_S := tq_add Z216 10 0 4
def Z218 : tq_S := tq_sI Z217 63 0 (0)
def Z219 : tq_S := tq_add Z218 100 40 40
def Z220 : tq_S := tq_sR Z219 63 1 64
def Z221 : tq_S := tq_add Z220 100 40 40
def Z222 : tq_S := tq_sR Z221 63 2 65
def Z223 : tq_S := tq_add Z222 100 40 40
def Z224 : tq_S := tq_sR Z223 63 3 66
def Z225 : tq_S := tq_sR Z224 59 0 63
def Z226 : tq_S := tq_add Z225 4 0 3
def Z227 : tq_S := tq_sI Z226 67 0 (0)
def Z228 : tq_S := tq_add Z227 100 8 8
def Z229 : tq_S := tq_sR Z228 67 1 68
def Z230 : tq_S := tq_add Z229 100 8 8
def Z231 : tq_S := tq_sR Z230 67 2 69
def Z232 : tq_S := tq_sR Z231 60 0 67
def Z233 : tq_S := tq_add Z232 9 0 2
def Z234 : tq_S := tq_sI Z233 70 0 (0)
def Z235 : tq_S := tq_add Z234 100 8 8
def Z236 : tq_S := tq_sR Z235 70 1 71
def Z237 : tq_S := tq_sR Z236 61 0 70
def Z238 : tq_S := tq_add Z237 3 0 10
def Z239 : tq_S := tq_sI Z238 72 0 (0)
def Z240 : tq_S := tq_sI Z239 72 1 (0)
def Z241 : tq_S := tq_sL Z240 72 2 (0)
def Z242 : tq_S := tq_sL Z241 72 3 (0)
def Z243 : tq_S := tq_sL Z242 72 4 (0)
def Z244 : tq_S := tq_sL Z243 72 5 (0)
def Z245 : tq_S := tq_sL Z244 72 6 (0)
def Z246 : tq_S := tq_sL Z245 72 7 (0)
def Z247 : tq_S := tq_sL Z246 72 8 (0)
def Z248 : tq_S := tq_sL Z247 72 9 (0)
def Z249 : tq_S := tq_sR Z248 58 1 72
def Z250 : tq_S := tq_add Z249 10 0 4
def Z251 : tq_S := tq_sI Z250 73 0 (0)
def Z252 : tq_S := tq_add Z251 100 40 40
def Z253 : tq_S := tq_sR Z252 73 1 74
def Z254 : tq_S := tq_add Z253 100 40 40
def Z255 : tq_S := tq_sR Z254 73 2 75
def Z256 : tq_S := tq_add Z255 100 40 40
def Z257 : tq_S := tq_sR Z256 73 3 76
def Z258 : tq_S := tq_sR Z257 59 1 73
def Z259 : tq_S := tq_add Z258 4 0 3
def Z260 : tq_S := tq_sI Z259 77 0 (0)
def Z261 : tq_S := tq_add Z260 100 8 8
def Z262 : tq_S := tq_sR Z261 77 1 78
def Z263 : tq_S := tq_add Z262 100 8 8
def Z264 : tq_S := tq_sR Z263 77 2 79
def Z265 : tq_S := tq_sR Z264 60 1 77
def Z266 : tq_S := tq_add Z265 9 0 2
def Z267 : tq_S := tq_sI Z266 80 0 (0)
def Z268 : tq_S := tq_add Z267 100 8 8
def Z269 : tq_S := tq_sR Z268 80 1 81
def Z270 : tq_S := tq_sR Z269 61 1 80
def Z271 : tq_S := tq_sR Z270 28 0 55
def Z272 : tq_S := tq_add Z271 0 0 9
def Z273 : tq_S := tq_add Z272 102 600 600
def Z274 : tq_S := tq_sR Z273 82 0 83
def Z275 : tq_S := tq_sI Z274 82 1 (0)
def Z276 : tq_S := tq_sI Z275 82 2 (0)
def Z277 : tq_S := tq_sI Z276 82 3 (-1)
def Z278 : tq_S := tq_add Z277 100 4 4
def Z279 : tq_S := tq_sR Z278 82 4 84
def Z280 : tq_S := tq_add Z279 113 2 2
def Z281 : tq_S := tq_sR Z280 82 5 85
def Z282 : tq_S := tq_add Z281 120 2 2
def Z283 : tq_S := tq_sR Z282 82 6 86
def Z284 : tq_S := tq_add Z283 114 2 2
def Z285 : tq_S := tq_sR Z284 82 7 87
def Z286 : tq_S := tq_add Z285 119 2 2
def Z287 : tq_S := tq_sR Z286 82 8 88
def Z288 : tq_S := tq_add Z287 3 0 10
def Z289 : tq_S := tq_sI Z288 89 0 (0)
def Z290 : tq_S := tq_sI Z289 89 1 (0)
def Z291 : tq_S := tq_sL Z290 89 2 (0)
def Z292 : tq_S := tq_sL Z291 89 3 (0)
def Z293 : tq_S := tq_sL Z292 89 4 (0)
def Z294 : tq_S := tq_sL Z293 89 5 (0)
def Z295 : tq_S := tq_sL Z294 89 6 (0)
def Z296 : tq_S := tq_sL Z295 89 7 (0)
def Z297 : tq_S := tq_sL Z296 89 8 (0)
def Z298 : tq_S := tq_sL Z297 89 9 (0)
def Z299 : tq_S := tq_sR Z298 85 0 89
def Z300 : tq_S := tq_add Z299 10 0 4
def Z301 : tq_S := tq_sI Z300 90 0 (0)
def Z302 : tq_S := tq_add Z301 100 40 40
def Z303 : tq_S := tq_sR Z302 90 1 91
def Z304 : tq_S := tq_add Z303 100 40 40
def Z305 : tq_S := tq_sR Z304 90 2 92
def Z306 : tq_S := tq_add Z305 100 40 40
def Z307 : tq_S := tq_sR Z306 90 3 93
def Z308 : tq_S := tq_sR Z307 86 0 90
def Z309 : tq_S := tq_add Z308 4 0 3
def Z310 : tq_S := tq_sI Z309 94 0 (0)
def Z311 : tq_S := tq_add Z310 100 8 8
def Z312 : tq_S := tq_sR Z311 94 1 95
def Z313 : tq_S := tq_add Z312 100 8 8
def Z314 : tq_S := tq_sR Z313 94 2 96
def Z315 : tq_S := tq_sR Z314 87 0 94
def Z316 : tq_S := tq_add Z315 9 0 2
def Z317 : tq_S := tq_sI Z316 97 0 (0)
def Z318 : tq_S := tq_add Z317 100 8 8
def Z319 : tq_S := tq_sR Z318 97 1 98
def Z320 : tq_S := tq_sR Z319 88 0 97
def Z321 : tq_S := tq_add Z320 3 0 10
def Z322 : tq_S := tq_sI Z321 99 0 (0)
def Z323 : tq_S := tq_sI Z322 99 1 (0)
def Z324 : tq_S := tq_sL Z323 99 2 (0)
def Z325 : tq_S := tq_sL Z324 99 3 (0)
def Z326 : tq_S := tq_sL Z325 99 4 (0)
def Z327 : tq_S := tq_sL Z326 99 5 (0)
def Z328 : tq_S := tq_sL Z327 99 6 (0)
def Z329 : tq_S := tq_sL Z328 99 7 (0)
def Z330 : tq_S := tq_sL Z329 99 8 (0)
def Z331 : tq_S := tq_sL Z330 99 9 (0)
def Z332 : tq_S := tq_sR Z331 85 1 99
def Z333 : tq_S := tq_add Z332 10 0 4
def Z334 : tq_S := tq_sI Z333 100 0 (0)
def Z335 : tq_S := tq_add Z334 100 40 40
def Z336 : tq_S := tq_sR Z335 100 1 101
def Z337 : tq_S := tq_add Z336 100 40 40
def Z338 : tq_S := tq_sR Z337 100 2 102
def Z339 : tq_S := tq_add Z338 100 40 40
def Z340 : tq_S := tq_sR Z339 100 3 103
def Z341 : tq_S := tq_sR Z340 86 1 100
def Z342 : tq_S := tq_add Z341 4 0 3
def Z343 : tq_S := tq_sI Z342 104 0 (0)
def Z344 : tq_S := tq_add Z343 100 8 8
def Z345 : tq_S := tq_sR Z344 104 1 105
def Z346 : tq_S := tq_add Z345 100 8 8
def Z347 : tq_S := tq_sR Z346 104 2 106
def Z348 : tq_S := tq_sR Z347 87 1 104
def Z349 : tq_S := tq_add Z348 9 0 2
def Z350 : tq_S := tq_sI Z349 107 0 (0)
def Z351 : tq_S := tq_add Z350 100 8 8
def Z352 : tq_S := tq_sR Z351 107 1 108
def Z353 : tq_S := tq_sR Z352 88 1 107
def Z354 : tq_S := tq_sR Z353 28 1 82
def Z355 : tq_S := tq_add Z354 0 0 9
def Z356 : tq_S := tq_add Z355 102 600 600
def Z357 : tq_S := tq_sR Z356 109 0 110
def Z358 : tq_S := tq_sI Z357 109 1 (0)
def Z359 : tq_S := tq_sI Z358 109 2 (0)
def Z360 : tq_S := tq_sI Z359 109 3 (-1)
def Z361 : tq_S := tq_add Z360 100 4 4
def Z362 : tq_S := tq_sR Z361 109 4 111
def Z363 : tq_S := tq_add Z362 113 2 2
def Z364 : tq_S := tq_sR Z363 109 5 112
def Z365 : tq_S := tq_add Z364 120 2 2
def Z366 : tq_S := tq_sR Z365 109 6 113
def Z367 : tq_S := tq_add Z366 114 2 2
def Z368 : tq_S := tq_sR Z367 109 7 114
def Z369 : tq_S := tq_add Z368 119 2 2
def Z370 : tq_S := tq_sR Z369 109 8 115
def Z371 : tq_S := tq_add Z370 3 0 10
def Z372 : tq_S := tq_sI Z371 116 0 (0)
def Z373 : tq_S := tq_sI Z372 116 1 (0)
def Z374 : tq_S := tq_sL Z373 116 2 (0)
def Z375 : tq_S := tq_sL Z374 116 3 (0)
def Z376 : tq_S := tq_sL Z375 116 4 (0)
def Z377 : tq_S := tq_sL Z376 116 5 (0)
def Z378 : tq_S := tq_sL Z377 116 6 (0)
def Z379 : tq_S := tq_sL Z378 116 7 (0)
def Z380 : tq_S := tq_sL Z379 116 8 (0)
def Z381 : tq_S := tq_sL Z380 116 9 (0)
def Z382 : tq_S := tq_sR Z381 112 0 116
def Z383 : tq_S := tq_add Z382 10 0 4
def Z384 : tq_S := tq_sI Z383 117 0 (0)
def Z385 : tq_S := tq_add Z384 100 40 40
def Z386 : tq_S := tq_sR Z385 117 1 118
def Z387 : tq_S := tq_add Z386 100 40 40
def Z388 : tq_S := tq_sR Z387 117 2 119
def Z389 : tq_S := tq_add Z388 100 40 40
def Z390 : tq_S := tq_sR Z389 117 3 120
def Z391 : tq_S := tq_sR Z390 113 0 117
def Z392 : tq_S := tq_add Z391 4 0 3
def Z393 : tq_S := tq_sI Z392 121 0 (0)
def Z394 : tq_S := tq_add Z393 100 8 8
def Z395 : tq_S := tq_sR Z394 121 1 122
def Z396 : tq_S := tq_add Z395 100 8 8
def Z397 : tq_S := tq_sR Z396 121 2 123
def Z398 : tq_S := tq_sR Z397 114 0 121
def Z399 : tq_S := tq_add Z398 9 0 2
def Z400 : tq_S := tq_sI Z399 124 0 (0)
def Z401 : tq_S := tq_add Z400 100 8 8
def Z402 : tq_S := tq_sR Z401 124 1 125
def Z403 : tq_S := tq_sR Z402 115 0 124
def Z404 : tq_S := tq_add Z403 3 0 10
def Z405 : tq_S := tq_sI Z404 126 0 (0)
def Z406 : tq_S := tq_sI Z405 126 1 (0)
def Z407 : tq_S := tq_sL Z406 126 2 (0)
def Z408 : tq_S := tq_sL Z407 126 3 (0)
def Z409 : tq_S := tq_sL Z408 126 4 (0)
def Z410 : tq_S := tq_sL Z409 126 5 (0)
def Z411 : tq_S := tq_sL Z410 126 6 (0)
def Z412 : tq_S := tq_sL Z411 126 7 (0)
def Z413 : tq_S := tq_sL Z412 126 8 (0)
def Z414 : tq_S := tq_sL Z413 126 9 (0)
def Z415 : tq_S := tq_sR Z414 112 1 126
def Z416 : tq_S := tq_add Z415 10 0 4
def Z417 : tq_S := tq_sI Z416 127 0 (0)
def Z418 : tq_S := tq_add Z417 100 40 40
def Z419 : tq_S := tq_sR Z418 127 1 128
def Z420 : tq_S := tq_add Z419 100 40 40
def Z421 : tq_S := tq_sR Z420 127 2 129
def Z422 : tq_S := tq_add Z421 100 40 40
def Z423 : tq_S := tq_sR Z422 127 3 130
def Z424 : tq_S := tq_sR Z423 113 1 127
def Z425 : tq_S := tq_add Z424 4 0 3
def Z426 : tq_S := tq_sI Z425 131 0 (0)
def Z427 : tq_S := tq_add Z426 100 8 8
def Z428 : tq_S := tq_sR Z427 131 1 132
def Z429 : tq_S := tq_add Z428 100 8 8
def Z430 : tq_S := tq_sR Z429 131 2 133
def Z431 : tq_S := tq_sR Z430 114 1 131
def Z432 : tq_S := tq_add Z431 9 0 2
def Z433 : tq_S := tq_sI Z432 134 0 (0)
def Z434 : tq_S := tq_add Z433 100 8 8
def Z435 : tq_S := tq_sR Z434 134 1 135
def Z436 : tq_S := tq_sR Z435 115 1 134
def Z437 : tq_S := tq_sR Z436 28 2 109
def Z438 : tq_S := tq_add Z437 12 0 39
def Z439 : tq_S := tq_add Z438 100 4016 4016
def Z440 : tq_S := tq_sR Z439 136 0 137
def Z441 : tq_S := tq_add Z440 103 3 3
def Z442 : tq_S := tq_sR Z441 136 1 138
def Z443 : tq_S := tq_add Z442 100 121 121
def Z444 : tq_S := tq_sR Z443 136 11 139
def Z445 : tq_S := tq_add Z444 100 192 192
def Z446 : tq_S := tq_sR Z445 136 15 140
def Z447 : tq_S := tq_add Z446 103 48 48
def Z448 : tq_S := tq_sR Z447 136 16 141
def Z449 : tq_S := tq_add Z448 100 48 48
def Z450 : tq_S := tq_sR Z449 136 17 142
def Z451 : tq_S := tq_add Z450 100 48 48
def Z452 : tq_S := tq_sR Z451 136 18 143
def Z453 : tq_S := tq_add Z452 100 2 2
def Z454 : tq_S := tq_sR Z453 136 20 144
def Z455 : tq_S := tq_add Z454 100 2 2
def Z456 : tq_S := tq_sR Z455 136 21 145
def Z457 : tq_S := tq_add Z456 100 2 2
def Z458 : tq_S := tq_sR Z457 136 25 146
def Z459 : tq_S := tq_add Z458 100 3 3
def Z460 : tq_S := tq_sR Z459 136 26 147
def Z461 : tq_S := tq_add Z460 100 3 3
def Z462 : tq_S := tq_sR Z461 136 27 148
def Z463 : tq_S := tq_add Z462 101 4 4
def Z464 : tq_S := tq_sR Z463 136 30 149
def Z465 : tq_S := tq_add Z464 100 2 2
def Z466 : tq_S := tq_sR Z465 136 32 150
def Z467 : tq_S := tq_add Z466 100 10 10
def Z468 : tq_S := tq_sR Z467 136 34 151
def Z469 : tq_S := tq_add Z468 100 256 256
def Z470 : tq_S := tq_sR Z469 136 36 152
def Z471 : tq_S := tq_add Z470 100 256 256
def Z472 : tq_S := tq_sR Z471 136 37 153
def Z473 : tq_S := tq_sI Z472 137 6 (-1)
theorem Z0_b : tq_Zb Z0 := ⟨fun _ _ => rfl, fun _ _ => rfl, fun _ _ _ => rfl⟩
theorem Z1_b : tq_Zb Z1 := tq_Zb_add Z0_b
theorem Z2_b : tq_Zb Z2 := tq_Zb_add Z1_b
theorem Z3_b : tq_Zb Z3 := tq_Zb_add Z2_b
theorem Z4_b : tq_Zb Z4 := tq_Zb_sR (by decide +kernel) (by decide) Z3_b
theorem Z5_b : tq_Zb Z5 := tq_Zb_sI Z4_b
theorem Z6_b : tq_Zb Z6 := tq_Zb_sI Z5_b
theorem Z7_b : tq_Zb Z7 := tq_Zb_sI Z6_b
theorem Z8_b : tq_Zb Z8 := tq_Zb_add Z7_b
theorem Z9_b : tq_Zb Z9 := tq_Zb_sR (by decide +kernel) (by decide) Z8_b
theorem Z10_b : tq_Zb Z10 := tq_Zb_add Z9_b
theorem Z11_b : tq_Zb Z11 := tq_Zb_sR (by decide +kernel) (by decide) Z10_b
theorem Z12_b : tq_Zb Z12 := tq_Zb_add Z11_b
theorem Z13_b : tq_Zb Z13 := tq_Zb_sR (by decide +kernel) (by decide) Z12_b
theorem Z14_b : tq_Zb Z14 := tq_Zb_add Z13_b
theorem Z15_b : tq_Zb Z15 := tq_Zb_sR (by decide +kernel) (by decide) Z14_b
theorem Z16_b : tq_Zb Z16 := tq_Zb_add Z15_b
theorem Z17_b : tq_Zb Z17 := tq_Zb_sR (by decide +kernel) (by decide) Z16_b
theorem Z18_b : tq_Zb Z18 := tq_Zb_add Z17_b
theorem Z19_b : tq_Zb Z19 := tq_Zb_sI Z18_b
theorem Z20_b : tq_Zb Z20 := tq_Zb_sI Z19_b
theorem Z21_b : tq_Zb Z21 := tq_Zb_sL Z20_b
theorem Z22_b : tq_Zb Z22 := tq_Zb_sL Z21_b
theorem Z23_b : tq_Zb Z23 := tq_Zb_sL Z22_b
theorem Z24_b : tq_Zb Z24 := tq_Zb_sL Z23_b
theorem Z25_b : tq_Zb Z25 := tq_Zb_sL Z24_b
theorem Z26_b : tq_Zb Z26 := tq_Zb_sL Z25_b
theorem Z27_b : tq_Zb Z27 := tq_Zb_sL Z26_b
theorem Z28_b : tq_Zb Z28 := tq_Zb_sL Z27_b
theorem Z29_b : tq_Zb Z29 := tq_Zb_sR (by decide +kernel) (by decide) Z28_b
theorem Z30_b : tq_Zb Z30 := tq_Zb_add Z29_b
theorem Z31_b : tq_Zb Z31 := tq_Zb_sI Z30_b
theorem Z32_b : tq_Zb Z32 := tq_Zb_add Z31_b
theorem Z33_b : tq_Zb Z33 := tq_Zb_sR (by decide +kernel) (by decide) Z32_b
theorem Z34_b : tq_Zb Z34 := tq_Zb_add Z33_b
theorem Z35_b : tq_Zb Z35 := tq_Zb_sR (by decide +kernel) (by decide) Z34_b
theorem Z36_b : tq_Zb Z36 := tq_Zb_add Z35_b
theorem Z37_b : tq_Zb Z37 := tq_Zb_sR (by decide +kernel) (by decide) Z36_b
theorem Z38_b : tq_Zb Z38 := tq_Zb_sR (by decide +kernel) (by decide) Z37_b
theorem Z39_b : tq_Zb Z39 := tq_Zb_add Z38_b
theorem Z40_b : tq_Zb Z40 := tq_Zb_sI Z39_b
theorem Z41_b : tq_Zb Z41 := tq_Zb_add Z40_b
theorem Z42_b : tq_Zb Z42 := tq_Zb_sR (by decide +kernel) (by decide) Z41_b
theorem Z43_b : tq_Zb Z43 := tq_Zb_add Z42_b
theorem Z44_b : tq_Zb Z44 := tq_Zb_sR (by decide +kernel) (by decide) Z43_b
theorem Z45_b : tq_Zb Z45 := tq_Zb_sR (by decide +kernel) (by decide) Z44_b
theorem Z46_b : tq_Zb Z46 := tq_Zb_add Z45_b
theorem Z47_b : tq_Zb Z47 := tq_Zb_sI Z46_b
theorem Z48_b : tq_Zb Z48 := tq_Zb_add Z47_b
theorem Z49_b : tq_Zb Z49 := tq_Zb_sR (by decide +kernel) (by decide) Z48_b
theorem Z50_b : tq_Zb Z50 := tq_Zb_sR (by decide +kernel) (by decide) Z49_b
theorem Z51_b : tq_Zb Z51 := tq_Zb_add Z50_b
theorem Z52_b : tq_Zb Z52 := tq_Zb_sI Z51_b
theorem Z53_b : tq_Zb Z53 := tq_Zb_sI Z52_b
theorem Z54_b : tq_Zb Z54 := tq_Zb_sL Z53_b
theorem Z55_b : tq_Zb Z55 := tq_Zb_sL Z54_b
theorem Z56_b : tq_Zb Z56 := tq_Zb_sL Z55_b
theorem Z57_b : tq_Zb Z57 := tq_Zb_sL Z56_b
theorem Z58_b : tq_Zb Z58 := tq_Zb_sL Z57_b
theorem Z59_b : tq_Zb Z59 := tq_Zb_sL Z58_b
theorem Z60_b : tq_Zb Z60 := tq_Zb_sL Z59_b
theorem Z61_b : tq_Zb Z61 := tq_Zb_sL Z60_b
theorem Z62_b : tq_Zb Z62 := tq_Zb_sR (by decide +kernel) (by decide) Z61_b
theorem Z63_b : tq_Zb Z63 := tq_Zb_add Z62_b
theorem Z64_b : tq_Zb Z64 := tq_Zb_sI Z63_b
theorem Z65_b : tq_Zb Z65 := tq_Zb_add Z64_b
theorem Z66_b : tq_Zb Z66 := tq_Zb_sR (by decide +kernel) (by decide) Z65_b
theorem Z67_b : tq_Zb Z67 := tq_Zb_add Z66_b
theorem Z68_b : tq_Zb Z68 := tq_Zb_sR (by decide +kernel) (by decide) Z67_b
theorem Z69_b : tq_Zb Z69 := tq_Zb_add Z68_b
theorem Z70_b : tq_Zb Z70 := tq_Zb_sR (by decide +kernel) (by decide) Z69_b
theorem Z71_b : tq_Zb Z71 := tq_Zb_sR (by decide +kernel) (by decide) Z70_b
theorem Z72_b : tq_Zb Z72 := tq_Zb_add Z71_b
theorem Z73_b : tq_Zb Z73 := tq_Zb_sI Z72_b
theorem Z74_b : tq_Zb Z74 := tq_Zb_add Z73_b
theorem Z75_b : tq_Zb Z75 := tq_Zb_sR (by decide +kernel) (by decide) Z74_b
theorem Z76_b : tq_Zb Z76 := tq_Zb_add Z75_b
theorem Z77_b : tq_Zb Z77 := tq_Zb_sR (by decide +kernel) (by decide) Z76_b
theorem Z78_b : tq_Zb Z78 := tq_Zb_sR (by decide +kernel) (by decide) Z77_b
theorem Z79_b : tq_Zb Z79 := tq_Zb_add Z78_b
theorem Z80_b : tq_Zb Z80 := tq_Zb_sI Z79_b
theorem Z81_b : tq_Zb Z81 := tq_Zb_add Z80_b
theorem Z82_b : tq_Zb Z82 := tq_Zb_sR (by decide +kernel) (by decide) Z81_b
theorem Z83_b : tq_Zb Z83 := tq_Zb_sR (by decide +kernel) (by decide) Z82_b
theorem Z84_b : tq_Zb Z84 := tq_Zb_sR (by decide +kernel) (by decide) Z83_b
theorem Z85_b : tq_Zb Z85 := tq_Zb_add Z84_b
theorem Z86_b : tq_Zb Z86 := tq_Zb_sR (by decide +kernel) (by decide) Z85_b
theorem Z87_b : tq_Zb Z87 := tq_Zb_add Z86_b
theorem Z88_b : tq_Zb Z88 := tq_Zb_sR (by decide +kernel) (by decide) Z87_b
theorem Z89_b : tq_Zb Z89 := tq_Zb_add Z88_b
theorem Z90_b : tq_Zb Z90 := tq_Zb_add Z89_b
theorem Z91_b : tq_Zb Z91 := tq_Zb_sR (by decide +kernel) (by decide) Z90_b
theorem Z92_b : tq_Zb Z92 := tq_Zb_add Z91_b
theorem Z93_b : tq_Zb Z93 := tq_Zb_sI Z92_b
theorem Z94_b : tq_Zb Z94 := tq_Zb_sI Z93_b
theorem Z95_b : tq_Zb Z95 := tq_Zb_sL Z94_b
theorem Z96_b : tq_Zb Z96 := tq_Zb_sL Z95_b
theorem Z97_b : tq_Zb Z97 := tq_Zb_sL Z96_b
theorem Z98_b : tq_Zb Z98 := tq_Zb_sL Z97_b
theorem Z99_b : tq_Zb Z99 := tq_Zb_sL Z98_b
theorem Z100_b : tq_Zb Z100 := tq_Zb_sL Z99_b
theorem Z101_b : tq_Zb Z101 := tq_Zb_sL Z100_b
theorem Z102_b : tq_Zb Z102 := tq_Zb_sL Z101_b
theorem Z103_b : tq_Zb Z103 := tq_Zb_sR (by decide +kernel) (by decide) Z102_b
theorem Z104_b : tq_Zb Z104 := tq_Zb_add Z103_b
theorem Z105_b : tq_Zb Z105 := tq_Zb_sI Z104_b
theorem Z106_b : tq_Zb Z106 := tq_Zb_add Z105_b
theorem Z107_b : tq_Zb Z107 := tq_Zb_sR (by decide +kernel) (by decide) Z106_b
theorem Z108_b : tq_Zb Z108 := tq_Zb_add Z107_b
theorem Z109_b : tq_Zb Z109 := tq_Zb_sR (by decide +kernel) (by decide) Z108_b
theorem Z110_b : tq_Zb Z110 := tq_Zb_add Z109_b
theorem Z111_b : tq_Zb Z111 := tq_Zb_sR (by decide +kernel) (by decide) Z110_b
theorem Z112_b : tq_Zb Z112 := tq_Zb_sR (by decide +kernel) (by decide) Z111_b
theorem Z113_b : tq_Zb Z113 := tq_Zb_add Z112_b
theorem Z114_b : tq_Zb Z114 := tq_Zb_sI Z113_b
theorem Z115_b : tq_Zb Z115 := tq_Zb_add Z114_b
theorem Z116_b : tq_Zb Z116 := tq_Zb_sR (by decide +kernel) (by decide) Z115_b
theorem Z117_b : tq_Zb Z117 := tq_Zb_add Z116_b
theorem Z118_b : tq_Zb Z118 := tq_Zb_sR (by decide +kernel) (by decide) Z117_b
theorem Z119_b : tq_Zb Z119 := tq_Zb_sR (by decide +kernel) (by decide) Z118_b
theorem Z120_b : tq_Zb Z120 := tq_Zb_add Z119_b
theorem Z121_b : tq_Zb Z121 := tq_Zb_sI Z120_b
theorem Z122_b : tq_Zb Z122 := tq_Zb_add Z121_b
theorem Z123_b : tq_Zb Z123 := tq_Zb_sR (by decide +kernel) (by decide) Z122_b
theorem Z124_b : tq_Zb Z124 := tq_Zb_sR (by decide +kernel) (by decide) Z123_b
theorem Z125_b : tq_Zb Z125 := tq_Zb_add Z124_b
theorem Z126_b : tq_Zb Z126 := tq_Zb_sR (by decide +kernel) (by decide) Z125_b
theorem Z127_b : tq_Zb Z127 := tq_Zb_sL Z126_b
theorem Z128_b : tq_Zb Z128 := tq_Zb_sI Z127_b
theorem Z129_b : tq_Zb Z129 := tq_Zb_sI Z128_b
theorem Z130_b : tq_Zb Z130 := tq_Zb_sI Z129_b
theorem Z131_b : tq_Zb Z131 := tq_Zb_sI Z130_b
theorem Z132_b : tq_Zb Z132 := tq_Zb_sI Z131_b
theorem Z133_b : tq_Zb Z133 := tq_Zb_sI Z132_b
theorem Z134_b : tq_Zb Z134 := tq_Zb_sR (by decide +kernel) (by decide) Z133_b
theorem Z135_b : tq_Zb Z135 := tq_Zb_add Z134_b
theorem Z136_b : tq_Zb Z136 := tq_Zb_add Z135_b
theorem Z137_b : tq_Zb Z137 := tq_Zb_sI Z136_b
theorem Z138_b : tq_Zb Z138 := tq_Zb_sI Z137_b
theorem Z139_b : tq_Zb Z139 := tq_Zb_sL Z138_b
theorem Z140_b : tq_Zb Z140 := tq_Zb_sL Z139_b
theorem Z141_b : tq_Zb Z141 := tq_Zb_sL Z140_b
theorem Z142_b : tq_Zb Z142 := tq_Zb_sL Z141_b
theorem Z143_b : tq_Zb Z143 := tq_Zb_sL Z142_b
theorem Z144_b : tq_Zb Z144 := tq_Zb_sL Z143_b
theorem Z145_b : tq_Zb Z145 := tq_Zb_sL Z144_b
theorem Z146_b : tq_Zb Z146 := tq_Zb_sL Z145_b
theorem Z147_b : tq_Zb Z147 := tq_Zb_sR (by decide +kernel) (by decide) Z146_b
theorem Z148_b : tq_Zb Z148 := tq_Zb_sI Z147_b
theorem Z149_b : tq_Zb Z149 := tq_Zb_sI Z148_b
theorem Z150_b : tq_Zb Z150 := tq_Zb_sI Z149_b
theorem Z151_b : tq_Zb Z151 := tq_Zb_sI Z150_b
theorem Z152_b : tq_Zb Z152 := tq_Zb_sI Z151_b
theorem Z153_b : tq_Zb Z153 := tq_Zb_sI Z152_b
theorem Z154_b : tq_Zb Z154 := tq_Zb_sI Z153_b
theorem Z155_b : tq_Zb Z155 := tq_Zb_sI Z154_b
theorem Z156_b : tq_Zb Z156 := tq_Zb_sI Z155_b
theorem Z157_b : tq_Zb Z157 := tq_Zb_sI Z156_b
theorem Z158_b : tq_Zb Z158 := tq_Zb_sR (by decide +kernel) (by decide) Z157_b
theorem Z159_b : tq_Zb Z159 := tq_Zb_add Z158_b
theorem Z160_b : tq_Zb Z160 := tq_Zb_add Z159_b
theorem Z161_b : tq_Zb Z161 := tq_Zb_sR (by decide +kernel) (by decide) Z160_b
theorem Z162_b : tq_Zb Z162 := tq_Zb_add Z161_b
theorem Z163_b : tq_Zb Z163 := tq_Zb_sR (by decide +kernel) (by decide) Z162_b
theorem Z164_b : tq_Zb Z164 := tq_Zb_sI Z163_b
theorem Z165_b : tq_Zb Z165 := tq_Zb_sI Z164_b
theorem Z166_b : tq_Zb Z166 := tq_Zb_sI Z165_b
theorem Z167_b : tq_Zb Z167 := tq_Zb_sI Z166_b
theorem Z168_b : tq_Zb Z168 := tq_Zb_sI Z167_b
theorem Z169_b : tq_Zb Z169 := tq_Zb_sI Z168_b
theorem Z170_b : tq_Zb Z170 := tq_Zb_sL Z169_b
theorem Z171_b : tq_Zb Z171 := tq_Zb_sR (by decide +kernel) (by decide) Z170_b
theorem Z172_b : tq_Zb Z172 := tq_Zb_add Z171_b
theorem Z173_b : tq_Zb Z173 := tq_Zb_sL Z172_b
theorem Z174_b : tq_Zb Z174 := tq_Zb_sI Z173_b
theorem Z175_b : tq_Zb Z175 := tq_Zb_sR (by decide +kernel) (by decide) Z174_b
theorem Z176_b : tq_Zb Z176 := tq_Zb_add Z175_b
theorem Z177_b : tq_Zb Z177 := tq_Zb_add Z176_b
theorem Z178_b : tq_Zb Z178 := tq_Zb_sR (by decide +kernel) (by decide) Z177_b
theorem Z179_b : tq_Zb Z179 := tq_Zb_add Z178_b
theorem Z180_b : tq_Zb Z180 := tq_Zb_sR (by decide +kernel) (by decide) Z179_b
theorem Z181_b : tq_Zb Z181 := tq_Zb_sR (by decide +kernel) (by decide) Z180_b
theorem Z182_b : tq_Zb Z182 := tq_Zb_add Z181_b
theorem Z183_b : tq_Zb Z183 := tq_Zb_add Z182_b
theorem Z184_b : tq_Zb Z184 := tq_Zb_sR (by decide +kernel) (by decide) Z183_b
theorem Z185_b : tq_Zb Z185 := tq_Zb_sI Z184_b
theorem Z186_b : tq_Zb Z186 := tq_Zb_sR (by decide +kernel) (by decide) Z185_b
theorem Z187_b : tq_Zb Z187 := tq_Zb_add Z186_b
theorem Z188_b : tq_Zb Z188 := tq_Zb_sR (by decide +kernel) (by decide) Z187_b
theorem Z189_b : tq_Zb Z189 := tq_Zb_add Z188_b
theorem Z190_b : tq_Zb Z190 := tq_Zb_add Z189_b
theorem Z191_b : tq_Zb Z191 := tq_Zb_sR (by decide +kernel) (by decide) Z190_b
theorem Z192_b : tq_Zb Z192 := tq_Zb_sI Z191_b
theorem Z193_b : tq_Zb Z193 := tq_Zb_sI Z192_b
theorem Z194_b : tq_Zb Z194 := tq_Zb_sI Z193_b
theorem Z195_b : tq_Zb Z195 := tq_Zb_add Z194_b
theorem Z196_b : tq_Zb Z196 := tq_Zb_sR (by decide +kernel) (by decide) Z195_b
theorem Z197_b : tq_Zb Z197 := tq_Zb_add Z196_b
theorem Z198_b : tq_Zb Z198 := tq_Zb_sR (by decide +kernel) (by decide) Z197_b
theorem Z199_b : tq_Zb Z199 := tq_Zb_add Z198_b
theorem Z200_b : tq_Zb Z200 := tq_Zb_sR (by decide +kernel) (by decide) Z199_b
theorem Z201_b : tq_Zb Z201 := tq_Zb_add Z200_b
theorem Z202_b : tq_Zb Z202 := tq_Zb_sR (by decide +kernel) (by decide) Z201_b
theorem Z203_b : tq_Zb Z203 := tq_Zb_add Z202_b
theorem Z204_b : tq_Zb Z204 := tq_Zb_sR (by decide +kernel) (by decide) Z203_b
theorem Z205_b : tq_Zb Z205 := tq_Zb_add Z204_b
theorem Z206_b : tq_Zb Z206 := tq_Zb_sI Z205_b
theorem Z207_b : tq_Zb Z207 := tq_Zb_sI Z206_b
theorem Z208_b : tq_Zb Z208 := tq_Zb_sL Z207_b
theorem Z209_b : tq_Zb Z209 := tq_Zb_sL Z208_b
theorem Z210_b : tq_Zb Z210 := tq_Zb_sL Z209_b
theorem Z211_b : tq_Zb Z211 := tq_Zb_sL Z210_b
theorem Z212_b : tq_Zb Z212 := tq_Zb_sL Z211_b
theorem Z213_b : tq_Zb Z213 := tq_Zb_sL Z212_b
theorem Z214_b : tq_Zb Z214 := tq_Zb_sL Z213_b
theorem Z215_b : tq_Zb Z215 := tq_Zb_sL Z214_b
theorem Z216_b : tq_Zb Z216 := tq_Zb_sR (by decide +kernel) (by decide) Z215_b
theorem Z217_b : tq_Zb Z217 := tq_Zb_add Z216_b
theorem Z218_b : tq_Zb Z218 := tq_Zb_sI Z217_b
theorem Z219_b : tq_Zb Z219 := tq_Zb_add Z218_b
theorem Z220_b : tq_Zb Z220 := tq_Zb_sR (by decide +kernel) (by decide) Z219_b
theorem Z221_b : tq_Zb Z221 := tq_Zb_add Z220_b
theorem Z222_b : tq_Zb Z222 := tq_Zb_sR (by decide +kernel) (by decide) Z221_b
theorem Z223_b : tq_Zb Z223 := tq_Zb_add Z222_b
theorem Z224_b : tq_Zb Z224 := tq_Zb_sR (by decide +kernel) (by decide) Z223_b
theorem Z225_b : tq_Zb Z225 := tq_Zb_sR (by decide +kernel) (by decide) Z224_b
theorem Z226_b : tq_Zb Z226 := tq_Zb_add Z225_b
theorem Z227_b : tq_Zb Z227 := tq_Zb_sI Z226_b
theorem Z228_b : tq_Zb Z228 := tq_Zb_add Z227_b
theorem Z229_b : tq_Zb Z229 := tq_Zb_sR (by decide +kernel) (by decide) Z228_b
theorem Z230_b : tq_Zb Z230 := tq_Zb_add Z229_b
theorem Z231_b : tq_Zb Z231 := tq_Zb_sR (by decide +kernel) (by decide) Z230_b
theorem Z232_b : tq_Zb Z232 := tq_Zb_sR (by decide +kernel) (by decide) Z231_b
theorem Z233_b : tq_Zb Z233 := tq_Zb_add Z232_b
theorem Z234_b : tq_Zb Z234 := tq_Zb_sI Z233_b
theorem Z235_b : tq_Zb Z235 := tq_Zb_add Z234_b
theorem Z236_b : tq_Zb Z236 := tq_Zb_sR (by decide +kernel) (by decide) Z235_b
theorem Z237_b : tq_Zb Z237 := tq_Zb_sR (by decide +kernel) (by decide) Z236_b
theorem Z238_b : tq_Zb Z238 := tq_Zb_add Z237_b
theorem Z239_b : tq_Zb Z239 := tq_Zb_sI Z238_b
theorem Z240_b : tq_Zb Z240 := tq_Zb_sI Z239_b
theorem Z241_b : tq_Zb Z241 := tq_Zb_sL Z240_b
theorem Z242_b : tq_Zb Z242 := tq_Zb_sL Z241_b
theorem Z243_b : tq_Zb Z243 := tq_Zb_sL Z242_b
theorem Z244_b : tq_Zb Z244 := tq_Zb_sL Z243_b
theorem Z245_b : tq_Zb Z245 := tq_Zb_sL Z244_b
theorem Z246_b : tq_Zb Z246 := tq_Zb_sL Z245_b
theorem Z247_b : tq_Zb Z247 := tq_Zb_sL Z246_b
theorem Z248_b : tq_Zb Z248 := tq_Zb_sL Z247_b
theorem Z249_b : tq_Zb Z249 := tq_Zb_sR (by decide +kernel) (by decide) Z248_b
theorem Z250_b : tq_Zb Z250 := tq_Zb_add Z249_b
theorem Z251_b : tq_Zb Z251 := tq_Zb_sI Z250_b
theorem Z252_b : tq_Zb Z252 := tq_Zb_add Z251_b
theorem Z253_b : tq_Zb Z253 := tq_Zb_sR (by decide +kernel) (by decide) Z252_b
theorem Z254_b : tq_Zb Z254 := tq_Zb_add Z253_b
theorem Z255_b : tq_Zb Z255 := tq_Zb_sR (by decide +kernel) (by decide) Z254_b
theorem Z256_b : tq_Zb Z256 := tq_Zb_add Z255_b
theorem Z257_b : tq_Zb Z257 := tq_Zb_sR (by decide +kernel) (by decide) Z256_b
theorem Z258_b : tq_Zb Z258 := tq_Zb_sR (by decide +kernel) (by decide) Z257_b
theorem Z259_b : tq_Zb Z259 := tq_Zb_add Z258_b
theorem Z260_b : tq_Zb Z260 := tq_Zb_sI Z259_b
theorem Z261_b : tq_Zb Z261 := tq_Zb_add Z260_b
theorem Z262_b : tq_Zb Z262 := tq_Zb_sR (by decide +kernel) (by decide) Z261_b
theorem Z263_b : tq_Zb Z263 := tq_Zb_add Z262_b
theorem Z264_b : tq_Zb Z264 := tq_Zb_sR (by decide +kernel) (by decide) Z263_b
theorem Z265_b : tq_Zb Z265 := tq_Zb_sR (by decide +kernel) (by decide) Z264_b
theorem Z266_b : tq_Zb Z266 := tq_Zb_add Z265_b
theorem Z267_b : tq_Zb Z267 := tq_Zb_sI Z266_b
theorem Z268_b : tq_Zb Z268 := tq_Zb_add Z267_b
theorem Z269_b : tq_Zb Z269 := tq_Zb_sR (by decide +kernel) (by decide) Z268_b
theorem Z270_b : tq_Zb Z270 := tq_Zb_sR (by decide +kernel) (by decide) Z269_b
theorem Z271_b : tq_Zb Z271 := tq_Zb_sR (by decide +kernel) (by decide) Z270_b
theorem Z272_b : tq_Zb Z272 := tq_Zb_add Z271_b
theorem Z273_b : tq_Zb Z273 := tq_Zb_add Z272_b
theorem Z274_b : tq_Zb Z274 := tq_Zb_sR (by decide +kernel) (by decide) Z273_b
theorem Z275_b : tq_Zb Z275 := tq_Zb_sI Z274_b
theorem Z276_b : tq_Zb Z276 := tq_Zb_sI Z275_b
theorem Z277_b : tq_Zb Z277 := tq_Zb_sI Z276_b
theorem Z278_b : tq_Zb Z278 := tq_Zb_add Z277_b
theorem Z279_b : tq_Zb Z279 := tq_Zb_sR (by decide +kernel) (by decide) Z278_b
theorem Z280_b : tq_Zb Z280 := tq_Zb_add Z279_b
theorem Z281_b : tq_Zb Z281 := tq_Zb_sR (by decide +kernel) (by decide) Z280_b
theorem Z282_b : tq_Zb Z282 := tq_Zb_add Z281_b
theorem Z283_b : tq_Zb Z283 := tq_Zb_sR (by decide +kernel) (by decide) Z282_b
theorem Z284_b : tq_Zb Z284 := tq_Zb_add Z283_b
theorem Z285_b : tq_Zb Z285 := tq_Zb_sR (by decide +kernel) (by decide) Z284_b
theorem Z286_b : tq_Zb Z286 := tq_Zb_add Z285_b
theorem Z287_b : tq_Zb Z287 := tq_Zb_sR (by decide +kernel) (by decide) Z286_b
theorem Z288_b : tq_Zb Z288 := tq_Zb_add Z287_b
theorem Z289_b : tq_Zb Z289 := tq_Zb_sI Z288_b
theorem Z290_b : tq_Zb Z290 := tq_Zb_sI Z289_b
theorem Z291_b : tq_Zb Z291 := tq_Zb_sL Z290_b
theorem Z292_b : tq_Zb Z292 := tq_Zb_sL Z291_b
theorem Z293_b : tq_Zb Z293 := tq_Zb_sL Z292_b
theorem Z294_b : tq_Zb Z294 := tq_Zb_sL Z293_b
theorem Z295_b : tq_Zb Z295 := tq_Zb_sL Z294_b
theorem Z296_b : tq_Zb Z296 := tq_Zb_sL Z295_b
theorem Z297_b : tq_Zb Z297 := tq_Zb_sL Z296_b
theorem Z298_b : tq_Zb Z298 := tq_Zb_sL Z297_b
theorem Z299_b : tq_Zb Z299 := tq_Zb_sR (by decide +kernel) (by decide) Z298_b
theorem Z300_b : tq_Zb Z300 := tq_Zb_add Z299_b
theorem Z301_b : tq_Zb Z301 := tq_Zb_sI Z300_b
theorem Z302_b : tq_Zb Z302 := tq_Zb_add Z301_b
theorem Z303_b : tq_Zb Z303 := tq_Zb_sR (by decide +kernel) (by decide) Z302_b
theorem Z304_b : tq_Zb Z304 := tq_Zb_add Z303_b
theorem Z305_b : tq_Zb Z305 := tq_Zb_sR (by decide +kernel) (by decide) Z304_b
theorem Z306_b : tq_Zb Z306 := tq_Zb_add Z305_b
theorem Z307_b : tq_Zb Z307 := tq_Zb_sR (by decide +kernel) (by decide) Z306_b
theorem Z308_b : tq_Zb Z308 := tq_Zb_sR (by decide +kernel) (by decide) Z307_b
theorem Z309_b : tq_Zb Z309 := tq_Zb_add Z308_b
theorem Z310_b : tq_Zb Z310 := tq_Zb_sI Z309_b
theorem Z311_b : tq_Zb Z311 := tq_Zb_add Z310_b
theorem Z312_b : tq_Zb Z312 := tq_Zb_sR (by decide +kernel) (by decide) Z311_b
theorem Z313_b : tq_Zb Z313 := tq_Zb_add Z312_b
theorem Z314_b : tq_Zb Z314 := tq_Zb_sR (by decide +kernel) (by decide) Z313_b
theorem Z315_b : tq_Zb Z315 := tq_Zb_sR (by decide +kernel) (by decide) Z314_b
theorem Z316_b : tq_Zb Z316 := tq_Zb_add Z315_b
theorem Z317_b : tq_Zb Z317 := tq_Zb_sI Z316_b
theorem Z318_b : tq_Zb Z318 := tq_Zb_add Z317_b
theorem Z319_b : tq_Zb Z319 := tq_Zb_sR (by decide +kernel) (by decide) Z318_b
theorem Z320_b : tq_Zb Z320 := tq_Zb_sR (by decide +kernel) (by decide) Z319_b
theorem Z321_b : tq_Zb Z321 := tq_Zb_add Z320_b
theorem Z322_b : tq_Zb Z322 := tq_Zb_sI Z321_b
theorem Z323_b : tq_Zb Z323 := tq_Zb_sI Z322_b
theorem Z324_b : tq_Zb Z324 := tq_Zb_sL Z323_b
theorem Z325_b : tq_Zb Z325 := tq_Zb_sL Z324_b
theorem Z326_b : tq_Zb Z326 := tq_Zb_sL Z325_b
theorem Z327_b : tq_Zb Z327 := tq_Zb_sL Z326_b
theorem Z328_b : tq_Zb Z328 := tq_Zb_sL Z327_b
theorem Z329_b : tq_Zb Z329 := tq_Zb_sL Z328_b
theorem Z330_b : tq_Zb Z330 := tq_Zb_sL Z329_b
theorem Z331_b : tq_Zb Z331 := tq_Zb_sL Z330_b
theorem Z332_b : tq_Zb Z332 := tq_Zb_sR (by decide +kernel) (by decide) Z331_b
theorem Z333_b : tq_Zb Z333 := tq_Zb_add Z332_b
theorem Z334_b : tq_Zb Z334 := tq_Zb_sI Z333_b
theorem Z335_b : tq_Zb Z335 := tq_Zb_add Z334_b
theorem Z336_b : tq_Zb Z336 := tq_Zb_sR (by decide +kernel) (by decide) Z335_b
theorem Z337_b : tq_Zb Z337 := tq_Zb_add Z336_b
theorem Z338_b : tq_Zb Z338 := tq_Zb_sR (by decide +kernel) (by decide) Z337_b
theorem Z339_b : tq_Zb Z339 := tq_Zb_add Z338_b
theorem Z340_b : tq_Zb Z340 := tq_Zb_sR (by decide +kernel) (by decide) Z339_b
theorem Z341_b : tq_Zb Z341 := tq_Zb_sR (by decide +kernel) (by decide) Z340_b
theorem Z342_b : tq_Zb Z342 := tq_Zb_add Z341_b
theorem Z343_b : tq_Zb Z343 := tq_Zb_sI Z342_b
theorem Z344_b : tq_Zb Z344 := tq_Zb_add Z343_b
theorem Z345_b : tq_Zb Z345 := tq_Zb_sR (by decide +kernel) (by decide) Z344_b
theorem Z346_b : tq_Zb Z346 := tq_Zb_add Z345_b
theorem Z347_b : tq_Zb Z347 := tq_Zb_sR (by decide +kernel) (by decide) Z346_b
theorem Z348_b : tq_Zb Z348 := tq_Zb_sR (by decide +kernel) (by decide) Z347_b
theorem Z349_b : tq_Zb Z349 := tq_Zb_add Z348_b
theorem Z350_b : tq_Zb Z350 := tq_Zb_sI Z349_b
theorem Z351_b : tq_Zb Z351 := tq_Zb_add Z350_b
theorem Z352_b : tq_Zb Z352 := tq_Zb_sR (by decide +kernel) (by decide) Z351_b
theorem Z353_b : tq_Zb Z353 := tq_Zb_sR (by decide +kernel) (by decide) Z352_b
theorem Z354_b : tq_Zb Z354 := tq_Zb_sR (by decide +kernel) (by decide) Z353_b
theorem Z355_b : tq_Zb Z355 := tq_Zb_add Z354_b
theorem Z356_b : tq_Zb Z356 := tq_Zb_add Z355_b
theorem Z357_b : tq_Zb Z357 := tq_Zb_sR (by decide +kernel) (by decide) Z356_b
theorem Z358_b : tq_Zb Z358 := tq_Zb_sI Z357_b
theorem Z359_b : tq_Zb Z359 := tq_Zb_sI Z358_b
theorem Z360_b : tq_Zb Z360 := tq_Zb_sI Z359_b
theorem Z361_b : tq_Zb Z361 := tq_Zb_add Z360_b
theorem Z362_b : tq_Zb Z362 := tq_Zb_sR (by decide +kernel) (by decide) Z361_b
theorem Z363_b : tq_Zb Z363 := tq_Zb_add Z362_b
theorem Z364_b : tq_Zb Z364 := tq_Zb_sR (by decide +kernel) (by decide) Z363_b
theorem Z365_b : tq_Zb Z365 := tq_Zb_add Z364_b
theorem Z366_b : tq_Zb Z366 := tq_Zb_sR (by decide +kernel) (by decide) Z365_b
theorem Z367_b : tq_Zb Z367 := tq_Zb_add Z366_b
theorem Z368_b : tq_Zb Z368 := tq_Zb_sR (by decide +kernel) (by decide) Z367_b
theorem Z369_b : tq_Zb Z369 := tq_Zb_add Z368_b
theorem Z370_b : tq_Zb Z370 := tq_Zb_sR (by decide +kernel) (by decide) Z369_b
theorem Z371_b : tq_Zb Z371 := tq_Zb_add Z370_b
theorem Z372_b : tq_Zb Z372 := tq_Zb_sI Z371_b
theorem Z373_b : tq_Zb Z373 := tq_Zb_sI Z372_b
theorem Z374_b : tq_Zb Z374 := tq_Zb_sL Z373_b
theorem Z375_b : tq_Zb Z375 := tq_Zb_sL Z374_b
theorem Z376_b : tq_Zb Z376 := tq_Zb_sL Z375_b
theorem Z377_b : tq_Zb Z377 := tq_Zb_sL Z376_b
theorem Z378_b : tq_Zb Z378 := tq_Zb_sL Z377_b
theorem Z379_b : tq_Zb Z379 := tq_Zb_sL Z378_b
theorem Z380_b : tq_Zb Z380 := tq_Zb_sL Z379_b
theorem Z381_b : tq_Zb Z381 := tq_Zb_sL Z380_b
theorem Z382_b : tq_Zb Z382 := tq_Zb_sR (by decide +kernel) (by decide) Z381_b
theorem Z383_b : tq_Zb Z383 := tq_Zb_add Z382_b
theorem Z384_b : tq_Zb Z384 := tq_Zb_sI Z383_b
theorem Z385_b : tq_Zb Z385 := tq_Zb_add Z384_b
theorem Z386_b : tq_Zb Z386 := tq_Zb_sR (by decide +kernel) (by decide) Z385_b
theorem Z387_b : tq_Zb Z387 := tq_Zb_add Z386_b
theorem Z388_b : tq_Zb Z388 := tq_Zb_sR (by decide +kernel) (by decide) Z387_b
theorem Z389_b : tq_Zb Z389 := tq_Zb_add Z388_b
theorem Z390_b : tq_Zb Z390 := tq_Zb_sR (by decide +kernel) (by decide) Z389_b
theorem Z391_b : tq_Zb Z391 := tq_Zb_sR (by decide +kernel) (by decide) Z390_b
theorem Z392_b : tq_Zb Z392 := tq_Zb_add Z391_b
theorem Z393_b : tq_Zb Z393 := tq_Zb_sI Z392_b
theorem Z394_b : tq_Zb Z394 := tq_Zb_add Z393_b
theorem Z395_b : tq_Zb Z395 := tq_Zb_sR (by decide +kernel) (by decide) Z394_b
theorem Z396_b : tq_Zb Z396 := tq_Zb_add Z395_b
theorem Z397_b : tq_Zb Z397 := tq_Zb_sR (by decide +kernel) (by decide) Z396_b
theorem Z398_b : tq_Zb Z398 := tq_Zb_sR (by decide +kernel) (by decide) Z397_b
theorem Z399_b : tq_Zb Z399 := tq_Zb_add Z398_b
theorem Z400_b : tq_Zb Z400 := tq_Zb_sI Z399_b
theorem Z401_b : tq_Zb Z401 := tq_Zb_add Z400_b
theorem Z402_b : tq_Zb Z402 := tq_Zb_sR (by decide +kernel) (by decide) Z401_b
theorem Z403_b : tq_Zb Z403 := tq_Zb_sR (by decide +kernel) (by decide) Z402_b
theorem Z404_b : tq_Zb Z404 := tq_Zb_add Z403_b
theorem Z405_b : tq_Zb Z405 := tq_Zb_sI Z404_b
theorem Z406_b : tq_Zb Z406 := tq_Zb_sI Z405_b
theorem Z407_b : tq_Zb Z407 := tq_Zb_sL Z406_b
theorem Z408_b : tq_Zb Z408 := tq_Zb_sL Z407_b
theorem Z409_b : tq_Zb Z409 := tq_Zb_sL Z408_b
theorem Z410_b : tq_Zb Z410 := tq_Zb_sL Z409_b
theorem Z411_b : tq_Zb Z411 := tq_Zb_sL Z410_b
theorem Z412_b : tq_Zb Z412 := tq_Zb_sL Z411_b
theorem Z413_b : tq_Zb Z413 := tq_Zb_sL Z412_b
theorem Z414_b : tq_Zb Z414 := tq_Zb_sL Z413_b
theorem Z415_b : tq_Zb Z415 := tq_Zb_sR (by decide +kernel) (by decide) Z414_b
theorem Z416_b : tq_Zb Z416 := tq_Zb_add Z415_b
theorem Z417_b : tq_Zb Z417 := tq_Zb_sI Z416_b
theorem Z418_b : tq_Zb Z418 := tq_Zb_add Z417_b
theorem Z419_b : tq_Zb Z419 := tq_Zb_sR (by decide +kernel) (by decide) Z418_b
theorem Z420_b : tq_Zb Z420 := tq_Zb_add Z419_b
theorem Z421_b : tq_Zb Z421 := tq_Zb_sR (by decide +kernel) (by decide) Z420_b
theorem Z422_b : tq_Zb Z422 := tq_Zb_add Z421_b
theorem Z423_b : tq_Zb Z423 := tq_Zb_sR (by decide +kernel) (by decide) Z422_b
theorem Z424_b : tq_Zb Z424 := tq_Zb_sR (by decide +kernel) (by decide) Z423_b
theorem Z425_b : tq_Zb Z425 := tq_Zb_add Z424_b
theorem Z426_b : tq_Zb Z426 := tq_Zb_sI Z425_b
theorem Z427_b : tq_Zb Z427 := tq_Zb_add Z426_b
theorem Z428_b : tq_Zb Z428 := tq_Zb_sR (by decide +kernel) (by decide) Z427_b
theorem Z429_b : tq_Zb Z429 := tq_Zb_add Z428_b
theorem Z430_b : tq_Zb Z430 := tq_Zb_sR (by decide +kernel) (by decide) Z429_b
theorem Z431_b : tq_Zb Z431 := tq_Zb_sR (by decide +kernel) (by decide) Z430_b
theorem Z432_b : tq_Zb Z432 := tq_Zb_add Z431_b
theorem Z433_b : tq_Zb Z433 := tq_Zb_sI Z432_b
theorem Z434_b : tq_Zb Z434 := tq_Zb_add Z433_b
theorem Z435_b : tq_Zb Z435 := tq_Zb_sR (by decide +kernel) (by decide) Z434_b
theorem Z436_b : tq_Zb Z436 := tq_Zb_sR (by decide +kernel) (by decide) Z435_b
theorem Z437_b : tq_Zb Z437 := tq_Zb_sR (by decide +kernel) (by decide) Z436_b
theorem Z438_b : tq_Zb Z438 := tq_Zb_add Z437_b
theorem Z439_b : tq_Zb Z439 := tq_Zb_add Z438_b
theorem Z440_b : tq_Zb Z440 := tq_Zb_sR (by decide +kernel) (by decide) Z439_b
theorem Z441_b : tq_Zb Z441 := tq_Zb_add Z440_b
theorem Z442_b : tq_Zb Z442 := tq_Zb_sR (by decide +kernel) (by decide) Z441_b
theorem Z443_b : tq_Zb Z443 := tq_Zb_add Z442_b
theorem Z444_b : tq_Zb Z444 := tq_Zb_sR (by decide +kernel) (by decide) Z443_b
theorem Z445_b : tq_Zb Z445 := tq_Zb_add Z444_b
theorem Z446_b : tq_Zb Z446 := tq_Zb_sR (by decide +kernel) (by decide) Z445_b
theorem Z447_b : tq_Zb Z447 := tq_Zb_add Z446_b
theorem Z448_b : tq_Zb Z448 := tq_Zb_sR (by decide +kernel) (by decide) Z447_b
theorem Z449_b : tq_Zb Z449 := tq_Zb_add Z448_b
theorem Z450_b : tq_Zb Z450 := tq_Zb_sR (by decide +kernel) (by decide) Z449_b
theorem Z451_b : tq_Zb Z451 := tq_Zb_add Z450_b
theorem Z452_b : tq_Zb Z452 := tq_Zb_sR (by decide +kernel) (by decide) Z451_b
theorem Z453_b : tq_Zb Z453 := tq_Zb_add Z452_b
theorem Z454_b : tq_Zb Z454 := tq_Zb_sR (by decide +kernel) (by decide) Z453_b
theorem Z455_b : tq_Zb Z455 := tq_Zb_add Z454_b
theorem Z456_b : tq_Zb Z456 := tq_Zb_sR (by decide +kernel) (by decide) Z455_b
theorem Z457_b : tq_Zb Z457 := tq_Zb_add Z456_b
theorem Z458_b : tq_Zb Z458 := tq_Zb_sR (by decide +kernel) (by decide) Z457_b
theorem Z459_b : tq_Zb Z459 := tq_Zb_add Z458_b
theorem Z460_b : tq_Zb Z460 := tq_Zb_sR (by decide +kernel) (by decide) Z459_b
theorem Z461_b : tq_Zb Z461 := tq_Zb_add Z460_b
theorem Z462_b : tq_Zb Z462 := tq_Zb_sR (by decide +kernel) (by decide) Z461_b
theorem Z463_b : tq_Zb Z463 := tq_Zb_add Z462_b
theorem Z464_b : tq_Zb Z464 := tq_Zb_sR (by decide +kernel) (by decide) Z463_b
theorem Z465_b : tq_Zb Z465 := tq_Zb_add Z464_b
theorem Z466_b : tq_Zb Z466 := tq_Zb_sR (by decide +kernel) (by decide) Z465_b
theorem Z467_b : tq_Zb Z467 := tq_Zb_add Z466_b
theorem Z468_b : tq_Zb Z468 := tq_Zb_sR (by decide +kernel) (by decide) Z467_b
theorem Z469_b : tq_Zb Z469 := tq_Zb_add Z468_b
theorem Z470_b : tq_Zb Z470 := tq_Zb_sR (by decide +kernel) (by decide) Z469_b
theorem Z471_b : tq_Zb Z471 := tq_Zb_add Z470_b
theorem Z472_b : tq_Zb Z472 := tq_Zb_sR (by decide +kernel) (by decide) Z471_b
theorem Z473_b : tq_Zb Z473 := tq_Zb_sI Z472_b
