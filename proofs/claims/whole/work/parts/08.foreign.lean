/-! THE SMALL MACHINE: the script, the texts, the JDK's own. -/
section TQ6
variable {S : Nat × (Nat → Int32)} {M : tq_M} {d : Nat} {c0 : Nat × Nat} {pc nx tgt : Nat} {ls st : List Value} {σ : tq_S} {Q : Option Value → tq_S → Prop}
theorem tq_sld {i : Int32} (hd : tq_D M.2.1 pc (.iaload) 1 nx) (hi : vp_in i S.1) (kk : tq_X S M d c0 nx ls (.int (S.2 i.toNatClampNeg) :: st) σ Q) : tq_X S M d c0 pc ls (.int i :: .retAddr 0 :: st) σ Q := by
  obtain ⟨hd, rfl⟩ := hd
  intro G p e R s m args below meth c H locs la F Wd hS hl hc
  have hS2 := F.2.2.2.2.2.2.2.2.1.2.2.2.2
  have hX := F.2.2.2.2.2.2.2.2.2.2.2.2.2.2.1
  rw [show G.2.2.2.2.1.2.1 = S.1 by rw [hS2], show G.2.2.2.2.1.2.2 = S.2 by rw [hS2]] at hX
  have hb := F.2.2.2.2.2.2.2.2.2.2.2.2.2.2.2.1
  exact va_sld F.1 F.2.1 hX (Nat.lt_of_lt_of_le hb F.2.2.2.2.2.2.2.2.2.2.2.1) (Nat.not_le.mpr hb) hS hi hd (kk G p e R s m args below meth c H locs la F Wd hS hl hc)
theorem tq_slen (hd : tq_D M.2.1 pc (.arraylength) 1 nx) (kk : tq_X S M d c0 nx ls (.int (nI S.1) :: st) σ Q) : tq_X S M d c0 pc ls (.retAddr 0 :: st) σ Q := by
  obtain ⟨hd, rfl⟩ := hd
  intro G p e R s m args below meth c H locs la F Wd hS hl hc
  have hS2 := F.2.2.2.2.2.2.2.2.1.2.2.2.2
  have hX := F.2.2.2.2.2.2.2.2.2.2.2.2.2.2.1
  rw [show G.2.2.2.2.1.2.1 = S.1 by rw [hS2], show G.2.2.2.2.1.2.2 = S.2 by rw [hS2]] at hX
  have hb := F.2.2.2.2.2.2.2.2.2.2.2.2.2.2.2.1
  exact va_slen F.1 F.2.1 hX (Nat.lt_of_lt_of_le hb F.2.2.2.2.2.2.2.2.2.2.2.1) (Nat.not_le.mpr hb) hS hd (kk G p e R s m args below meth c H locs la F Wd hS hl hc)
/-- a text of the class: its place i among the texts -/
theorem tq_ldcS {ix i : Nat} (hd : tq_D M.2.1 pc (.ldc ix) 2 nx) (hi : i < 11) (hx : tq_kJ.getD i 0 = ix) (hM : M.1.cls = "TwoQuarries$Reader") (kk : tq_X S M d c0 nx ls (.retAddr (i + 1) :: st) σ Q) : tq_X S M d c0 pc ls st σ Q := by
  obtain ⟨hd, rfl⟩ := hd
  intro G p e R s m args below meth c H locs la F Wd hS hl hc
  have hR := F.2.2.2.2.2.2.2.2.2.2.2.2.2.2.2.2.2.2.1 i hi
  rw [hx] at hR
  have hX := kk G p e R s m args below meth c H locs la F Wd hS hl hc
  have e3 : tq_cv G (.retAddr (i + 1)) = .ref (G.2.2.2.2.2.1 i) := by
    show Value.ref (tq_fo G (i + 1)) = _
    unfold tq_fo
    rw [if_neg (by omega), if_pos (by omega), Nat.add_sub_cancel]
  rw [List.map_cons, e3] at hX
  have ho := F.2.2.2.1
  rw [hM] at ho
  exact va_ldcS F.1 F.2.1 ho hR hd hX
theorem tq_fo_k {G : tq_G} {i : Nat} (hi : i < 11) : tq_cv G (.retAddr (i + 1)) = .ref (G.2.2.2.2.2.1 i) := by
  show Value.ref (tq_fo G (i + 1)) = _
  unfold tq_fo
  rw [if_neg (by omega), if_pos (by omega), Nat.add_sub_cancel]
theorem tq_fo_v {G : tq_G} {i : Nat} : tq_cv G (.retAddr (i + 101)) = .ref (G.2.2.2.2.2.2 i) := by
  show Value.ref (tq_fo G (i + 101)) = _
  unfold tq_fo
  rw [if_neg (by omega), if_neg (by omega), Nat.add_sub_cancel]
theorem tq_getStrV {ix i : Nat} (hd : tq_D M.2.1 pc (.getfield ix) 3 nx) (hi : i < 11) (hw : Cond.fieldLink M.1.cls ix "java/lang/String" "value" "[B" ∈ lw_tbl) (kk : tq_X S M d c0 nx ls (.retAddr (i + 101) :: st) σ Q) : tq_X S M d c0 pc ls (.retAddr (i + 1) :: st) σ Q := by
  obtain ⟨hd, rfl⟩ := hd
  intro G p e R s m args below meth c H locs la F Wd hS hl hc
  have hR := (F.2.2.2.2.2.2.2.2.2.2.2.2.2.2.2.2.1.1 i hi).2.2.1
  have hX := kk G p e R s m args below meth c H locs la F Wd hS hl hc
  rw [List.map_cons, tq_fo_v] at hX
  rw [List.map_cons, tq_fo_k hi]
  exact vk_getf F.1 F.2.1 hR hS F.2.2.2.1 (F.2.2.2.2.1 _ (List.mem_filter.mpr ⟨hw, rfl⟩)) (fun x h => h) hd hX
theorem tq_getStrC {ix i : Nat} (hd : tq_D M.2.1 pc (.getfield ix) 3 nx) (hi : i < 11) (hw : Cond.fieldLink M.1.cls ix "java/lang/String" "coder" "B" ∈ lw_tbl) (kk : tq_X S M d c0 nx ls (.int 0 :: st) σ Q) : tq_X S M d c0 pc ls (.retAddr (i + 1) :: st) σ Q := by
  obtain ⟨hd, rfl⟩ := hd
  intro G p e R s m args below meth c H locs la F Wd hS hl hc
  have hR := (F.2.2.2.2.2.2.2.2.2.2.2.2.2.2.2.2.1.1 i hi).2.1
  have hX := kk G p e R s m args below meth c H locs la F Wd hS hl hc
  rw [List.map_cons, tq_fo_k hi]
  exact vk_getf F.1 F.2.1 hR hS F.2.2.2.1 (F.2.2.2.2.1 _ (List.mem_filter.mpr ⟨hw, rfl⟩)) (fun x h => h) hd hX
theorem tq_lenStr {i : Nat} (hd : tq_D M.2.1 pc (.arraylength) 1 nx) (hi : i < 11) (kk : tq_X S M d c0 nx ls (.int (nI (tq_lJ.getD i 0)) :: st) σ Q) : tq_X S M d c0 pc ls (.retAddr (i + 101) :: st) σ Q := by
  obtain ⟨hd, rfl⟩ := hd
  intro G p e R s m args below meth c H locs la F Wd hS hl hc
  have hR := (F.2.2.2.2.2.2.2.2.2.2.2.2.2.2.2.2.1.1 i hi).2.2.2
  have hX := kk G p e R s m args below meth c H locs la F Wd hS hl hc
  rw [List.map_cons, tq_fo_v]
  exact va_tlen F.1 F.2.1 hR hS rfl hd hX
theorem tq_baldStr {i : Nat} {j : Int32} (hd : tq_D M.2.1 pc (.baload) 1 nx) (hi : i < 11) (hj : vp_in j (tq_lJ.getD i 0)) (kk : tq_X S M d c0 nx ls (.int ((tq_bJ.getD i []).getD j.toNatClampNeg 0) :: st) σ Q) : tq_X S M d c0 pc ls (.int j :: .retAddr (i + 101) :: st) σ Q := by
  obtain ⟨hd, rfl⟩ := hd
  intro G p e R s m args below meth c H locs la F Wd hS hl hc
  have hR := (F.2.2.2.2.2.2.2.2.2.2.2.2.2.2.2.2.1.1 i hi).2.2.2
  have hX := kk G p e R s m args below meth c H locs la F Wd hS hl hc
  rw [List.map_cons, List.map_cons, tq_fo_v]
  exact va_tb F.1 F.2.1 hR hS hj rfl hd hX
theorem tq_getCS {ix : Nat} (hd : tq_D M.2.1 pc (.getstatic ix) 3 nx) (hw : Cond.fieldLink M.1.cls ix "java/lang/String" "COMPACT_STRINGS" "Z" ∈ lw_tbl) (kk : tq_X S M d c0 nx ls (.int 1 :: st) σ Q) : tq_X S M d c0 pc ls st σ Q := by
  obtain ⟨hd, rfl⟩ := hd
  intro G p e R s m args below meth c H locs la F Wd hS hl hc
  exact va_gets F.1 F.2.1 F.2.2.2.2.2.2.2.2.2.2.2.2.2.2.2.2.2.1 hS F.2.2.2.1 (F.2.2.2.2.1 _ (List.mem_filter.mpr ⟨hw, rfl⟩)) (fun x h => h) hd (kk G p e R s m args below meth c H locs la F Wd hS hl hc)
theorem tq_getFm {ix : Nat} (hd : tq_D M.2.1 pc (.getstatic ix) 3 nx) (hw : Cond.fieldLink M.1.cls ix "jdk/internal/util/Preconditions" "SIOOBE_FORMATTER" "Ljava/util/function/BiFunction;" ∈ lw_tbl) (k1 : tq_X S M d c0 nx ls (.null :: st) σ Q) (k2 : tq_X S M d c0 nx ls (.retAddr 900 :: st) σ Q) : tq_X S M d c0 pc ls st σ Q := by
  obtain ⟨hd, rfl⟩ := hd
  intro G p e R s m args below meth c H locs la F Wd hS hl hc
  rcases F.2.2.2.2.2.2.2.2.2.2.2.2.2.2.2.2.2.2.2 with hz | hz
  · exact va_gets F.1 F.2.1 hz hS F.2.2.2.1 (F.2.2.2.2.1 _ (List.mem_filter.mpr ⟨hw, rfl⟩)) (fun x h => h) hd (k1 G p e R s m args below meth c H locs la F Wd hS hl hc)
  · exact va_gets F.1 F.2.1 hz hS F.2.2.2.1 (F.2.2.2.2.1 _ (List.mem_filter.mpr ⟨hw, rfl⟩)) (fun x h => h) hd (k2 G p e R s m args below meth c H locs la F Wd hS hl hc)
theorem tq_sum8 {G : tq_G} {st : List Value} : ((st.map (tq_cv G)).map fun v => v.category) = st.map fun v => v.category := by
  rw [List.map_map]
  refine List.map_congr_left fun v _ => ?_
  exact tq_cat G v
theorem tq_mmax {ix : Nat} {x y : Int32} (hd : tq_D M.2.1 pc (.invokestatic ix) 3 nx) (h8 : (st.map fun v => v.category).sum ≤ 8) (hw : Cond.methodLink M.1.cls ix Lib.Math.max.name ∈ lw_tbl ∧ Cond.static Lib.Math.max.name ∈ lw_tbl ∧ Cond.initialized "java/lang/Math" ∈ lw_tbl ∧ Cond.code Lib.Math.max.name Lib.Math.max.code 2 (some .int) ∈ lw_tbl) (kk : tq_X S M (d + 1) c0 nx ls (.int (if x < y then y else x) :: st) σ Q) : tq_X S M (d + 1) c0 pc ls (.int y :: .int x :: st) σ Q := by
  obtain ⟨hd, rfl⟩ := hd
  intro G p e R s m args below meth c H locs la F Wd hS hl hc
  have hts := fun w h h2 => F.2.2.2.2.1 w (List.mem_filter.mpr ⟨h, h2⟩)
  have hR := F.2.2.2.2.2.2.2.2.1
  exact va_mmax F.1 F.2.1 (F.2.2.1.trans hl.1.symm) F.2.2.2.1 (hts _ hw.1 rfl) (hts _ hw.2.1 rfl) (hts _ hw.2.2.1 rfl) (hts _ hw.2.2.2 rfl) (by omega) (by rw [tq_sum8]; omega) (by omega) (by omega) hd (kk G p e R s m args below meth c H locs la F Wd hS hl hc)
theorem tq_mmin {ix : Nat} {x y : Int32} (hd : tq_D M.2.1 pc (.invokestatic ix) 3 nx) (h8 : (st.map fun v => v.category).sum ≤ 8) (hw : Cond.methodLink M.1.cls ix Lib.Math.min.name ∈ lw_tbl ∧ Cond.static Lib.Math.min.name ∈ lw_tbl ∧ Cond.initialized "java/lang/Math" ∈ lw_tbl ∧ Cond.code Lib.Math.min.name Lib.Math.min.code 2 (some .int) ∈ lw_tbl) (kk : tq_X S M (d + 1) c0 nx ls (.int (if y < x then y else x) :: st) σ Q) : tq_X S M (d + 1) c0 pc ls (.int y :: .int x :: st) σ Q := by
  obtain ⟨hd, rfl⟩ := hd
  intro G p e R s m args below meth c H locs la F Wd hS hl hc
  have hts := fun w h h2 => F.2.2.2.2.1 w (List.mem_filter.mpr ⟨h, h2⟩)
  have hR := F.2.2.2.2.2.2.2.2.1
  exact va_mmin F.1 F.2.1 (F.2.2.1.trans hl.1.symm) F.2.2.2.1 (hts _ hw.1 rfl) (hts _ hw.2.1 rfl) (hts _ hw.2.2.1 rfl) (hts _ hw.2.2.2 rfl) (by omega) (by rw [tq_sum8]; omega) (by omega) (by omega) hd (kk G p e R s m args below meth c H locs la F Wd hS hl hc)
theorem tq_mabs {ix : Nat} {x : Int32} (hd : tq_D M.2.1 pc (.invokestatic ix) 3 nx) (h8 : (st.map fun v => v.category).sum ≤ 8) (hw : Cond.methodLink M.1.cls ix Lib.Math.abs.name ∈ lw_tbl ∧ Cond.static Lib.Math.abs.name ∈ lw_tbl ∧ Cond.initialized "java/lang/Math" ∈ lw_tbl ∧ Cond.code Lib.Math.abs.name Lib.Math.abs.code 1 (some .int) ∈ lw_tbl) (kk : tq_X S M (d + 1) c0 nx ls (.int (if 0 ≤ x then x else 0 - x) :: st) σ Q) : tq_X S M (d + 1) c0 pc ls (.int x :: st) σ Q := by
  obtain ⟨hd, rfl⟩ := hd
  intro G p e R s m args below meth c H locs la F Wd hS hl hc
  have hts := fun w h h2 => F.2.2.2.2.1 w (List.mem_filter.mpr ⟨h, h2⟩)
  have hR := F.2.2.2.2.2.2.2.2.1
  exact va_mabs F.1 F.2.1 (F.2.2.1.trans hl.1.symm) F.2.2.2.1 (hts _ hw.1 rfl) (hts _ hw.2.1 rfl) (hts _ hw.2.2.1 rfl) (hts _ hw.2.2.2 rfl) (by omega) (by rw [tq_sum8]; omega) (by omega) (by omega) hd (kk G p e R s m args below meth c H locs la F Wd hS hl hc)
def tq_cpI (σ : tq_S) (a0 a sp dp n : Nat) : tq_S := (σ.1, σ.2.1, tq_row σ.2.2.1 a (va_cpy (σ.2.2.1 a0) (σ.2.2.1 a) sp dp n), σ.2.2.2)
theorem tq_copy {ix a0 a t : Nat} {n dp sp : Int32} (hd : tq_D M.2.1 pc (.invokestatic ix) 3 nx) (h8 : (st.map fun v => v.category).sum ≤ 8) (hw : Cond.methodLink M.1.cls ix arraycopyName ∈ lw_tbl ∧ Cond.native arraycopyName ∈ lw_tbl ∧ Cond.static arraycopyName ∈ lw_tbl ∧ Cond.initialized "java/lang/System" ∈ lw_tbl) (ht : t = 100 ∨ t = 102) (hs0 : σ.2.1.1 a0 = t) (hs : σ.2.1.1 a = t) (h1 : ¬ sp < 0) (h2 : ¬ dp < 0) (h3 : ¬ n < 0) (h4 : sp.toNatClampNeg + n.toNatClampNeg ≤ σ.2.1.2.1 a0) (h5 : dp.toNatClampNeg + n.toNatClampNeg ≤ σ.2.1.2.1 a)
    (kk : tq_X S M (d + 1) c0 nx ls st (tq_cpI σ a0 a sp.toNatClampNeg dp.toNatClampNeg n.toNatClampNeg) Q) : tq_X S M (d + 1) c0 pc ls (.int n :: .int dp :: .ref a :: .int sp :: .ref a0 :: st) σ Q := by
  obtain ⟨hd, rfl⟩ := hd
  intro G p e R s m args below meth c H locs la F Wd hS hl hc
  have hts := fun w h h2 => F.2.2.2.2.1 w (List.mem_filter.mpr ⟨h, h2⟩)
  have hR := F.2.2.2.2.2.2.2.2.1
  have nn : ∀ z : Int32, ¬ z < 0 → z.toInt = (z.toNatClampNeg : Int) := by
    intro z hz
    have hz0 : (0 : Int) ≤ z.toInt := by
      have := Int32.not_lt.mp hz
      simpa using Int32.le_iff_toInt_le.mp this
    show z.toInt = ((z.toInt.toNat : Nat) : Int)
    omega
  obtain ⟨hc0, hk0, -⟩ := tq_arI Wd hs0 (by omega)
  obtain ⟨hc1, hk1, -⟩ := tq_arI Wd hs (by omega)
  intro T hT X
  have hc0 : H[G.2.2.2.1 + a0]? = some (vp_cell (G.2.2.1 t) (σ.2.1.2.1 a0, .inl (σ.2.2.1 a0))) := hc0
  have hc1 : H[G.2.2.2.1 + a]? = some (vp_cell (G.2.2.1 t) (σ.2.1.2.1 a, .inl (σ.2.2.1 a))) := hc1
  obtain ⟨-, k0, hk0', cm0, hkk0⟩ := hk0 (σ.2.1.2.1 a0) (fun j => .int (σ.2.2.1 a0 j))
  obtain ⟨-, k1, hk1', cm1, hkk1⟩ := hk1 (σ.2.1.2.1 a) (fun j => .int (σ.2.2.1 a j))
  have hprim : refKind (tq_at t) = false := by rcases ht with rfl | rfl <;> rfl
  have hfit : ∀ j, fits (tq_at t) (.int (σ.2.2.1 a0 j)) = true := by
    intro j
    rcases ht with rfl | rfl
    · rfl
    · exact Wd.2.2.2.2 a0 hs0 j
  obtain ⟨vm', X', step⟩ := X.arraycopy F.1 F.2.2.2.1 (hts _ hw.1 rfl) (hts _ hw.2.1 rfl) (hts _ hw.2.2.1 rfl) (hts _ hw.2.2.2 rfl) (src := G.2.2.2.1 + a0) (dst := G.2.2.2.1 + a) (cs := vp_cell (G.2.2.1 t) (σ.2.1.2.1 a0, .inl (σ.2.2.1 a0))) (cd := vp_cell (G.2.2.1 t) (σ.2.1.2.1 a, .inl (σ.2.2.1 a))) (srcPos := sp) (destPos := dp) (n := n) (by rw [hT]; exact hc0) (by rw [hT]; exact hc1)
    (fun _ h => by cases h) (fun _ h => by cases h) (fun h => by cases h) (fun h => by cases h) hk0' hk1' hkk0 hkk1 (by simp [hprim]) h1 h2 h3
    (by rw [nn sp h1, nn n h3]; show ¬ _ > ((arrV (G.2.2.1 t) (σ.2.1.2.1 a0) (fun j => .int (σ.2.2.1 a0 j))).slots.size : Int); rw [arrV_size]; omega)
    (by rw [nn dp h2, nn n h3]; show ¬ _ > ((arrV (G.2.2.1 t) (σ.2.1.2.1 a) (fun j => .int (σ.2.2.1 a j))).slots.size : Int); rw [arrV_size]; omega)
    (fun vm₁ _ i hi => by
      have e : (vp_cell (G.2.2.1 t) (σ.2.1.2.1 a0, .inl (σ.2.2.1 a0))).slots.getD (sp.toNatClampNeg + i) .null = .int (σ.2.2.1 a0 (sp.toNatClampNeg + i)) := by
        show (arrV (G.2.2.1 t) (σ.2.1.2.1 a0) (fun j => .int (σ.2.2.1 a0 j))).slots.getD _ _ = _
        rw [Array.getD_eq_getD_getElem?, arrV_read _ _ (by omega)]
        rfl
      refine ⟨?_, ?_⟩
      · rw [e]
        exact hfit _
      · rw [e]
        exact trivial)
    (g := F0 m pc la (.int n :: .int dp :: .ref (G.2.2.2.1 + a) :: .int sp :: .ref (G.2.2.2.1 + a0) :: st.map (tq_cv G))) rfl (by rw [F.2.2.1]; exact hl.1) (rest := st.map (tq_cv G)) rfl (by rw [F.2.1]; exact hd) (by omega) (by show 2 * 0 + _ + _ ≤ _; rw [tq_sum8]; have hx9 : nativeFrameWords "java/lang/System" "arraycopy" 5 + 11 ≤ 52 := (by decide +kernel); omega)
  have e1 : copied (vp_cell (G.2.2.1 t) (σ.2.1.2.1 a0, .inl (σ.2.2.1 a0))) (vp_cell (G.2.2.1 t) (σ.2.1.2.1 a, .inl (σ.2.2.1 a))) sp dp n = vp_cell (G.2.2.1 t) (σ.2.1.2.1 a, .inl (va_cpy (σ.2.2.1 a0) (σ.2.2.1 a) sp.toNatClampNeg dp.toNatClampNeg n.toNatClampNeg)) := va_copied (fun z => .int z) _ _ _ _ h4
  rw [e1] at X' step
  have hlt : G.2.2.2.1 + a < H.size := (Array.getElem?_eq_some_iff.mp hc1).1
  generalize hcell : vp_cell (G.2.2.1 t) (σ.2.1.2.1 a, .inl (va_cpy (σ.2.2.1 a0) (σ.2.2.1 a) sp.toNatClampNeg dp.toNatClampNeg n.toNatClampNeg)) = nc at X' step
  have hheap : ((T.setVm vm').setCell (G.2.2.2.1 + a) nc).heap = H.setIfInBounds (G.2.2.2.1 + a) nc := by rw [← hT]; rfl
  have oq : ∀ q : Nat, q ≠ G.2.2.2.1 + a → (H.setIfInBounds (G.2.2.2.1 + a) nc)[q]? = H[q]? := fun q hq => by simp [Array.getElem?_setIfInBounds, Ne.symm hq]
  have z : (H.setIfInBounds (G.2.2.2.1 + a) nc).size = H.size := by simp
  have W1 : tq_Wt G s (H.setIfInBounds (G.2.2.2.1 + a) nc) (tq_cpI σ a0 a sp.toNatClampNeg dp.toNatClampNeg n.toNatClampNeg) := by
    refine tq_Wt_set Wd rfl rfl (fun b hb => tq_ce_ne rfl rfl rfl (tq_row_n hb) rfl) ?_ z oq ?_
    · unfold tq_ce
      rw [if_neg (by show ¬ σ.2.1.1 a < 100; omega), if_neg (by show ¬ σ.2.1.1 a = 101; omega), if_pos (by show σ.2.1.1 a < 110; omega)]
      show (H.setIfInBounds (G.2.2.2.1 + a) nc)[G.2.2.2.1 + a]? = some (vp_cell (G.2.2.1 (σ.2.1.1 a)) (σ.2.1.2.1 a, .inl (tq_row σ.2.2.1 a _ a)))
      rw [tq_row_s, hs, hcell]
      simp [Array.getElem?_setIfInBounds, hlt]
    · intro b hb j
      show fits .byte (.int (tq_row σ.2.2.1 a _ b j)) = true
      by_cases hba : b = a
      · subst hba
        have hb : σ.2.1.1 b = 102 := hb
        have ht2 : t = 102 := by omega
        subst ht2
        rw [tq_row_s]
        unfold va_cpy
        split
        · exact Wd.2.2.2.2 a0 hs0 _
        · exact Wd.2.2.2.2 b hb _
      · rw [tq_row_n hba]
        exact Wd.2.2.2.2 b hb j
  obtain ⟨t9, a1, b1⟩ := kk G p e R s m args below meth c _ _ la F W1 ⟨by rw [z]; exact hS.1, fun q g1 g2 => by
      rw [oq q (fun e => g2 (by rw [e]; exact Nat.le_add_right _ _))]
      exact hS.2.1 q g1 g2, fun q hq => by
      rcases List.mem_append.mp hq with h | h
      · exact hS.2.2 q h
      · obtain ⟨z, -, hz⟩ := List.mem_map.mp h
        rw [← hz]
        exact Nat.le_add_right _ _⟩ hl hc _ hheap X'
  exact ⟨t9, step t9 a1, b1⟩
end TQ6
