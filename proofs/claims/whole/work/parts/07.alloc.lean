/-! THE SMALL MACHINE: making cells. -/
def tq_row {α : Type} (f : Nat → α) (a : Nat) (g : α) : Nat → α := fun b => if b = a then g else f b
/-- a further cell: kind t, length n, w slots, all zero -/
def tq_add (σ : tq_S) (t n w : Nat) : tq_S := ((σ.1.1 + 1, σ.1.2 + w), (tq_row σ.2.1.1 σ.1.1 t, tq_row σ.2.1.2.1 σ.1.1 n, tq_row σ.2.1.2.2 σ.1.1 (fun _ => none)), tq_row σ.2.2.1 σ.1.1 (fun _ => 0), tq_row σ.2.2.2 σ.1.1 (fun _ => 0))
theorem tq_row_s {α : Type} {f : Nat → α} {a : Nat} {g : α} : tq_row f a g a = g := by simp [tq_row]
theorem tq_row_n {α : Type} {f : Nat → α} {a b : Nat} {g : α} (h : b ≠ a) : tq_row f a g b = f b := by simp [tq_row, h]
theorem tq_add_ce {G : tq_G} {σ : tq_S} {t n w i : Nat} (h : i ≠ σ.1.1) : tq_ce G (tq_add σ t n w) i = tq_ce G σ i := by
  unfold tq_ce tq_fs tq_fv tq_add
  simp only [tq_row_n h]
theorem tq_add_Wt {G : tq_G} {s : State} {H H1 : Heap} {σ : tq_S} {t n w : Nat} (h : tq_Wt G s H σ) (ht : t ≠ 99) (hz : H1.size = H.size + 1) (ho : ∀ q, q < H.size → H1[q]? = H[q]?) (hnew : va_at G.2.1 vwCl (H.size, tq_ce G (tq_add σ t n w) σ.1.1) H1) (hA : 100 ≤ t → ArrOfT s (G.2.2.1 t) (tq_at t) ∧ va_RA s (G.2.2.1 t) (tq_at t)) : tq_Wt G s H1 (tq_add σ t n w) := by
  obtain ⟨h1, h2, h3, h4, h5⟩ := h
  refine ⟨by rw [hz, h1]; rfl, fun i hi => ?_, fun i hi hq => ?_, fun i hi => ?_, fun i hi j => ?_⟩
  · by_cases hia : i = σ.1.1
    · subst hia
      rw [← h1]
      exact hnew
    · rw [tq_add_ce hia]
      have hlt : i < σ.1.1 := by have : i < σ.1.1 + 1 := hi; omega
      exact (h2 i hlt).kept (ho _ (by omega))
  · by_cases hia : i = σ.1.1
    · subst hia
      have e1 : (tq_add σ t n w).2.1.1 σ.1.1 = t := tq_row_s
      rw [e1] at hq ⊢
      exact hA hq
    · have e1 : (tq_add σ t n w).2.1.1 i = σ.2.1.1 i := tq_row_n hia
      rw [e1] at hq ⊢
      exact h3 i (by have : i < σ.1.1 + 1 := hi; omega) hq
  · have hi2 : σ.1.1 + 1 ≤ i := hi
    have e1 : (tq_add σ t n w).2.1.1 i = σ.2.1.1 i := tq_row_n (by omega)
    rw [e1]
    exact h4 i (by omega)
  · by_cases hia : i = σ.1.1
    · subst hia
      have e1 : (tq_add σ t n w).2.2.1 σ.1.1 = (fun _ => 0) := tq_row_s
      rw [e1]
      rfl
    · have e1 : (tq_add σ t n w).2.1.1 i = σ.2.1.1 i := tq_row_n hia
      have e2 : (tq_add σ t n w).2.2.1 i = σ.2.2.1 i := tq_row_n hia
      rw [e1] at hi
      rw [e2]
      exact h5 i hi j
theorem tq_defv (t : FieldType) (ht : t = .int ∨ t = .boolean ∨ t = .long ∨ (∃ x, t = .object x) ∨ ∃ x, t = .array x) : defaultValue t = if tq_tc t = 0 then .int 0 else if tq_tc t = 1 then .long 0 else .null := by
  rcases ht with rfl | rfl | rfl | ⟨x, rfl⟩ | ⟨x, rfl⟩ <;> rfl
def tq_tok : FieldType → Bool
  | .int => true
  | .boolean => true
  | .long => true
  | .object _ => true
  | .array _ => true
  | _ => false
theorem tq_tok_of {t : FieldType} (h : tq_tok t = true) : t = .int ∨ t = .boolean ∨ t = .long ∨ (∃ x, t = .object x) ∨ ∃ x, t = .array x := by
  cases t <;> simp_all [tq_tok]
theorem tq_cl_tok : ∀ ci, ci < 13 → ∀ k, k < tq_nf ci → tq_tok (tq_tyf ci k) = true := by decide +kernel
section TQ5
variable {S : Nat × (Nat → Int32)} {M : tq_M} {d : Nat} {c0 : Nat × Nat} {pc nx tgt : Nat} {ls st : List Value} {σ : tq_S} {Q : Option Value → tq_S → Prop}
theorem tq_new {ix ci : Nat} (hd : tq_D M.2.1 pc (.new ix) 3 nx) (hci : ci < 13) (hw : Cond.classLink M.1.cls ix (tq_cl ci).1 ∈ lw_tbl ∧ Cond.instantiable (tq_cl ci).1 (tq_cl ci).2.2 ∈ lw_tbl ∧ Cond.initialized (tq_cl ci).1 ∈ lw_tbl) (hb : σ.1.1 + 1 ≤ c0.1 + M.2.2.2.2.1 ∧ σ.1.2 + tq_nf ci ≤ c0.2 + M.2.2.2.2.2)
    (kk : tq_X S M d c0 nx ls (.ref σ.1.1 :: st) (tq_add σ ci 0 (tq_nf ci)) Q) : tq_X S M d c0 pc ls st σ Q := by
  obtain ⟨hd, rfl⟩ := hd
  intro G p e R s m args below meth c H locs la F Wd hS hl hc
  have hcl := tq_cl_at hci
  have hnn := tq_cl_n ci hci
  have hin := tq_in hci
  rw [← hnn] at hin
  have hK := F.2.2.2.2.2.2.2.2.2.1
  have hts := F.2.2.2.2.1
  have hR := F.2.2.2.2.2.2.2.2.1
  have hKn := hK.1 ci _ hcl
  refine W.newcK F.1 F.2.1 F.2.2.2.1 (hts _ (List.mem_filter.mpr ⟨hw.1, rfl⟩)) (hts _ (List.mem_filter.mpr ⟨hw.2.1, rfl⟩)) (hts _ (List.mem_filter.mpr ⟨hw.2.2, rfl⟩)) rfl hd (by omega) (by rw [hnn]; omega) hKn.2.1 rfl fun H1 kC hkC e1 z1 o1 => ?_
  have hfs : ∀ j, j < (tq_cl ci).2.2 → defaultValue (tq_tyf ci j) = vp_V (tq_fs G (tq_add σ ci 0 (tq_nf ci)) σ.1.1 ci) j := by
    intro j hj
    rw [hnn] at hj
    unfold vp_V
    rw [List.getD_eq_getElem?_getD, tq_fs_at hj, Option.getD_some, tq_defv _ (tq_tok_of (tq_cl_tok ci hci j hj))]
    unfold tq_fv tq_add
    simp only [tq_row_s]
    rfl
  have hborn := (u_born (tq_tyf ci) hts hin hKn hkC e1 (fun k hk => tq_cl_ty ci hci k (by rw [← hnn]; exact hk))).to hfs
  have W1 : tq_Wt G s H1 (tq_add σ ci 0 (tq_nf ci)) := by
    refine tq_add_Wt Wd (by omega) z1 o1 ?_ (fun q => by omega)
    unfold tq_ce
    have e2 : (tq_add σ ci 0 (tq_nf ci)).2.1.1 σ.1.1 = ci := tq_row_s
    rw [e2, if_pos (by omega)]
    exact ⟨_, hcl, hborn⟩
  have hX := kk G p e R s m args below meth c H1 locs la F W1 ⟨Nat.le_trans hS.1 (by omega), fun x h1 h2 => (o1 x (Nat.lt_of_lt_of_le h1 hS.1)).trans (hS.2.1 x h1 h2), hS.2.2⟩ hl ⟨by show c0.1 ≤ σ.1.1 + 1; omega, hb.1, by show c0.2 ≤ σ.1.2 + tq_nf ci; omega, hb.2⟩
  have e3 : tq_cv G (.ref σ.1.1) = .ref H.size := by rw [Wd.1]; rfl
  rw [List.map_cons, e3] at hX
  exact W.cs (by show _ = σ.1.1 + 1 - c0.1; omega) (by show _ = σ.1.2 + tq_nf ci - c0.2; rw [hnn]; omega) hX
theorem tq_newa {at0 : ArrayType} {t n : Nat} {x : Int32} (hd : tq_D M.2.1 pc (.newarray at0) 2 nx) (ht : (t = 100 ∧ at0 = .int) ∨ (t = 101 ∧ at0 = .long) ∨ (t = 102 ∧ at0 = .byte) ∨ (t = 103 ∧ at0 = .boolean)) (hw : Cond.arrayClass (tq_at t) ∈ lw_tbl) (hx : x = nI n) (hn : n < 60000) (hb : σ.1.1 + 1 ≤ c0.1 + M.2.2.2.2.1 ∧ σ.1.2 + n ≤ c0.2 + M.2.2.2.2.2)
    (kk : tq_X S M d c0 nx ls (.ref σ.1.1 :: st) (tq_add σ t n n) Q) : tq_X S M d c0 pc ls (.int x :: st) σ Q := by
  obtain ⟨hd, rfl⟩ := hd
  subst hx
  intro G p e R s m args below meth c H locs la F Wd hS hl hc
  have hts := F.2.2.2.2.1
  have hR := F.2.2.2.2.2.2.2.2.1
  have hty : newarray.typeOf at0 = tq_at t := by rcases ht with ⟨rfl, rfl⟩ | ⟨rfl, rfl⟩ | ⟨rfl, rfl⟩ | ⟨rfl, rfl⟩ <;> rfl
  have hcb : componentBytes (tq_at t) ≤ 8 := by rcases ht with ⟨rfl, rfl⟩ | ⟨rfl, rfl⟩ | ⟨rfl, rfl⟩ | ⟨rfl, rfl⟩ <;> decide
  refine va_newaK F.1 F.2.1 (by rw [hty]; exact hts _ (List.mem_filter.mpr ⟨hw, rfl⟩)) rfl hd rfl (nI_pos (by omega)) (nI_clamp (by omega)) (by rw [hty]; exact Nat.le_trans (Nat.mul_le_mul (Nat.le_of_lt hn) hcb) (by decide)) (by omega) (by omega) rfl fun H1 cA e1 z1 o1 hAr hNm => ?_
  rw [hty] at e1 hAr hNm
  have hcA : G.2.2.1 t = cA := by
    have := F.2.2.2.2.2.2.2.2.2.2.1 t
    rw [hNm] at this
    exact this
  have W1 : tq_Wt G s H1 (tq_add σ t n n) := by
    refine tq_add_Wt Wd (by omega) z1 o1 ?_ (fun q => ?_)
    · unfold tq_ce
      have e2 : (tq_add σ t n n).2.1.1 σ.1.1 = t := tq_row_s
      have e3 : (tq_add σ t n n).2.1.2.1 σ.1.1 = n := tq_row_s
      have e4 : (tq_add σ t n n).2.2.1 σ.1.1 = (fun _ => 0) := tq_row_s
      have e5 : (tq_add σ t n n).2.2.2 σ.1.1 = (fun _ => 0) := tq_row_s
      rw [e2, e3, e4, e5, hcA]
      rcases ht with ⟨rfl, rfl⟩ | ⟨rfl, rfl⟩ | ⟨rfl, rfl⟩ | ⟨rfl, rfl⟩
      · exact e1
      · rw [hcA]; exact e1
      · exact e1
      · exact e1
    · rw [hcA]
      refine ⟨hAr, ?_⟩
      rcases ht with ⟨rfl, rfl⟩ | ⟨rfl, rfl⟩ | ⟨rfl, rfl⟩ | ⟨rfl, rfl⟩ <;> exact hNm
  have hX := kk G p e R s m args below meth c H1 locs la F W1 ⟨Nat.le_trans hS.1 (by omega), fun x h1 h2 => (o1 x (Nat.lt_of_lt_of_le h1 hS.1)).trans (hS.2.1 x h1 h2), hS.2.2⟩ hl ⟨by show c0.1 ≤ σ.1.1 + 1; omega, hb.1, by show c0.2 ≤ σ.1.2 + n; omega, hb.2⟩
  have e3 : tq_cv G (.ref σ.1.1) = .ref H.size := by rw [Wd.1]; rfl
  rw [List.map_cons, e3] at hX
  exact W.cs (by show _ = σ.1.1 + 1 - c0.1; omega) (by show _ = σ.1.2 + n - c0.2; omega) hX
theorem tq_anew {ix ci n : Nat} {x : Int32} (hd : tq_D M.2.1 pc (.anewarray ix) 3 nx) (hci : ci < 13) (hw : Cond.classLink M.1.cls ix (tq_cl ci).1 ∈ lw_tbl ∧ Cond.arrayOver (.object (tq_cl ci).1) ∈ lw_tbl) (hx : x = nI n) (hn : n < 60000) (hb : σ.1.1 + 1 ≤ c0.1 + M.2.2.2.2.1 ∧ σ.1.2 + n ≤ c0.2 + M.2.2.2.2.2)
    (kk : tq_X S M d c0 nx ls (.ref σ.1.1 :: st) (tq_add σ (110 + ci) n n) Q) : tq_X S M d c0 pc ls (.int x :: st) σ Q := by
  obtain ⟨hd, rfl⟩ := hd
  subst hx
  intro G p e R s m args below meth c H locs la F Wd hS hl hc
  have hts := F.2.2.2.2.1
  have hR := F.2.2.2.2.2.2.2.2.1
  have hAO := F.2.2.2.2.2.2.2.2.2.2.2.2.2.1 _ hw.2
  have hty : tq_at (110 + ci) = .object (tq_cl ci).1 := by
    rw [tq_at_o (by omega), show 110 + ci - 110 = ci by omega, tq_cl_at hci]
    rfl
  have hcl32 : (nI n).toNatClampNeg = n := nI_clamp (by omega)
  refine W.anew F.1 F.2.1 F.2.2.2.1 (hts _ (List.mem_filter.mpr ⟨hw.1, rfl⟩)) (va_AO.use hAO) rfl hd rfl (nI_pos (by omega)) (by rw [hcl32]; omega) (by omega) (by rw [hcl32]; omega) fun cA kA comp f1 f2 f3 f4 => ?_
  rw [hcl32]
  generalize hH1 : H.push ({ cls := cA, slots := Array.replicate n .null, vm := .none } : Cell) = H1
  have z1 : H1.size = H.size + 1 := by rw [← hH1, Array.size_push]
  have e1 : H1[H.size]? = some (arrV cA n (fun _ => .null)) := by rw [← hH1, Array.getElem?_push_size, ← arrV_new]
  have o1 : ∀ q : Nat, q < H.size → H1[q]? = H[q]? := fun q hq => by rw [← hH1, Array.getElem?_push, if_neg (Nat.ne_of_lt hq)]
  have hAr : ArrOfT s cA (.object (tq_cl ci).1) := fun N z => ⟨(fun k h => by cases h), kA, f2, comp, f3⟩
  have hcA : G.2.2.1 (110 + ci) = cA := by
    have := F.2.2.2.2.2.2.2.2.2.2.1 (110 + ci)
    rw [hty, f1] at this
    exact this
  have W1 : tq_Wt G s H1 (tq_add σ (110 + ci) n n) := by
    refine tq_add_Wt Wd (by omega) z1 o1 ?_ (fun q => ?_)
    · unfold tq_ce
      have e2 : (tq_add σ (110 + ci) n n).2.1.1 σ.1.1 = 110 + ci := tq_row_s
      have e3 : (tq_add σ (110 + ci) n n).2.1.2.1 σ.1.1 = n := tq_row_s
      have e4 : (tq_add σ (110 + ci) n n).2.1.2.2 σ.1.1 = (fun _ => none) := tq_row_s
      rw [e2, e3, e4, hcA, if_neg (by omega), if_neg (by omega), if_neg (by omega)]
      exact e1
    · rw [hcA, hty]
      exact ⟨hAr, kA, comp, f2, f3, f4, f1⟩
  have hX := kk G p e R s m args below meth c H1 locs la F W1 ⟨Nat.le_trans hS.1 (by omega), fun x h1 h2 => (o1 x (Nat.lt_of_lt_of_le h1 hS.1)).trans (hS.2.1 x h1 h2), hS.2.2⟩ hl ⟨by show c0.1 ≤ σ.1.1 + 1; omega, hb.1, by show c0.2 ≤ σ.1.2 + n; omega, hb.2⟩
  have e3 : tq_cv G (.ref σ.1.1) = .ref H.size := by rw [Wd.1]; rfl
  rw [List.map_cons, e3] at hX
  exact W.cs (by show _ = σ.1.1 + 1 - c0.1; omega) (by show _ = σ.1.2 + n - c0.2; omega) hX
theorem tq_aast {a b ci : Nat} {i : Int32} (hd : tq_D M.2.1 pc (.aastore) 1 nx) (hs : σ.2.1.1 a = 110 + ci) (hci : ci < 13) (hb : σ.2.1.1 b = ci) (hi : vp_in i (σ.2.1.2.1 a)) (kk : tq_X S M d c0 nx ls st (tq_sR σ a i.toNatClampNeg b) Q) : tq_X S M d c0 pc ls (.ref b :: .int i :: .ref a :: st) σ Q := by
  obtain ⟨hd, rfl⟩ := hd
  intro G p e R s m args below meth c H locs la F Wd hS hl hc
  obtain ⟨h1, h2⟩ := tq_arR Wd hs (by omega)
  have hcl := tq_cl_at hci
  have hty : tq_at (110 + ci) = .object (tq_cl ci).1 := by
    rw [tq_at_o (by omega), show 110 + ci - 110 = ci by omega, hcl]
    rfl
  rw [hty] at h2
  have hlt : i.toNatClampNeg < σ.2.1.2.1 a := Nat.not_le.mp fun q => hi (Or.inr q)
  have h0 : ¬ i < 0 := fun q => hi (Or.inl q)
  have hK := F.2.2.2.2.2.2.2.2.2.1
  obtain ⟨r', hr', cellV, g1, g2, g3, -⟩ := tq_ob Wd hb hci
  have hcls := (hK.1 ci _ hcl).2
  obtain ⟨kA, comp, k1, k2, k3, -⟩ := h2.2
  have hcomp : comp = G.2.1.1 ci := Option.some.inj (k3.symm.trans hcls.1)
  subst hcomp
  obtain ⟨kC, hkC, -⟩ := hcls.2
  refine W.aast F.1 F.2.1 h1 (fun q h => by cases h) (fun h => by cases h) k1 k2 rfl hkC ⟨h0, by show _ < (arrV _ _ _).slots.size; rw [arrV_size]; exact hlt⟩ g1 (fun q h => by rw [g3] at h; cases h) (by rw [g2]; exact hkC) (by rw [g2]; exact va_assign hcls) rfl rfl hd fun H1 e9 z oq => ?_
  have W1 : tq_Wt G s H1 (tq_sR σ a i.toNatClampNeg b) := by
    refine tq_Wt_set Wd rfl rfl (fun b hb => tq_ce_ne rfl rfl (tq_up2_ne hb) rfl rfl) ?_ z oq (fun b hb j => Wd.2.2.2.2 b hb j)
    unfold tq_ce
    rw [if_neg (by show ¬ σ.2.1.1 a < 100; omega), if_neg (by show ¬ σ.2.1.1 a = 101; omega), if_neg (by show ¬ σ.2.1.1 a < 110; omega)]
    show H1[G.2.2.2.1 + a]? = some (vp_cell (G.2.2.1 (σ.2.1.1 a)) (σ.2.1.2.1 a, .inr (.inr (.inr (.inr (fun j => (tq_up2 σ.2.1.2.2 a i.toNatClampNeg (some b) a j).map (fun i => G.2.2.2.1 + i)))))))
    rw [e9, hs, vp_cell_q, vp_cell_q, arrV_store]
    congr 2
    funext q
    by_cases hq : q = i.toNatClampNeg
    · subst hq
      rw [tq_up2_s]
      simp [updV, va_rf]
    · rw [tq_up2_n hq]
      simp [updV, hq]
  exact kk G p e R s m args below meth c H1 _ la F W1 (hS.put z oq (Nat.le_add_right _ _)) hl hc
end TQ5
