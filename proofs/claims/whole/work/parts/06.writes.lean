/-! THE SMALL MACHINE: writes. -/
def tq_up2 {α : Type} (f : Nat → Nat → α) (a k : Nat) (x : α) : Nat → Nat → α := fun b j => if b = a ∧ j = k then x else f b j
def tq_sI (σ : tq_S) (a k : Nat) (x : Int32) : tq_S := (σ.1, σ.2.1, tq_up2 σ.2.2.1 a k x, σ.2.2.2)
def tq_sL (σ : tq_S) (a k : Nat) (x : Int64) : tq_S := (σ.1, σ.2.1, σ.2.2.1, tq_up2 σ.2.2.2 a k x)
def tq_sR (σ : tq_S) (a k : Nat) (b : Nat) : tq_S := (σ.1, (σ.2.1.1, σ.2.1.2.1, tq_up2 σ.2.1.2.2 a k (some b)), σ.2.2)
theorem tq_up2_ne {α : Type} {f : Nat → Nat → α} {a k b : Nat} {x : α} (h : b ≠ a) : tq_up2 f a k x b = f b := by
  funext j
  unfold tq_up2
  rw [if_neg (fun q => h q.1)]
theorem tq_up2_s {α : Type} {f : Nat → Nat → α} {a k : Nat} {x : α} : tq_up2 f a k x a k = x := by
  unfold tq_up2
  rw [if_pos ⟨rfl, rfl⟩]
theorem tq_up2_n {α : Type} {f : Nat → Nat → α} {a k j : Nat} {x : α} (h : j ≠ k) : tq_up2 f a k x a j = f a j := by
  unfold tq_up2
  rw [if_neg (fun q => h q.2)]
theorem tq_up2_any {α : Type} {f : Nat → Nat → α} {a k b j : Nat} {x : α} (h : b ≠ a ∨ j ≠ k) : tq_up2 f a k x b j = f b j := by
  unfold tq_up2
  rw [if_neg (fun q => h.elim (fun z => z q.1) (fun z => z q.2))]
theorem tq_Wt_set {G : tq_G} {s : State} {H H' : Heap} {σ σ' : tq_S} {a : Nat} (h : tq_Wt G s H σ) (hc : σ'.1 = σ.1) (hsh : σ'.2.1.1 = σ.2.1.1) (hce : ∀ i, i ≠ a → tq_ce G σ' i = tq_ce G σ i) (hnew : va_at G.2.1 vwCl (G.2.2.2.1 + a, tq_ce G σ' a) H') (hsz : H'.size = H.size) (ho : ∀ q, q ≠ G.2.2.2.1 + a → H'[q]? = H[q]?) (hb : ∀ i, σ'.2.1.1 i = 102 → ∀ j, fits .byte (.int (σ'.2.2.1 i j)) = true) : tq_Wt G s H' σ' := by
  obtain ⟨h1, h2, h3, h4, h5⟩ := h
  refine ⟨by rw [hsz, hc]; exact h1, fun i hi => ?_, fun i hi hq => ?_, fun i hi => ?_, hb⟩
  · by_cases hia : i = a
    · subst hia; exact hnew
    · rw [hce i hia]
      rw [hc] at hi
      exact (h2 i hi).kept (ho _ (fun q => hia (by omega)))
  · rw [hsh] at hq ⊢
    rw [hc] at hi
    exact h3 i hi hq
  · rw [hsh]
    rw [hc] at hi
    exact h4 i hi
theorem tq_ce_ne {G : tq_G} {σ σ' : tq_S} {i : Nat} (h1 : σ'.2.1.1 = σ.2.1.1) (h2 : σ'.2.1.2.1 = σ.2.1.2.1) (h3 : σ'.2.1.2.2 i = σ.2.1.2.2 i) (h4 : σ'.2.2.1 i = σ.2.2.1 i) (h5 : σ'.2.2.2 i = σ.2.2.2 i) : tq_ce G σ' i = tq_ce G σ i := by
  unfold tq_ce tq_fs tq_fv
  rw [h1, h2, h3, h4, h5]
theorem tq_fs_set {G : tq_G} {σ σ' : tq_S} {a ci k : Nat} {v : Value} (h1 : tq_fv G σ' a (tq_tyf ci k) k = v) (h2 : ∀ j, j ≠ k → tq_fv G σ' a (tq_tyf ci j) j = tq_fv G σ a (tq_tyf ci j) j) : tq_fs G σ' a ci = (tq_fs G σ a ci).set k v := by
  refine List.ext_getElem? fun j => ?_
  rw [List.getElem?_set]
  unfold tq_fs
  simp only [List.getElem?_map, List.length_map, List.length_range]
  by_cases hj : j < tq_nf ci
  · rw [List.getElem?_range hj]
    by_cases hk : k = j
    · subst hk
      simp [hj, h1]
    · rw [if_neg hk]
      simp [h2 j (Ne.symm hk)]
  · rw [List.getElem?_eq_none (by simp; omega)]
    by_cases hk : k = j
    · subst hk
      simp [hj]
    · simp [hk]
section TQ4
variable {S : Nat × (Nat → Int32)} {M : tq_M} {d : Nat} {c0 : Nat × Nat} {pc nx tgt : Nat} {ls st : List Value} {σ : tq_S} {Q : Option Value → tq_S → Prop}
theorem tq_putV {ix ci k a : Nat} (v : Value) (σ' : tq_S) (hd : tq_D M.2.1 pc (.putfield ix) 3 nx) (hf : tq_fok M.1.cls ix ci k) (hs : σ.2.1.1 a = ci) (hfin : ((tq_cl ci).2.1 k).2.2.2 = false ∨ (M.1.name = "<init>" ∧ (tq_cl ci).1 = M.1.cls ∧ ((tq_cl ci).2.1 k).2.2.2 = true ∧ Cond.fieldLink M.1.cls ix (tq_cl ci).1 ((tq_cl ci).2.1 k).2.1 ((tq_cl ci).2.1 k).2.2.1 ∈ lw_tbl))
    (hn : ∀ G : tq_G, narrow (tq_tyf ci k) (tq_cv G v) = tq_cv G v) (hfit : ∀ G : tq_G, fits (tq_tyf ci k) (tq_cv G v) = true)
    (hc1 : σ'.1 = σ.1) (hc2 : σ'.2.1.1 = σ.2.1.1) (hc3 : σ'.2.1.2.1 = σ.2.1.2.1) (hr : ∀ i, i ≠ a → σ'.2.1.2.2 i = σ.2.1.2.2 i ∧ σ'.2.2.1 i = σ.2.2.1 i ∧ σ'.2.2.2 i = σ.2.2.2 i)
    (hv : ∀ G : tq_G, tq_fv G σ' a (tq_tyf ci k) k = tq_cv G v) (hv2 : ∀ G : tq_G, ∀ j, j ≠ k → tq_fv G σ' a (tq_tyf ci j) j = tq_fv G σ a (tq_tyf ci j) j)
    (kk : tq_X S M d c0 nx ls st σ' Q) : tq_X S M d c0 pc ls (v :: .ref a :: st) σ Q := by
  obtain ⟨hd, rfl⟩ := hd
  obtain ⟨h13, hk, hf⟩ := hf
  intro G p e R s m args below meth c H locs la F Wd hS hl hc
  have hcl := tq_cl_at h13
  have hnn := tq_cl_n ci h13
  have hin := tq_in h13
  rw [← hnn] at hin
  have hk' : k < (tq_cl ci).2.2 := by rw [hnn]; exact hk
  have hK := F.2.2.2.2.2.2.2.2.2.1
  have hts := F.2.2.2.2.1
  have hap := va_apart (own := M.1.cls) hts hin (tq_tyf ci) (fun k hk => tq_cl_ty ci h13 k (by rw [← hnn]; exact hk)) (fun a ha b hb hab => tq_cl_nm ci h13 a (by rw [← hnn]; exact ha) b (by rw [← hnn]; exact hb) hab) hK hcl
  obtain ⟨r, h1, cell, q1, q2, q3, q4⟩ := tq_ob Wd hs h13
  have hr' : r = tq_cl ci := Option.some.inj (h1.symm.trans hcl)
  subst hr'
  obtain ⟨hSl, hfc, kC, hkC, hkind⟩ := hK.1 ci _ hcl
  obtain ⟨cf, kf, fi, f, hi, hsl⟩ := hSl k hk'
  have hlay := hts _ (hin _ (u_in_lay hk'))
  unfold u_lay at hlay
  have hst := (u_facts hfc hkC (u_lays hts hin hk') hi).1
  have hty := tq_cl_ty ci h13 k hk
  have hkey : ∀ H' : Heap, H'[G.2.2.2.1 + a]? = some (cell.setSlot (G.2.1.2 ci k) (tq_cv G v)) → H'.size = H.size → (∀ q, q ≠ G.2.2.2.1 + a → H'[q]? = H[q]?) → tq_Wt G s H' σ' ∧ ∀ lc : Nat, va_S (tq_A G) s.heap H' (locs ++ [⟨G.2.2.2.1 + a, lc⟩]) := by
    intro H' e1 e2 e3
    refine ⟨tq_Wt_set Wd hc1 hc2 (fun i hi => tq_ce_ne hc2 hc3 (hr i hi).1 (hr i hi).2.1 (hr i hi).2.2) ?_ e2 e3 ?_, fun lc => hS.put e2 e3 (Nat.le_add_right _ _)⟩
    · unfold tq_ce
      rw [if_pos (by rw [hc2]; omega), hc2, hs, tq_fs_set (hv G) (hv2 G)]
      exact ⟨_, hcl, t_OB.to (V := updV (vp_V (tq_fs G σ a ci)) k (tq_cv G v)) ⟨_, e1, q2, q3, t_set q4 hap hk' _⟩ (fun j _ => vp_updV_set (by simp [tq_fs]; exact hk) _ j)⟩
    · intro i hi j
      have hia : i ≠ a := fun q => by subst q; rw [hc2, hs] at hi; omega
      rw [(hr i hia).2.1]
      rw [hc2] at hi
      exact Wd.2.2.2.2 i hi j
  have hc' : c0.1 ≤ σ'.1.1 ∧ σ'.1.1 ≤ c0.1 + M.2.2.2.2.1 ∧ c0.2 ≤ σ'.1.2 ∧ σ'.1.2 ≤ c0.2 + M.2.2.2.2.2 := by rw [hc1]; exact hc
  rw [← hc1]
  rcases hfin with hfin | ⟨hfin, hfin2, hfin3, hf⟩
  · rw [if_neg (by rw [hfin]; decide)] at hlay
    have h6 := u_store hfc hkC hkind hlay hi hty (hn G) (hfit G)
    rcases hf with hf | ⟨host, hf⟩
    · refine W.putK F.1 F.2.1 (f := f) ⟨F.2.2.2.1, hts _ (List.mem_filter.mpr ⟨hf, rfl⟩), ⟨_, _, _, by rw [tq_cl_own ci h13 k hk] at hi; exact hi⟩, hst⟩ (by rw [q2]; exact h6) q1 q3 (by rw [hsl]; exact k2_hasslot (q4 k hk')) rfl rfl hd fun H' e1 e2 e3 => ?_
      rw [hsl] at e1
      obtain ⟨W1, S1⟩ := hkey H' e1 e2 e3
      exact kk G p e R s m args below meth c H' _ la F W1 (S1 _) hl hc'
    · refine va_WputK F.1 F.2.1 (f := f) F.2.2.2.1 (va_Nw.use rfl (F.2.2.2.2.2.2.2.2.2.2.2.2.1 _ hf rfl)) (by rw [tq_cl_own ci h13 k hk] at hi; exact hi) hst (by rw [q2]; exact h6) q1 q3 (by rw [hsl]; exact k2_hasslot (q4 k hk')) rfl rfl hd fun H' e1 e2 e3 => ?_
      rw [hsl] at e1
      obtain ⟨W1, S1⟩ := hkey H' e1 e2 e3
      exact kk G p e R s m args below meth c H' _ la F W1 (S1 _) hl hc'
  · rw [if_pos hfin3] at hlay
    have hcf : m.cls = cf := by
      obtain ⟨_, _, c', _, _, _, -, -, hf', -, -, -, hown2, -⟩ := Cond.laysFinal_spec hlay
      have e1 : c' = cf := by have := hi.symm.trans hf'; simp at this; exact this.1.symm
      rw [tq_cl_own ci h13 k hk, hfin2] at hown2
      rw [← e1]; exact Option.some.inj (F.2.2.2.1.symm.trans hown2)
    have h6 := u_fits hfc hkC hkind (Or.inr hlay) hi hty (hn G) (hfit G)
    · refine W.putFinK F.1 F.2.1 F.2.2.2.1 (hts _ (List.mem_filter.mpr ⟨hf, rfl⟩)) (by rw [tq_cl_own ci h13 k hk] at hi; exact hi) hst hcf (F.2.2.2.2.2.2.2.1.trans hfin) (by rw [q2]; exact h6) q1 q3 (by rw [hsl]; exact k2_hasslot (q4 k hk')) rfl rfl hd fun H' e1 e2 e3 => ?_
      rw [hsl] at e1
      obtain ⟨W1, S1⟩ := hkey H' e1 e2 e3
      exact kk G p e R s m args below meth c H' _ la F W1 (S1 _) hl hc'
theorem tq_putI {ix ci k a : Nat} {x : Int32} (hd : tq_D M.2.1 pc (.putfield ix) 3 nx) (hf : tq_fok M.1.cls ix ci k) (ht : tq_tyf ci k = .int) (hs : σ.2.1.1 a = ci) (hfin : ((tq_cl ci).2.1 k).2.2.2 = false) (kk : tq_X S M d c0 nx ls st (tq_sI σ a k x) Q) : tq_X S M d c0 pc ls (.int x :: .ref a :: st) σ Q :=
  tq_putV (.int x) (tq_sI σ a k x) hd hf hs (Or.inl hfin) (fun _ => by rw [ht]; rfl) (fun _ => by rw [ht]; rfl) rfl rfl rfl (fun i hi => ⟨rfl, tq_up2_ne hi, rfl⟩) (fun G => by unfold tq_fv tq_sI; rw [ht]; simp [tq_tc, tq_up2_s, tq_cv]) (fun G j hj => by unfold tq_fv tq_sI; simp [tq_up2_n hj]) kk
theorem tq_fitZ {x : Int32} (hx : x = 0 ∨ x = 1) : narrow .boolean (.int x) = .int x ∧ fits .boolean (.int x) = true := by rcases hx with rfl | rfl <;> exact ⟨rfl, rfl⟩
theorem tq_putZ {ix ci k a : Nat} {x : Int32} (hd : tq_D M.2.1 pc (.putfield ix) 3 nx) (hf : tq_fok M.1.cls ix ci k) (ht : tq_tyf ci k = .boolean) (hs : σ.2.1.1 a = ci) (hfin : ((tq_cl ci).2.1 k).2.2.2 = false) (hx : x = 0 ∨ x = 1) (kk : tq_X S M d c0 nx ls st (tq_sI σ a k x) Q) : tq_X S M d c0 pc ls (.int x :: .ref a :: st) σ Q :=
  tq_putV (.int x) (tq_sI σ a k x) hd hf hs (Or.inl hfin) (fun _ => by rw [ht]; exact (tq_fitZ hx).1) (fun _ => by rw [ht]; exact (tq_fitZ hx).2) rfl rfl rfl (fun i hi => ⟨rfl, tq_up2_ne hi, rfl⟩) (fun G => by unfold tq_fv tq_sI; rw [ht]; simp [tq_tc, tq_up2_s, tq_cv]) (fun G j hj => by unfold tq_fv tq_sI; simp [tq_up2_n hj]) kk
theorem tq_putL {ix ci k a : Nat} {x : Int64} (hd : tq_D M.2.1 pc (.putfield ix) 3 nx) (hf : tq_fok M.1.cls ix ci k) (ht : tq_tyf ci k = .long) (hs : σ.2.1.1 a = ci) (hfin : ((tq_cl ci).2.1 k).2.2.2 = false) (kk : tq_X S M d c0 nx ls st (tq_sL σ a k x) Q) : tq_X S M d c0 pc ls (.long x :: .ref a :: st) σ Q :=
  tq_putV (.long x) (tq_sL σ a k x) hd hf hs (Or.inl hfin) (fun _ => by rw [ht]; rfl) (fun _ => by rw [ht]; rfl) rfl rfl rfl (fun i hi => ⟨rfl, rfl, tq_up2_ne hi⟩) (fun G => by unfold tq_fv tq_sL; rw [ht]; simp [tq_tc, tq_up2_s, tq_cv]) (fun G j hj => by unfold tq_fv tq_sL; simp [tq_up2_n hj]) kk
theorem tq_putR {ix ci k a b : Nat} (hd : tq_D M.2.1 pc (.putfield ix) 3 nx) (hf : tq_fok M.1.cls ix ci k) (ht : tq_tc (tq_tyf ci k) = 2 ∧ (∀ q : Nat, narrow (tq_tyf ci k) (.ref q) = .ref q ∧ fits (tq_tyf ci k) (.ref q) = true)) (hs : σ.2.1.1 a = ci) (hfin : M.1.name = "<init>" ∧ (tq_cl ci).1 = M.1.cls ∧ ((tq_cl ci).2.1 k).2.2.2 = true ∧ Cond.fieldLink M.1.cls ix (tq_cl ci).1 ((tq_cl ci).2.1 k).2.1 ((tq_cl ci).2.1 k).2.2.1 ∈ lw_tbl) (kk : tq_X S M d c0 nx ls st (tq_sR σ a k b) Q) : tq_X S M d c0 pc ls (.ref b :: .ref a :: st) σ Q :=
  tq_putV (.ref b) (tq_sR σ a k b) hd hf hs (Or.inr hfin) (fun _ => (ht.2 _).1) (fun _ => (ht.2 _).2) rfl rfl rfl (fun i hi => ⟨tq_up2_ne hi, rfl, rfl⟩) (fun G => by unfold tq_fv tq_sR; rw [if_neg (by rw [ht.1]; decide), if_neg (by rw [ht.1]; decide)]; simp [tq_up2_s, tq_cv, va_rf]) (fun G j hj => by unfold tq_fv tq_sR; simp [tq_up2_n hj]) kk
theorem tq_iast {a : Nat} {i : Int32} {x : Int32} (hd : tq_D M.2.1 pc (.iastore) 1 nx) (hs : σ.2.1.1 a = 100) (hi : vp_in i (σ.2.1.2.1 a)) (kk : tq_X S M d c0 nx ls st (tq_sI σ a i.toNatClampNeg x) Q) : tq_X S M d c0 pc ls (.int x :: .int i :: .ref a :: st) σ Q := by
  obtain ⟨hd, rfl⟩ := hd
  intro G p e R s m args below meth c H locs la F Wd hS hl hc
  obtain ⟨h1, h2⟩ := tq_arI Wd hs (by omega)
  refine W.iast F.1 F.2.1 h1 (h2.1 (σ.2.1.2.1 a) (fun j => .int (σ.2.2.1 a j))) (fun q => by cases q) (by show ¬ (i < 0 ∨ (arrV _ _ _).slots.size ≤ _); rw [arrV_size]; exact hi) rfl rfl hd fun H1 e9 z oq => ?_
  have W1 : tq_Wt G s H1 (tq_sI σ a i.toNatClampNeg x) := by
    refine tq_Wt_set Wd rfl rfl (fun b hb => tq_ce_ne rfl rfl rfl (tq_up2_ne hb) rfl) ?_ z oq ?_
    · unfold tq_ce
      rw [if_neg (by show ¬ σ.2.1.1 a < 100; omega), if_neg (by show ¬ σ.2.1.1 a = 101; omega), if_pos (by show σ.2.1.1 a < 110; omega)]
      show H1[G.2.2.2.1 + a]? = some (vp_cell (G.2.2.1 (σ.2.1.1 a)) (σ.2.1.2.1 a, .inl (tq_up2 σ.2.2.1 a i.toNatClampNeg _ a)))
      rw [e9, hs, vp_cell_i, vp_cell_i, arrV_store]
      congr 2
      funext q
      by_cases hq : q = i.toNatClampNeg
      · subst hq
        rw [tq_up2_s]
        simp [updV, vp_nar]
        try rfl
      · rw [tq_up2_n hq]
        simp [updV, hq]
    · intro b hb j
      have hba : b ≠ a := fun q => by subst q; have hb : σ.2.1.1 b = 102 := hb; omega
      show fits .byte (.int (tq_up2 σ.2.2.1 a i.toNatClampNeg _ b j)) = true
      rw [tq_up2_ne hba]
      exact Wd.2.2.2.2 b hb j
  exact kk G p e R s m args below meth c H1 _ la F W1 (hS.put z oq (Nat.le_add_right _ _)) hl hc
theorem tq_bast {a : Nat} {i : Int32} {x : Int32} (hd : tq_D M.2.1 pc (.bastore) 1 nx) (hs : σ.2.1.1 a = 102) (hi : vp_in i (σ.2.1.2.1 a)) (kk : tq_X S M d c0 nx ls st (tq_sI σ a i.toNatClampNeg (vp_nar .byte x)) Q) : tq_X S M d c0 pc ls (.int x :: .int i :: .ref a :: st) σ Q := by
  obtain ⟨hd, rfl⟩ := hd
  intro G p e R s m args below meth c H locs la F Wd hS hl hc
  obtain ⟨h1, h2⟩ := tq_arI Wd hs (by omega)
  refine W.bast F.1 F.2.1 h1 (h2.1 (σ.2.1.2.1 a) (fun j => .int (σ.2.2.1 a j))) (fun q => by cases q) (by show ¬ (i < 0 ∨ (arrV _ _ _).slots.size ≤ _); rw [arrV_size]; exact hi) rfl rfl hd fun H1 e9 z oq => ?_
  have W1 : tq_Wt G s H1 (tq_sI σ a i.toNatClampNeg (vp_nar .byte x)) := by
    refine tq_Wt_set Wd rfl rfl (fun b hb => tq_ce_ne rfl rfl rfl (tq_up2_ne hb) rfl) ?_ z oq ?_
    · unfold tq_ce
      rw [if_neg (by show ¬ σ.2.1.1 a < 100; omega), if_neg (by show ¬ σ.2.1.1 a = 101; omega), if_pos (by show σ.2.1.1 a < 110; omega)]
      show H1[G.2.2.2.1 + a]? = some (vp_cell (G.2.2.1 (σ.2.1.1 a)) (σ.2.1.2.1 a, .inl (tq_up2 σ.2.2.1 a i.toNatClampNeg _ a)))
      rw [e9, hs, vp_cell_i, vp_cell_i, arrV_store]
      congr 2
      funext q
      by_cases hq : q = i.toNatClampNeg
      · subst hq
        rw [tq_up2_s]
        simp [updV, vp_nar]
        try rfl
      · rw [tq_up2_n hq]
        simp [updV, hq]
    · intro b hb j
      show fits .byte (.int (tq_up2 σ.2.2.1 a i.toNatClampNeg _ b j)) = true
      by_cases hq : b = a ∧ j = i.toNatClampNeg
      · unfold tq_up2
        rw [if_pos hq, vp_nar_byte]
        exact pk_fb x
      · unfold tq_up2
        rw [if_neg hq]
        exact Wd.2.2.2.2 b hb j
  exact kk G p e R s m args below meth c H1 _ la F W1 (hS.put z oq (Nat.le_add_right _ _)) hl hc
theorem tq_zast {a : Nat} {i : Int32} {x : Int32} (hd : tq_D M.2.1 pc (.bastore) 1 nx) (hs : σ.2.1.1 a = 103) (hi : vp_in i (σ.2.1.2.1 a)) (kk : tq_X S M d c0 nx ls st (tq_sI σ a i.toNatClampNeg (vp_nar .boolean x)) Q) : tq_X S M d c0 pc ls (.int x :: .int i :: .ref a :: st) σ Q := by
  obtain ⟨hd, rfl⟩ := hd
  intro G p e R s m args below meth c H locs la F Wd hS hl hc
  obtain ⟨h1, h2⟩ := tq_arI Wd hs (by omega)
  refine W.zast F.1 F.2.1 h1 (h2.1 (σ.2.1.2.1 a) (fun j => .int (σ.2.2.1 a j))) (fun q => by cases q) (by show ¬ (i < 0 ∨ (arrV _ _ _).slots.size ≤ _); rw [arrV_size]; exact hi) rfl rfl hd fun H1 e9 z oq => ?_
  have W1 : tq_Wt G s H1 (tq_sI σ a i.toNatClampNeg (vp_nar .boolean x)) := by
    refine tq_Wt_set Wd rfl rfl (fun b hb => tq_ce_ne rfl rfl rfl (tq_up2_ne hb) rfl) ?_ z oq ?_
    · unfold tq_ce
      rw [if_neg (by show ¬ σ.2.1.1 a < 100; omega), if_neg (by show ¬ σ.2.1.1 a = 101; omega), if_pos (by show σ.2.1.1 a < 110; omega)]
      show H1[G.2.2.2.1 + a]? = some (vp_cell (G.2.2.1 (σ.2.1.1 a)) (σ.2.1.2.1 a, .inl (tq_up2 σ.2.2.1 a i.toNatClampNeg _ a)))
      rw [e9, hs, vp_cell_i, vp_cell_i, arrV_store]
      congr 2
      funext q
      by_cases hq : q = i.toNatClampNeg
      · subst hq
        rw [tq_up2_s]
        simp [updV, vp_nar]
        try rfl
      · rw [tq_up2_n hq]
        simp [updV, hq]
    · intro b hb j
      have hba : b ≠ a := fun q => by subst q; have hb : σ.2.1.1 b = 102 := hb; omega
      show fits .byte (.int (tq_up2 σ.2.2.1 a i.toNatClampNeg _ b j)) = true
      rw [tq_up2_ne hba]
      exact Wd.2.2.2.2 b hb j
  exact kk G p e R s m args below meth c H1 _ la F W1 (hS.put z oq (Nat.le_add_right _ _)) hl hc
theorem tq_last {a : Nat} {i : Int32} {x : Int64} (hd : tq_D M.2.1 pc (.lastore) 1 nx) (hs : σ.2.1.1 a = 101) (hi : vp_in i (σ.2.1.2.1 a)) (kk : tq_X S M d c0 nx ls st (tq_sL σ a i.toNatClampNeg x) Q) : tq_X S M d c0 pc ls (.long x :: .int i :: .ref a :: st) σ Q := by
  obtain ⟨hd, rfl⟩ := hd
  intro G p e R s m args below meth c H locs la F Wd hS hl hc
  obtain ⟨h1, h2⟩ := tq_arL Wd hs
  refine W.last F.1 F.2.1 h1 (h2.1 (σ.2.1.2.1 a) (fun j => .long (σ.2.2.2 a j))) (fun q => by cases q) (by show ¬ (i < 0 ∨ (arrV _ _ _).slots.size ≤ _); rw [arrV_size]; exact hi) rfl rfl hd fun H1 e9 z oq => ?_
  have W1 : tq_Wt G s H1 (tq_sL σ a i.toNatClampNeg x) := by
    refine tq_Wt_set Wd rfl rfl (fun b hb => tq_ce_ne rfl rfl rfl rfl (tq_up2_ne hb)) ?_ z oq ?_
    · unfold tq_ce
      rw [if_neg (by show ¬ σ.2.1.1 a < 100; omega), if_pos (by show σ.2.1.1 a = 101; omega)]
      show H1[G.2.2.2.1 + a]? = some (vp_cell (G.2.2.1 101) (σ.2.1.2.1 a, .inr (.inl (tq_up2 σ.2.2.2 a i.toNatClampNeg _ a))))
      rw [e9, vp_cell_l, vp_cell_l, arrV_store]
      congr 2
      funext q
      by_cases hq : q = i.toNatClampNeg
      · subst hq
        rw [tq_up2_s]
        simp [updV]
      · rw [tq_up2_n hq]
        simp [updV, hq]
    · intro b hb j
      exact Wd.2.2.2.2 b hb j
  exact kk G p e R s m args below meth c H1 _ la F W1 (hS.put z oq (Nat.le_add_right _ _)) hl hc
end TQ4
