/-! THE SMALL MACHINE: returns, calls, entries. -/
theorem tq_Ar_moved {G : tq_G} {σ : tq_S} {u U : State} (hvm : u.vm.Alike U.vm) (h : tq_Ar G σ u) : tq_Ar G σ U := fun i hi hq => ⟨arrOfT_moved hvm (h i hi hq).1, (h i hi hq).2.moved hvm⟩
theorem tq_Wt_moved {G : tq_G} {σ : tq_S} {u U : State} {H : Heap} (hvm : u.vm.Alike U.vm) (h : tq_Wt G u H σ) : tq_Wt G U H σ := ⟨h.1, h.2.1, tq_Ar_moved hvm h.2.2.1, h.2.2.2⟩
theorem tq_Fo_warm {G : tq_G} {s U : State} {locs : List Loc} (h : tq_Fo G s) (hW : s.WarmedH U.vm) (hS : va_S (tq_A G) s.heap U.heap locs) (hh : G.2.2.2.1 ≤ s.heap.size) : tq_Fo G U := by
  obtain ⟨h1, h2, h3, h4, h5, h6, h7, h8⟩ := h
  refine ⟨fun w hw hn => ?_, fun C hC => (h2 C hC).moved hW.alike, (h3.moved hW.alike).kept (hS.2.1 _ (Nat.lt_of_lt_of_le h4 hh) (Nat.not_le.mpr h4)), h4, (h5.moved hW.alike).kept hS.2.1, (h6.moved hW.alike).kept hS.2.1, fun i hi => (h7 i hi).warm hW, h8.imp (fun z => (z.moved hW.alike).kept hS.2.1) (fun z => (z.moved hW.alike).kept hS.2.1)⟩
  have hz := h1 w hw hn
  cases w <;> first | exact hz.warmF hW | exact hz.warmM hW | (simp [tq_isN] at hn)
def tq_Pc (G : tq_G) (as : List Value) (σ : tq_S) : Array Value → State → Prop := fun a U => a = (as.map (tq_cv G)).toArray ∧ tq_Wt G U U.heap σ ∧ va_K G.2.1 vwCl [] U ∧ (∀ t, G.2.2.1 t = (U.vm.findClass ("[" ++ (tq_at t).toString)).getD 0) ∧ G.2.2.2.1 ≤ U.heap.size ∧ tq_Fo G U
/-- a method's words -/
def tq_ws (M : tq_M) : List Cond := Cond.code M.1 M.2.1 M.2.2.1 M.2.2.2.1 :: tq_tb
def tq_rm (M : tq_M) (d : Nat) : Room := { frames := d, cells := M.2.2.2.2.1, slots := M.2.2.2.2.2, locals := 60 * d }
/-- A CALL: with these arguments, in this store, the method returns, and Q -/
def tq_C (S : Nat × (Nat → Int32)) (M : tq_M) (d : Nat) (as : List Value) (σ : tq_S) (Q : Option Value → tq_S → Prop) : Prop :=
  ∀ G : tq_G, G.2.2.2.2.1.2 = S → Met G.1 M.1 (tq_ws M) (tq_rm M d) (tq_Pc G as σ) (tq_Qc G M σ.1 Q) M.2.2.2.2.1 M.2.2.2.2.2 (tq_A G)
def tq_ent : List Value → List Value
  | [] => []
  | v :: r => if v.category = 2 then v :: tq_u :: tq_ent r else v :: tq_ent r
theorem tq_lv_ent {G : tq_G} {n : Nat} : ∀ (as : List Value) (i : Nat) (q : Nat × Value), q ∈ tq_lv G i (tq_ent as ++ List.replicate n tq_u) → q ∈ lv_args i (as.map (tq_cv G))
  | [], i, q, h => by
    exfalso
    simp only [tq_ent, List.nil_append] at h
    obtain ⟨j, v, -, hj, hv⟩ := tq_lv_of h
    rw [List.getElem?_replicate] at hj
    split at hj
    · cases hj
      exact hv 0 rfl
    · cases hj
  | v :: r, i, q, h => by
    simp only [List.map_cons, lv_args, tq_cat]
    by_cases hc : v.category = 2
    · simp only [tq_ent, if_pos hc, List.cons_append, tq_lv] at h ⊢
      rcases List.mem_append.mp h with h | h
      · have : q = (i, tq_cv G v) := by cases v <;> first | exact List.mem_singleton.mp h | (simp at h)
        rw [this]
        exact List.mem_cons_self
      · exact List.mem_cons_of_mem _ (tq_lv_ent r (i + 2) q h)
    · simp only [tq_ent, if_neg hc, List.cons_append, tq_lv] at h ⊢
      rcases List.mem_append.mp h with h | h
      · have : q = (i, tq_cv G v) := by cases v <;> first | exact List.mem_singleton.mp h | (simp at h)
        rw [this]
        exact List.mem_cons_self
      · exact List.mem_cons_of_mem _ (tq_lv_ent r (i + 1) q h)
theorem tq_sl_len {G : tq_G} : ∀ (as : List Value), (lg_sl (as.map (tq_cv G))).length = (tq_ent as).length
  | [] => rfl
  | v :: r => by
    have ih := tq_sl_len (G := G) r
    unfold lg_sl at ih ⊢
    simp only [List.map_cons, List.flatMap_cons, List.length_append, tq_cat, ih]
    by_cases hc : v.category = 2
    · simp [tq_ent, hc]; omega
    · simp [tq_ent, hc]; omega
/-- an entry: the arguments are the first locals -/
theorem tq_C_of {S : Nat × (Nat → Int32)} {M : tq_M} {d : Nat} {as ls : List Value} {σ : tq_S} {Q : Option Value → tq_S → Prop} (hy : plainName M.1.cls = true) (hn : (tq_ent as).length ≤ M.2.2.1) (he : tq_ent as ++ List.replicate (M.2.2.1 - (tq_ent as).length) tq_u = ls) (hX : tq_X S M d σ.1 0 ls [] σ Q) : tq_C S M d as σ Q := by
  subst he
  intro G hG
  refine Met.ofW (cc := M.2.1) (maxL := M.2.2.1) (ret := M.2.2.2.1) hy rfl ?_
  intro p e s m args below meth c s₁ B hml hv
  obtain ⟨rfl, hW, hK, hdA, hh, hFo⟩ := hv
  have hts := atoms_spec (ws := tq_ws M) B.pre
  rw [lg_entry_eq]
  have hl := lv_entry (as.map (tq_cv G)) (n := M.2.2.1) (by rw [tq_sl_len]; exact hn)
  have hX1 := hX G p e (tq_rm M d) s m (as.map (tq_cv G)).toArray below meth c s.heap [] _ ⟨B.exec, B.bytes, hml, findClass_of_methodNamed B.named, fun w hw => hts w (List.mem_cons_of_mem _ hw), B.returns, B.notSynchronized, (name_of_methodNamed B.named B.method).1, ⟨Nat.le_refl _, Nat.le_refl _, Nat.le_refl _, Nat.le_refl _, hG⟩, hK, hdA, hh, hFo⟩ hW va_S.rf ⟨hl.1, hl.2.1, fun q hq => hl.2.2 q (tq_lv_ent as 0 q hq)⟩ ⟨Nat.le_refl _, Nat.le_add_right _ _, Nat.le_refl _, Nat.le_add_right _ _⟩
  rw [Nat.sub_self, Nat.sub_self] at hX1
  exact hX1
section TQ7
variable {S : Nat × (Nat → Int32)} {M : tq_M} {d : Nat} {c0 : Nat × Nat} {pc nx tgt : Nat} {ls st : List Value} {σ : tq_S} {Q : Option Value → tq_S → Prop}
theorem tq_Qret {G : tq_G} {s t : State} {H : Heap} {locs : List Loc} {args : Array Value} {r : Option Value} (Wd : tq_Wt G s H σ) (hS : va_S (tq_A G) s.heap H locs) (hq : Q r σ) (hcn : σ.1 = (c0.1 + M.2.2.2.2.1, c0.2 + M.2.2.2.2.2)) (ht : t.heap = H) (hW : s.WarmedH t.vm) : tq_Qc G M c0 Q args s (.returned (r.map (tq_cv G))) t :=
  ⟨⟨r, σ, rfl, hq, hcn, by rw [ht]; exact tq_Wt_moved hW.alike Wd⟩, hS.F ht⟩
theorem tq_iret {v : Int32} (hd : decode M.2.1 pc = .ok (.ireturn, 1)) (hr : M.2.2.2.1 = some .int) (hcn : σ.1 = (c0.1 + M.2.2.2.2.1, c0.2 + M.2.2.2.2.2)) (hq : Q (some (.int v)) σ) : tq_X S M d c0 pc ls [.int v] σ Q := by
  intro G p e R s m args below meth c H locs la F Wd hS hl hc
  have h1 : σ.1.1 = c0.1 + M.2.2.2.2.1 := by rw [hcn]
  have h2 : σ.1.2 = c0.2 + M.2.2.2.2.2 := by rw [hcn]
  refine W.cs (show σ.1.1 - c0.1 = M.2.2.2.2.1 by omega) (show σ.1.2 - c0.2 = M.2.2.2.2.2 by omega) ?_
  exact W.iret (Qc := tq_Qc G M c0 Q) F.1 F.2.1 (F.2.2.2.2.2.1.trans hr)  (fun t ht hW => tq_Qret (r := (some (.int v))) Wd hS hq hcn ht hW) hS.2.2 hd F.2.2.2.2.2.2.1
theorem tq_lret {v : Int64} (hd : decode M.2.1 pc = .ok (.lreturn, 1)) (hr : M.2.2.2.1 = some .long) (hcn : σ.1 = (c0.1 + M.2.2.2.2.1, c0.2 + M.2.2.2.2.2)) (hq : Q (some (.long v)) σ) : tq_X S M d c0 pc ls [.long v] σ Q := by
  intro G p e R s m args below meth c H locs la F Wd hS hl hc
  have h1 : σ.1.1 = c0.1 + M.2.2.2.2.1 := by rw [hcn]
  have h2 : σ.1.2 = c0.2 + M.2.2.2.2.2 := by rw [hcn]
  refine W.cs (show σ.1.1 - c0.1 = M.2.2.2.2.1 by omega) (show σ.1.2 - c0.2 = M.2.2.2.2.2 by omega) ?_
  exact W.lret (Qc := tq_Qc G M c0 Q) F.1 F.2.1 (F.2.2.2.2.2.1.trans hr)  (fun t ht hW => tq_Qret (r := (some (.long v))) Wd hS hq hcn ht hW) hS.2.2 hd F.2.2.2.2.2.2.1
theorem tq_zret {v : Int32} (hd : decode M.2.1 pc = .ok (.ireturn, 1)) {ty : FieldType} (hr : M.2.2.2.1 = some ty) (hn : narrow ty (.int v) = .int v) (hcn : σ.1 = (c0.1 + M.2.2.2.2.1, c0.2 + M.2.2.2.2.2)) (hq : Q (some (.int v)) σ) : tq_X S M d c0 pc ls [.int v] σ Q := by
  intro G p e R s m args below meth c H locs la F Wd hS hl hc
  have h1 : σ.1.1 = c0.1 + M.2.2.2.2.1 := by rw [hcn]
  have h2 : σ.1.2 = c0.2 + M.2.2.2.2.2 := by rw [hcn]
  refine W.cs (show σ.1.1 - c0.1 = M.2.2.2.2.1 by omega) (show σ.1.2 - c0.2 = M.2.2.2.2.2 by omega) ?_
  exact W.zret (Qc := tq_Qc G M c0 Q) F.1 F.2.1 (F.2.2.2.2.2.1.trans hr) hn (fun t ht hW => tq_Qret (r := (some (.int v))) Wd hS hq hcn ht hW) hS.2.2 hd F.2.2.2.2.2.2.1
theorem tq_vret (hd : decode M.2.1 pc = .ok (.return_, 1)) (hr : M.2.2.2.1 = none) (hcn : σ.1 = (c0.1 + M.2.2.2.2.1, c0.2 + M.2.2.2.2.2)) (hq : Q none σ) : tq_X S M d c0 pc ls [] σ Q := by
  intro G p e R s m args below meth c H locs la F Wd hS hl hc
  have h1 : σ.1.1 = c0.1 + M.2.2.2.2.1 := by rw [hcn]
  have h2 : σ.1.2 = c0.2 + M.2.2.2.2.2 := by rw [hcn]
  refine W.cs (show σ.1.1 - c0.1 = M.2.2.2.2.1 by omega) (show σ.1.2 - c0.2 = M.2.2.2.2.2 by omega) ?_
  exact W.vret (Qc := tq_Qc G M c0 Q) F.1 F.2.1 (F.2.2.2.2.2.1.trans hr)  (fun t ht hW => tq_Qret (r := none) Wd hS hq hcn ht hW) hS.2.2 hd F.2.2.2.2.2.2.1
theorem tq_aret {v : Nat} (hd : decode M.2.1 pc = .ok (.areturn, 1)) {C : String} (hr : M.2.2.2.1 = some (.object C)) (hcn : σ.1 = (c0.1 + M.2.2.2.2.1, c0.2 + M.2.2.2.2.2)) (hq : Q (some (.ref v)) σ) : tq_X S M d c0 pc ls [.ref v] σ Q := by
  intro G p e R s m args below meth c H locs la F Wd hS hl hc
  have h1 : σ.1.1 = c0.1 + M.2.2.2.2.1 := by rw [hcn]
  have h2 : σ.1.2 = c0.2 + M.2.2.2.2.2 := by rw [hcn]
  refine W.cs (show σ.1.1 - c0.1 = M.2.2.2.2.1 by omega) (show σ.1.2 - c0.2 = M.2.2.2.2.2 by omega) ?_
  exact W.aret (Qc := tq_Qc G M c0 Q) F.1 F.2.1 (F.2.2.2.2.2.1.trans hr) (Or.inl ⟨_, rfl⟩) (Or.inr ⟨_, rfl⟩) (fun t ht hW => tq_Qret (r := (some (.ref v))) Wd hS hq hcn ht hW) hS.2.2 hd F.2.2.2.2.2.2.1
theorem tq_aretN (hd : decode M.2.1 pc = .ok (.areturn, 1)) {C : String} (hr : M.2.2.2.1 = some (.object C)) (hcn : σ.1 = (c0.1 + M.2.2.2.2.1, c0.2 + M.2.2.2.2.2)) (hq : Q (some .null) σ) : tq_X S M d c0 pc ls [.null] σ Q := by
  intro G p e R s m args below meth c H locs la F Wd hS hl hc
  have h1 : σ.1.1 = c0.1 + M.2.2.2.2.1 := by rw [hcn]
  have h2 : σ.1.2 = c0.2 + M.2.2.2.2.2 := by rw [hcn]
  refine W.cs (show σ.1.1 - c0.1 = M.2.2.2.2.1 by omega) (show σ.1.2 - c0.2 = M.2.2.2.2.2 by omega) ?_
  exact W.aret (Qc := tq_Qc G M c0 Q) F.1 F.2.1 (F.2.2.2.2.2.1.trans hr) (Or.inl ⟨_, rfl⟩) (Or.inl rfl) (fun t ht hW => tq_Qret (r := (some .null)) Wd hS hq hcn ht hW) hS.2.2 hd F.2.2.2.2.2.2.1
theorem tq_objInit {ix a : Nat} (hd : tq_D M.2.1 pc (.invokespecial ix) 3 nx) (h8 : (st.map fun v => v.category).sum ≤ 8) (hw : Cond.methodLink M.1.cls ix Lib.objectInit ∈ lw_tbl ∧ Cond.instanceMethod Lib.objectInit ∈ lw_tbl ∧ Cond.code Lib.objectInit ⟨#[0xb1]⟩ 1 none ∈ lw_tbl) (kk : tq_X S M (d + 1) c0 nx ls st σ Q) : tq_X S M (d + 1) c0 pc ls (.ref a :: st) σ Q := by
  obtain ⟨hd, rfl⟩ := hd
  intro G p e R s m args below meth c H locs la F Wd hS hl hc
  have hts := fun w h h2 => F.2.2.2.2.1 w (List.mem_filter.mpr ⟨h, h2⟩)
  have hR := F.2.2.2.2.2.2.2.2.1
  exact W.objInit F.1 F.2.1 F.2.2.2.1 (hts _ hw.1 rfl) (hts _ hw.2.1 rfl) (hts _ hw.2.2 rfl) rfl (hl.1.trans F.2.2.1.symm) rfl hd (by omega) (by show 2 * 0 + _ + 12 ≤ _; rw [tq_sum8]; omega) (kk G p e R s m args below meth c H locs la F Wd hS hl hc)
/-- behind a call -/
theorem tq_after {M' : tq_M} {G : tq_G} {p : Program} {e : Env} {R : Room} {s : State} {m : MethodId} {args : Array Value} {below : List Frame} {meth : Method} {c : Code} {H : Heap} {locs : List Loc} {la : Array Slot} {st0 : List Value} {Q' : Option Value → tq_S → Prop} {a9 : Array Value}
    (hr : va_Run p G.1 e R s m args below meth c H locs (σ.1.1 - c0.1) (σ.1.2 - c0.2) M'.2.2.2.2.1 M'.2.2.2.2.2 (F0 m pc la st0) (st.map (tq_cv G)) (tq_Qc G M' σ.1 Q' a9) (tq_A G)) (F : tq_Fx S M d G p R s m args meth c) (hS : va_S (tq_A G) s.heap H locs) (hl : lv_has la M.2.2.1 (tq_lv G 0 ls))
    (hc : c0.1 ≤ σ.1.1 ∧ σ.1.1 ≤ c0.1 + M.2.2.2.2.1 ∧ c0.2 ≤ σ.1.2 ∧ σ.1.2 ≤ c0.2 + M.2.2.2.2.2) (hb : σ.1.1 + M'.2.2.2.2.1 ≤ c0.1 + M.2.2.2.2.1 ∧ σ.1.2 + M'.2.2.2.2.2 ≤ c0.2 + M.2.2.2.2.2)
    (kk : ∀ r σ', Q' r σ' → tq_X S M d c0 (pc + 3) ls (r.toList ++ st) σ' Q) : W p G.1 e R s m args below meth c H locs (σ.1.1 - c0.1) (σ.1.2 - c0.2) (MQ below (tq_Qc G M c0 Q) args s M.2.2.2.2.1 M.2.2.2.2.2 (tq_A G)) (F0 m pc la st0) := by
  intro T hT X
  obtain ⟨v, st₀, t, T', L, h0, X', hL, e1, e2, ⟨⟨r, σ', ho, hq, hcn, hWt⟩, hz, hk⟩, stp⟩ := hr T hT X
  have hv : v = r.map (tq_cv G) := by cases ho; rfl
  subst hv
  rw [h0] at hz hk
  have hWs : tq_Wt G s T'.heap σ' := by
    rw [e1]
    refine tq_Wt_moved ?_ hWt
    rw [← e2]
    exact X'.warmed.alike.symm
  have h1 : σ'.1.1 = σ.1.1 + M'.2.2.2.2.1 := by rw [hcn]
  have h2 : σ'.1.2 = σ.1.2 + M'.2.2.2.2.2 := by rw [hcn]
  have hS1 : va_S (tq_A G) s.heap T'.heap (locs ++ L) := ⟨Nat.le_trans hS.1 (by rw [e1]; exact hz), fun q g1 g2 => by rw [e1, hk q (Nat.lt_of_lt_of_le g1 hS.1) g2]; exact hS.2.1 q g1 g2, fun q hq => by
    rcases List.mem_append.mp hq with h | h
    · exact hS.2.2 q h
    · exact hL q h⟩
  have hW := kk r σ' hq G p e R s m args below meth c T'.heap (locs ++ L) la F hWs hS1 hl ⟨by omega, by omega, by omega, by omega⟩
  have e5 : (r.toList ++ st).map (tq_cv G) = (r.map (tq_cv G)).toList ++ st.map (tq_cv G) := by cases r <;> simp
  rw [e5] at hW
  have hW := W.cs (show σ.1.1 - c0.1 + M'.2.2.2.2.1 = σ'.1.1 - c0.1 by omega) (show σ.1.2 - c0.2 + M'.2.2.2.2.2 = σ'.1.2 - c0.2 by omega) hW
  obtain ⟨t9, a1, b1⟩ := hW T' rfl X'
  exact ⟨t9, stp t9 a1, b1⟩
theorem tq_pre {G : tq_G} {p : Program} {R : Room} {s U : State} {m : MethodId} {args : Array Value} {meth : Method} {c : Code} {H : Heap} {locs : List Loc} {as : List Value} (F : tq_Fx S M d G p R s m args meth c) (Wd : tq_Wt G s H σ) (hS : va_S (tq_A G) s.heap H locs) (hU : U.heap = H) (hW : s.WarmedH U.vm) : tq_Pc G as σ (as.map (tq_cv G)).toArray U := by
  refine ⟨rfl, by rw [hU]; exact tq_Wt_moved hW.alike Wd, va_K.moved hW.alike F.2.2.2.2.2.2.2.2.2.1, fun t => ?_, ?_, tq_Fo_warm (F.2.2.2.2.2.2.2.2.2.2.2.2) hW (by rw [hU]; exact hS) F.2.2.2.2.2.2.2.2.2.2.2.1⟩
  · rw [hW.alike.findClass]
    exact F.2.2.2.2.2.2.2.2.2.2.1 t
  · rw [hU, Wd.1]
    exact Nat.le_add_right _ _
theorem tq_blind {G : tq_G} {as : List Value} : FrameBlind (tq_Pc G as σ) := fun a U g mk h => by
  obtain ⟨h1, h2, h3, h4, h5, h6⟩ := h
  refine ⟨h1, tq_Wt_moved (Vm.Alike.refl U.vm) h2, va_K.moved (Vm.Alike.refl U.vm) h3, h4, h5, ?_⟩
  obtain ⟨g1, g2, g3, g4, g5, g6, g7, g8⟩ := h6
  refine ⟨fun w hw hn => ?_, fun C hC => (g2 C hC).moved (Vm.Alike.refl U.vm), g3.moved (Vm.Alike.refl U.vm), g4, g5.moved (Vm.Alike.refl U.vm), g6.moved (Vm.Alike.refl U.vm), fun i hi => (g7 i hi).same rfl, g8.imp (fun z => z.moved (Vm.Alike.refl U.vm)) (fun z => z.moved (Vm.Alike.refl U.vm))⟩
  have hz := g1 w hw hn
  cases w <;> first | exact hz.same rfl rfl | (simp [tq_isN] at hn)
theorem tq_good : GoodIn tq_tb tq_tb := fun w h => ⟨h, good_of_word (List.mem_filter.mp h).2⟩
theorem tq_goodM {M' : tq_M} (h : Cond.code M'.1 M'.2.1 M'.2.2.1 M'.2.2.2.1 ∈ lw_tbl) : GoodIn tq_tb (tq_ws M') := fun w hw => by
  rcases List.mem_cons.mp hw with rfl | hw
  · exact ⟨List.mem_filter.mpr ⟨h, rfl⟩, Or.inl rfl⟩
  · exact tq_good w hw
/-- what the tables say of a callee -/
def tq_mok (M' : tq_M) (n : Nat) : Prop := Cond.initialized M'.1.cls ∈ lw_tbl ∧ Cond.code M'.1 M'.2.1 M'.2.2.1 M'.2.2.2.1 ∈ lw_tbl ∧ (M'.1.cls ≠ "java/lang/invoke/MethodHandle" ∧ M'.1.cls ≠ "java/lang/invoke/VarHandle" ∧ (parseMethodDescriptor M'.1.desc).map (fun d => d.parameters.length) = some n) ∧ M'.2.2.1 ≤ 41
/-- a call's link -/
def tq_lok (own : String) (ix : Nat) (y : MethodName) : Prop := Cond.methodLink own ix y ∈ lw_tbl ∨ ∃ host, Cond.methodLinkNest own ix y host ∈ lw_tbl
theorem tq_callV {M' : tq_M} {ix ci n a : Nat} {as : List Value} {st0 : List Value} {Q' : Option Value → tq_S → Prop} (hd : tq_D M.2.1 pc (.invokevirtual ix) 3 nx) (hk : tq_lok M.1.cls ix M'.1) (hm : tq_mok M' n) (hw : ci < 13 ∧ (tq_cl ci).1 = M'.1.cls ∧ Cond.instanceMethod M'.1 ∈ lw_tbl ∧ Cond.selects M'.1.cls M'.1 M'.1 ∈ lw_tbl) (hs : σ.2.1.1 a = ci) (hst : as.reverse ++ .ref a :: st = st0) (hn : as.length = n) (h8 : (st.map fun v => v.category).sum ≤ 8) (hb : σ.1.1 + M'.2.2.2.2.1 ≤ c0.1 + M.2.2.2.2.1 ∧ σ.1.2 + M'.2.2.2.2.2 ≤ c0.2 + M.2.2.2.2.2)
    (hC : tq_C S M' d (.ref a :: as) σ Q') (kk : ∀ r σ', Q' r σ' → tq_X S M (d + 1) c0 nx ls (r.toList ++ st) σ' Q) : tq_X S M (d + 1) c0 pc ls st0 σ Q := by
  obtain ⟨hd, rfl⟩ := hd
  subst hst
  intro G p e R s m args below meth c H locs la F Wd hS hl hc
  have hts := fun w h h2 => F.2.2.2.2.1 w (List.mem_filter.mpr ⟨h, h2⟩)
  have hR := F.2.2.2.2.2.2.2.2.1
  obtain ⟨hci, hcls, hin, hse⟩ := hw
  obtain ⟨hini, hcd, hdn, hml⟩ := hm
  have hM := hC G hR.2.2.2.2
  have hrec : ∃ cellB : Cell, H[G.2.2.2.1 + a]? = some cellB ∧ cellB.vm.isStatics = false ∧ s.vm.findClass M'.1.cls = some cellB.cls := by
    rw [← hcls]
    exact va_recv (F.2.2.2.2.2.2.2.2.2.1) (tq_one (tq_ob Wd hs hci)) (tq_cl_at hci) (q0 := 0) rfl
  have hpre : PreV s H M'.1.cls (G.2.2.2.1 + a) (tq_Pc G (.ref a :: as) σ) (as.map (tq_cv G)) := ⟨tq_blind, hrec, fun U hU hW => tq_pre F Wd hS hU hW⟩
  have e6 : (as.reverse ++ .ref a :: st).map (tq_cv G) = (as.map (tq_cv G)).reverse ++ .ref (G.2.2.2.1 + a) :: st.map (tq_cv G) := by simp [tq_cv]
  rw [e6]
  rcases hk with hk | ⟨host, hk⟩
  · exact tq_after (M' := M') (va_runV (As := as.map (tq_cv G)) (rest := st.map (tq_cv G)) ⟨F.1, F.2.1, F.2.2.1, F.2.2.2.1, F.2.2.2.2.1⟩ hM ⟨callB_of n F.2.2.2.2.1 (tq_goodM hcd) rfl rfl rfl (hts _ hini rfl) (hts _ hk rfl) hdn ⟨by show d + 1 ≤ _; omega, by show 8 + (M'.2.2.1 + 11) + 60 * d ≤ _; omega⟩, hts _ hin rfl, hts _ hse rfl⟩ hpre rfl (by rw [List.length_map]; exact hn) hl.1 rfl (lv_room (by rw [tq_sum8]; exact h8)) hd ⟨by omega, by omega⟩) F hS hl hc hb kk
  · exact tq_after (M' := M') (va_runVN (As := as.map (tq_cv G)) (rest := st.map (tq_cv G)) ⟨F.1, F.2.1, F.2.2.1, F.2.2.2.1, F.2.2.2.2.1⟩ hM ⟨va_cnB n F.2.2.2.2.1 (tq_goodM hcd) rfl rfl rfl (F.2.2.2.2.2.2.2.2.2.2.2.2.1 _ hk rfl) (hts _ hini rfl) hdn ⟨by show d + 1 ≤ _; omega, by show 8 + (M'.2.2.1 + 11) + 60 * d ≤ _; omega⟩, hts _ hin rfl, hts _ hse rfl⟩ hpre rfl (by rw [List.length_map]; exact hn) hl.1 rfl (lv_room (by rw [tq_sum8]; exact h8)) hd ⟨by omega, by omega⟩) F hS hl hc hb kk
/-- a call on a text -/
theorem tq_callStr {M' : tq_M} {ix n i : Nat} {as : List Value} {st0 : List Value} {Q' : Option Value → tq_S → Prop} (hd : tq_D M.2.1 pc (.invokevirtual ix) 3 nx) (hk : Cond.methodLink M.1.cls ix M'.1 ∈ lw_tbl) (hm : tq_mok M' n) (hw : "java/lang/String" = M'.1.cls ∧ Cond.instanceMethod M'.1 ∈ lw_tbl ∧ Cond.selects M'.1.cls M'.1 M'.1 ∈ lw_tbl) (hi : i < 11) (hst : as.reverse ++ .retAddr (i + 1) :: st = st0) (hn : as.length = n) (h8 : (st.map fun v => v.category).sum ≤ 8) (hb : σ.1.1 + M'.2.2.2.2.1 ≤ c0.1 + M.2.2.2.2.1 ∧ σ.1.2 + M'.2.2.2.2.2 ≤ c0.2 + M.2.2.2.2.2)
    (hC : tq_C S M' d (.retAddr (i + 1) :: as) σ Q') (kk : ∀ r σ', Q' r σ' → tq_X S M (d + 1) c0 nx ls (r.toList ++ st) σ' Q) : tq_X S M (d + 1) c0 pc ls st0 σ Q := by
  obtain ⟨hd, rfl⟩ := hd
  subst hst
  intro G p e R s m args below meth c H locs la F Wd hS hl hc
  have hts := fun w h h2 => F.2.2.2.2.1 w (List.mem_filter.mpr ⟨h, h2⟩)
  have hR := F.2.2.2.2.2.2.2.2.1
  obtain ⟨hcls, hin, hse⟩ := hw
  obtain ⟨hini, hcd, hdn, hml⟩ := hm
  have hM := hC G hR.2.2.2.2
  have hrec : ∃ cellB : Cell, H[G.2.2.2.2.2.1 i]? = some cellB ∧ cellB.vm.isStatics = false ∧ s.vm.findClass M'.1.cls = some cellB.cls := by
    rw [← hcls]
    exact vk_recv F.2.2.2.2.2.2.2.2.2.2.2.2.2.2.2.2.1 hi hS
  have hpre : PreV s H M'.1.cls (G.2.2.2.2.2.1 i) (tq_Pc G (.retAddr (i + 1) :: as) σ) (as.map (tq_cv G)) := ⟨tq_blind, hrec, fun U hU hW => by
    have h9 := tq_pre (as := .retAddr (i + 1) :: as) F Wd hS hU hW
    rw [List.map_cons, tq_fo_k hi] at h9
    exact h9⟩
  have e6 : (as.reverse ++ .retAddr (i + 1) :: st).map (tq_cv G) = (as.map (tq_cv G)).reverse ++ .ref (G.2.2.2.2.2.1 i) :: st.map (tq_cv G) := by simp [tq_fo_k hi]
  rw [e6]
  exact tq_after (M' := M') (va_runV (As := as.map (tq_cv G)) (rest := st.map (tq_cv G)) ⟨F.1, F.2.1, F.2.2.1, F.2.2.2.1, F.2.2.2.2.1⟩ hM ⟨callB_of n F.2.2.2.2.1 (tq_goodM hcd) rfl rfl rfl (hts _ hini rfl) (hts _ hk rfl) hdn ⟨by show d + 1 ≤ _; omega, by show 8 + (M'.2.2.1 + 11) + 60 * d ≤ _; omega⟩, hts _ hin rfl, hts _ hse rfl⟩ hpre rfl (by rw [List.length_map]; exact hn) hl.1 rfl (lv_room (by rw [tq_sum8]; exact h8)) hd ⟨by omega, by omega⟩) F hS hl hc hb kk
theorem tq_callS {M' : tq_M} {ix n : Nat} {as : List Value} {st0 : List Value} {Q' : Option Value → tq_S → Prop} (hd : tq_D M.2.1 pc (.invokestatic ix) 3 nx) (hk : tq_lok M.1.cls ix M'.1) (hm : tq_mok M' n) (hw : Cond.static M'.1 ∈ lw_tbl) (hst : as.reverse ++ st = st0) (hn : as.length = n) (h8 : (st.map fun v => v.category).sum ≤ 8) (hb : σ.1.1 + M'.2.2.2.2.1 ≤ c0.1 + M.2.2.2.2.1 ∧ σ.1.2 + M'.2.2.2.2.2 ≤ c0.2 + M.2.2.2.2.2)
    (hC : tq_C S M' d as σ Q') (kk : ∀ r σ', Q' r σ' → tq_X S M (d + 1) c0 nx ls (r.toList ++ st) σ' Q) : tq_X S M (d + 1) c0 pc ls st0 σ Q := by
  obtain ⟨hd, rfl⟩ := hd
  subst hst
  intro G p e R s m args below meth c H locs la F Wd hS hl hc
  have hts := fun w h h2 => F.2.2.2.2.1 w (List.mem_filter.mpr ⟨h, h2⟩)
  have hR := F.2.2.2.2.2.2.2.2.1
  obtain ⟨hini, hcd, hdn, hml⟩ := hm
  have hM := hC G hR.2.2.2.2
  have hpre : PreS s H (tq_Pc G as σ) (as.map (tq_cv G)) := ⟨tq_blind, fun U hU hW => tq_pre F Wd hS hU hW⟩
  have e6 : (as.reverse ++ st).map (tq_cv G) = (as.map (tq_cv G)).reverse ++ st.map (tq_cv G) := by simp
  rw [e6]
  rcases hk with hk | ⟨host, hk⟩
  · exact tq_after (M' := M') (va_runS (As := as.map (tq_cv G)) (rest := st.map (tq_cv G)) ⟨F.1, F.2.1, F.2.2.1, F.2.2.2.1, F.2.2.2.2.1⟩ hM ⟨callB_of n F.2.2.2.2.1 (tq_goodM hcd) rfl rfl rfl (hts _ hini rfl) (hts _ hk rfl) hdn ⟨by show d + 1 ≤ _; omega, by show 8 + (M'.2.2.1 + 11) + 60 * d ≤ _; omega⟩, hts _ hw rfl⟩ hpre rfl (by rw [List.length_map]; exact hn) hl.1 rfl (lv_room (by rw [tq_sum8]; exact h8)) hd ⟨by omega, by omega⟩) F hS hl hc hb kk
  · exact tq_after (M' := M') (va_runSN (As := as.map (tq_cv G)) (rest := st.map (tq_cv G)) ⟨F.1, F.2.1, F.2.2.1, F.2.2.2.1, F.2.2.2.2.1⟩ hM ⟨va_cnB n F.2.2.2.2.1 (tq_goodM hcd) rfl rfl rfl (F.2.2.2.2.2.2.2.2.2.2.2.2.1 _ hk rfl) (hts _ hini rfl) hdn ⟨by show d + 1 ≤ _; omega, by show 8 + (M'.2.2.1 + 11) + 60 * d ≤ _; omega⟩, hts _ hw rfl, trivial⟩ hpre rfl (by rw [List.length_map]; exact hn) hl.1 rfl (lv_room (by rw [tq_sum8]; exact h8)) hd ⟨by omega, by omega⟩) F hS hl hc hb kk
theorem tq_callI {M' : tq_M} {ix n a : Nat} {as : List Value} {st0 : List Value} {Q' : Option Value → tq_S → Prop} (hd : tq_D M.2.1 pc (.invokespecial ix) 3 nx) (hk : tq_lok M.1.cls ix M'.1) (hm : tq_mok M' n) (hw : M'.1.name = "<init>" ∧ Cond.instanceMethod M'.1 ∈ lw_tbl ∧ M'.2.2.2.1 = none) (hst : as.reverse ++ .ref a :: st = st0) (hn : as.length = n) (h8 : (st.map fun v => v.category).sum ≤ 8) (hb : σ.1.1 + M'.2.2.2.2.1 ≤ c0.1 + M.2.2.2.2.1 ∧ σ.1.2 + M'.2.2.2.2.2 ≤ c0.2 + M.2.2.2.2.2)
    (hC : tq_C S M' d (.ref a :: as) σ Q') (kk : ∀ r σ', Q' r σ' → tq_X S M (d + 1) c0 nx ls (r.toList ++ st) σ' Q) : tq_X S M (d + 1) c0 pc ls st0 σ Q := by
  obtain ⟨hd, rfl⟩ := hd
  subst hst
  intro G p e R s m args below meth c H locs la F Wd hS hl hc
  have hts := fun w h h2 => F.2.2.2.2.1 w (List.mem_filter.mpr ⟨h, h2⟩)
  have hR := F.2.2.2.2.2.2.2.2.1
  obtain ⟨hini, hcd, hdn, hml⟩ := hm
  have hM := hC G hR.2.2.2.2
  have hpre : PreS s H (tq_Pc G (.ref a :: as) σ) (.ref (G.2.2.2.1 + a) :: as.map (tq_cv G)) := ⟨tq_blind, fun U hU hW => tq_pre F Wd hS hU hW⟩
  have e6 : (as.reverse ++ .ref a :: st).map (tq_cv G) = (as.map (tq_cv G)).reverse ++ .ref (G.2.2.2.1 + a) :: st.map (tq_cv G) := by simp [tq_cv]
  rw [e6]
  have hws : tq_ws M' = Cond.code M'.1 M'.2.1 M'.2.2.1 none :: tq_tb := by unfold tq_ws; rw [hw.2.2]
  rcases hk with hk | ⟨host, hk⟩
  · exact tq_after (M' := M') (va_runI (As := as.map (tq_cv G)) (rest := st.map (tq_cv G)) ⟨F.1, F.2.1, F.2.2.1, F.2.2.2.1, F.2.2.2.2.1⟩ hM ⟨callB_of n F.2.2.2.2.1 (tq_goodM hcd) hws rfl rfl (hts _ hini rfl) (hts _ hk rfl) hdn ⟨by show d + 1 ≤ _; omega, by show 8 + (M'.2.2.1 + 11) + 60 * d ≤ _; omega⟩, hw.1, hts _ hw.2.1 rfl⟩ hpre rfl (by rw [List.length_map]; exact hn) hl.1 rfl (lv_room (by rw [tq_sum8]; exact h8)) hd ⟨by omega, by omega⟩) F hS hl hc hb kk
  · exact tq_after (M' := M') (va_runIN (As := as.map (tq_cv G)) (rest := st.map (tq_cv G)) ⟨F.1, F.2.1, F.2.2.1, F.2.2.2.1, F.2.2.2.2.1⟩ hM ⟨va_cnB n F.2.2.2.2.1 (tq_goodM hcd) hws rfl rfl (F.2.2.2.2.2.2.2.2.2.2.2.2.1 _ hk rfl) (hts _ hini rfl) hdn ⟨by show d + 1 ≤ _; omega, by show 8 + (M'.2.2.1 + 11) + 60 * d ≤ _; omega⟩, hw.1, hts _ hw.2.1 rfl⟩ hpre rfl (by rw [List.length_map]; exact hn) hl.1 rfl (lv_room (by rw [tq_sum8]; exact h8)) hd ⟨by omega, by omega⟩) F hS hl hc hb kk
end TQ7
