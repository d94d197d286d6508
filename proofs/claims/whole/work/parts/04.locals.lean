/-! THE SMALL MACHINE: locals. -/
theorem tq_lv_mem {G : tq_G} {v : Value} (hv : ∀ b, v ≠ .float b) : ∀ {ls : List Value} {i0 i : Nat}, ls[i]? = some v → (i0 + i, tq_cv G v) ∈ tq_lv G i0 ls
  | [], _, _, h => by simp at h
  | w :: r, i0, 0, h => by
    simp at h
    subst h
    unfold tq_lv
    refine List.mem_append_left _ ?_
    cases w <;> first | exact absurd rfl (hv _) | exact List.mem_singleton.mpr rfl
  | w :: r, i0, i + 1, h => by
    unfold tq_lv
    refine List.mem_append_right _ ?_
    have := tq_lv_mem (G := G) hv (ls := r) (i0 := i0 + 1) (i := i) (by simpa using h)
    rwa [show i0 + (i + 1) = i0 + 1 + i by omega]
theorem tq_lv_of {G : tq_G} {q : Nat × Value} : ∀ {ls : List Value} {i0 : Nat}, q ∈ tq_lv G i0 ls → ∃ i v, q = (i0 + i, tq_cv G v) ∧ ls[i]? = some v ∧ ∀ b, v ≠ .float b
  | [], _, h => by simp [tq_lv] at h
  | w :: r, i0, h => by
    unfold tq_lv at h
    rcases List.mem_append.mp h with h | h
    · refine ⟨0, w, ?_, rfl, ?_⟩
      · cases w <;> first | (exact List.mem_singleton.mp h) | (simp at h)
      · rintro b rfl
        simp at h
    · obtain ⟨i, v, h1, h2, h3⟩ := tq_lv_of h
      exact ⟨i + 1, v, by rw [h1]; congr 1; omega, by simpa using h2, h3⟩
theorem tq_ld {G : tq_G} {la : Array Slot} {n i : Nat} {ls : List Value} {v : Value} (h : lv_has la n (tq_lv G 0 ls)) (hi : ls[i]? = some v) (hv : ∀ b, v ≠ .float b) : la[i]? = some (.val (tq_cv G v)) := by
  have := h.2.2 _ (tq_lv_mem (G := G) (i0 := 0) hv hi)
  simpa using this
def tq_kill (ls : List Value) : Nat → List Value
  | 0 => ls
  | i + 1 => match ls[i]? with
    | some v => if v.category = 2 then ls.set i tq_u else ls
    | none => ls
def tq_put1 (ls : List Value) (i : Nat) (v : Value) : List Value := (tq_kill ls i).set i v
def tq_put2 (ls : List Value) (i : Nat) (v : Value) : List Value := ((tq_kill ls i).set i v).set (i + 1) tq_u
theorem tq_kill_of {ls : List Value} {i j : Nat} {v : Value} (h : (tq_kill ls i)[j]? = some v) (hv : ∀ b, v ≠ .float b) : ls[j]? = some v ∧ (j + 1 = i → ¬ v.category = 2) := by
  cases i with
  | zero => exact ⟨h, fun q => by omega⟩
  | succ i =>
    simp only [tq_kill] at h
    cases hi : ls[i]? with
    | none =>
      rw [hi] at h
      exact ⟨h, fun q => by
        have : j = i := by omega
        subst this
        rw [hi] at h
        cases h⟩
    | some w =>
      rw [hi] at h
      dsimp only at h
      by_cases hc : w.category = 2
      · rw [if_pos hc] at h
        by_cases hj : j = i
        · subst hj
          rw [List.getElem?_set_self (List.getElem?_eq_some_iff.mp hi).1] at h
          cases h
          exact absurd rfl (hv 0)
        · rw [List.getElem?_set_ne (Ne.symm hj)] at h
          exact ⟨h, fun q => by omega⟩
      · rw [if_neg hc] at h
        refine ⟨h, fun q => ?_⟩
        have : j = i := by omega
        subst this
        rw [hi] at h
        cases h
        exact hc
theorem tq_st1 {G : tq_G} {la : Array Slot} {n i : Nat} {ls : List Value} {v : Value} (h : lv_has la n ((i, tq_cv G v) :: (tq_lv G 0 ls).filter (fun q => !(q.1 == i) && !(q.1 + 1 == i && q.2.category == 2)))) : lv_has la n (tq_lv G 0 (tq_put1 ls i v)) := by
  refine ⟨h.1, h.2.1, fun q hq => h.2.2 q ?_⟩
  obtain ⟨j, w, rfl, hj, hw⟩ := tq_lv_of hq
  unfold tq_put1 at hj
  by_cases hji : j = i
  · subst hji
    have hl := (List.getElem?_eq_some_iff.mp hj).1
    rw [List.length_set] at hl
    rw [List.getElem?_set_self hl] at hj
    cases hj
    rw [Nat.zero_add]
    exact List.mem_cons_self
  · rw [List.getElem?_set_ne (Ne.symm hji)] at hj
    obtain ⟨h1, h2⟩ := tq_kill_of hj hw
    refine List.mem_cons_of_mem _ (List.mem_filter.mpr ⟨tq_lv_mem hw h1, ?_⟩)
    rw [Nat.zero_add]
    simp only [tq_cat, Bool.and_eq_true, Bool.not_eq_true', beq_eq_false_iff_ne, ne_eq, Bool.and_eq_false_iff, hji, not_false_eq_true, true_and]
    by_cases hq2 : j + 1 = i
    · exact Or.inr (h2 hq2)
    · exact Or.inl hq2
theorem tq_st2 {G : tq_G} {la : Array Slot} {n i : Nat} {ls : List Value} {v : Value} (h : lv_has la n ((i, tq_cv G v) :: (tq_lv G 0 ls).filter (fun q => !(q.1 == i) && (!(q.1 == i + 1) && !(q.1 + 1 == i && q.2.category == 2))))) : lv_has la n (tq_lv G 0 (tq_put2 ls i v)) := by
  refine ⟨h.1, h.2.1, fun q hq => h.2.2 q ?_⟩
  obtain ⟨j, w, rfl, hj, hw⟩ := tq_lv_of hq
  unfold tq_put2 at hj
  by_cases hj1 : j = i + 1
  · subst hj1
    have hl := (List.getElem?_eq_some_iff.mp hj).1
    rw [List.length_set] at hl
    rw [List.getElem?_set_self hl] at hj
    cases hj
    exact absurd rfl (hw 0)
  rw [List.getElem?_set_ne (Ne.symm hj1)] at hj
  by_cases hji : j = i
  · subst hji
    have hl := (List.getElem?_eq_some_iff.mp hj).1
    rw [List.length_set] at hl
    rw [List.getElem?_set_self hl] at hj
    cases hj
    rw [Nat.zero_add]
    exact List.mem_cons_self
  · rw [List.getElem?_set_ne (Ne.symm hji)] at hj
    obtain ⟨h1, h2⟩ := tq_kill_of hj hw
    refine List.mem_cons_of_mem _ (List.mem_filter.mpr ⟨tq_lv_mem hw h1, ?_⟩)
    rw [Nat.zero_add]
    simp only [tq_cat, Bool.and_eq_true, Bool.not_eq_true', beq_eq_false_iff_ne, ne_eq, Bool.and_eq_false_iff, hji, hj1, not_false_eq_true, true_and]
    by_cases hq2 : j + 1 = i
    · exact Or.inr (h2 hq2)
    · exact Or.inl hq2
section TQ2
variable {S : Nat × (Nat → Int32)} {M : tq_M} {d : Nat} {c0 : Nat × Nat} {pc nx tgt : Nat} {ls st : List Value} {σ : tq_S} {Q : Option Value → tq_S → Prop}
theorem tq_iload_n {k : Fin 4} {x : Int32} (hd : tq_D M.2.1 pc (.iload_n k) 1 nx) (hx : ls[(k : Nat)]? = some (.int x)) (kk : tq_X S M d c0 nx ls (.int x :: st) σ Q) : tq_X S M d c0 pc ls st σ Q := by
  obtain ⟨hd, rfl⟩ := hd
  intro G p e R s m args below meth c H locs la F Wd hS hl hc
  exact lv_iload_n F.1 F.2.1 hd rfl (tq_ld hl hx (fun _ h => by cases h)) (kk G p e R s m args below meth c H locs la F Wd hS hl hc)
theorem tq_iload {i : Nat} {x : Int32} (hd : tq_D M.2.1 pc (.iload i) 2 nx) (hx : ls[i]? = some (.int x)) (kk : tq_X S M d c0 nx ls (.int x :: st) σ Q) : tq_X S M d c0 pc ls st σ Q := by
  obtain ⟨hd, rfl⟩ := hd
  intro G p e R s m args below meth c H locs la F Wd hS hl hc
  exact lv_iload F.1 F.2.1 hd (tq_ld hl hx (fun _ h => by cases h)) (kk G p e R s m args below meth c H locs la F Wd hS hl hc)
theorem tq_lload_n {k : Fin 4} {x : Int64} (hd : tq_D M.2.1 pc (.lload_n k) 1 nx) (hx : ls[(k : Nat)]? = some (.long x)) (kk : tq_X S M d c0 nx ls (.long x :: st) σ Q) : tq_X S M d c0 pc ls st σ Q := by
  obtain ⟨hd, rfl⟩ := hd
  intro G p e R s m args below meth c H locs la F Wd hS hl hc
  exact lv_lload_n F.1 F.2.1 hd rfl (tq_ld hl hx (fun _ h => by cases h)) (kk G p e R s m args below meth c H locs la F Wd hS hl hc)
theorem tq_lload {i : Nat} {x : Int64} (hd : tq_D M.2.1 pc (.lload i) 2 nx) (hx : ls[i]? = some (.long x)) (kk : tq_X S M d c0 nx ls (.long x :: st) σ Q) : tq_X S M d c0 pc ls st σ Q := by
  obtain ⟨hd, rfl⟩ := hd
  intro G p e R s m args below meth c H locs la F Wd hS hl hc
  exact lv_lload F.1 F.2.1 hd (tq_ld hl hx (fun _ h => by cases h)) (kk G p e R s m args below meth c H locs la F Wd hS hl hc)
theorem tq_aload_n {k : Fin 4} {x : Nat} (hd : tq_D M.2.1 pc (.aload_n k) 1 nx) (hx : ls[(k : Nat)]? = some (.ref x)) (kk : tq_X S M d c0 nx ls (.ref x :: st) σ Q) : tq_X S M d c0 pc ls st σ Q := by
  obtain ⟨hd, rfl⟩ := hd
  intro G p e R s m args below meth c H locs la F Wd hS hl hc
  exact lv_aload_n F.1 F.2.1 hd rfl (tq_ld hl hx (fun _ h => by cases h)) (kk G p e R s m args below meth c H locs la F Wd hS hl hc)
theorem tq_aload {i : Nat} {x : Nat} (hd : tq_D M.2.1 pc (.aload i) 2 nx) (hx : ls[i]? = some (.ref x)) (kk : tq_X S M d c0 nx ls (.ref x :: st) σ Q) : tq_X S M d c0 pc ls st σ Q := by
  obtain ⟨hd, rfl⟩ := hd
  intro G p e R s m args below meth c H locs la F Wd hS hl hc
  exact lv_aload F.1 F.2.1 hd (tq_ld hl hx (fun _ h => by cases h)) (kk G p e R s m args below meth c H locs la F Wd hS hl hc)
theorem tq_aloadF_n {k : Fin 4} {x : Nat} (hd : tq_D M.2.1 pc (.aload_n k) 1 nx) (hx : ls[(k : Nat)]? = some (.retAddr x)) (kk : tq_X S M d c0 nx ls (.retAddr x :: st) σ Q) : tq_X S M d c0 pc ls st σ Q := by
  obtain ⟨hd, rfl⟩ := hd
  intro G p e R s m args below meth c H locs la F Wd hS hl hc
  exact lv_aload_n F.1 F.2.1 hd rfl (tq_ld hl hx (fun _ h => by cases h)) (kk G p e R s m args below meth c H locs la F Wd hS hl hc)
theorem tq_aloadF {i : Nat} {x : Nat} (hd : tq_D M.2.1 pc (.aload i) 2 nx) (hx : ls[i]? = some (.retAddr x)) (kk : tq_X S M d c0 nx ls (.retAddr x :: st) σ Q) : tq_X S M d c0 pc ls st σ Q := by
  obtain ⟨hd, rfl⟩ := hd
  intro G p e R s m args below meth c H locs la F Wd hS hl hc
  exact lv_aload F.1 F.2.1 hd (tq_ld hl hx (fun _ h => by cases h)) (kk G p e R s m args below meth c H locs la F Wd hS hl hc)
theorem tq_aloadN_n {k : Fin 4}  (hd : tq_D M.2.1 pc (.aload_n k) 1 nx) (hx : ls[(k : Nat)]? = some (.null)) (kk : tq_X S M d c0 nx ls (.null :: st) σ Q) : tq_X S M d c0 pc ls st σ Q := by
  obtain ⟨hd, rfl⟩ := hd
  intro G p e R s m args below meth c H locs la F Wd hS hl hc
  exact lv_aload_nN F.1 F.2.1 hd rfl (tq_ld hl hx (fun _ h => by cases h)) (kk G p e R s m args below meth c H locs la F Wd hS hl hc)
theorem tq_aloadN {i : Nat}  (hd : tq_D M.2.1 pc (.aload i) 2 nx) (hx : ls[i]? = some (.null)) (kk : tq_X S M d c0 nx ls (.null :: st) σ Q) : tq_X S M d c0 pc ls st σ Q := by
  obtain ⟨hd, rfl⟩ := hd
  intro G p e R s m args below meth c H locs la F Wd hS hl hc
  exact lv_aloadN F.1 F.2.1 hd (tq_ld hl hx (fun _ h => by cases h)) (kk G p e R s m args below meth c H locs la F Wd hS hl hc)
theorem tq_istore_n {k : Fin 4} {x : Int32} (ls2 : List Value) (hd : tq_D M.2.1 pc (.istore_n k) 1 nx) (hn : (k : Nat) < M.2.2.1) (h2 : tq_put1 ls (k : Nat) (.int x) = ls2) (kk : tq_X S M d c0 nx ls2 st σ Q) : tq_X S M d c0 pc ls (.int x :: st) σ Q := by
  obtain ⟨hd, rfl⟩ := hd
  subst h2
  intro G p e R s m args below meth c H locs la F Wd hS hl hc
  exact lv_istore_n F.1 F.2.1 hd rfl hl hn rfl (fun la2 hl2 => by have hl2 := tq_st1 (v := .int x) hl2; exact kk G p e R s m args below meth c H locs la2 F Wd hS hl2 hc)
theorem tq_istore {i : Nat} {x : Int32} (ls2 : List Value) (hd : tq_D M.2.1 pc (.istore i) 2 nx) (hn : i < M.2.2.1) (h2 : tq_put1 ls i (.int x) = ls2) (kk : tq_X S M d c0 nx ls2 st σ Q) : tq_X S M d c0 pc ls (.int x :: st) σ Q := by
  obtain ⟨hd, rfl⟩ := hd
  subst h2
  intro G p e R s m args below meth c H locs la F Wd hS hl hc
  exact lv_istore F.1 F.2.1 hd hl hn rfl (fun la2 hl2 => by have hl2 := tq_st1 (v := .int x) hl2; exact kk G p e R s m args below meth c H locs la2 F Wd hS hl2 hc)
theorem tq_lstore_n {k : Fin 4} {x : Int64} (ls2 : List Value) (hd : tq_D M.2.1 pc (.lstore_n k) 1 nx) (hn : (k : Nat) + 1 < M.2.2.1) (h2 : tq_put2 ls (k : Nat) (.long x) = ls2) (kk : tq_X S M d c0 nx ls2 st σ Q) : tq_X S M d c0 pc ls (.long x :: st) σ Q := by
  obtain ⟨hd, rfl⟩ := hd
  subst h2
  intro G p e R s m args below meth c H locs la F Wd hS hl hc
  exact lv_lstore_n F.1 F.2.1 hd rfl hl hn rfl (fun la2 hl2 => by have hl2 := tq_st2 (v := .long x) hl2; exact kk G p e R s m args below meth c H locs la2 F Wd hS hl2 hc)
theorem tq_lstore {i : Nat} {x : Int64} (ls2 : List Value) (hd : tq_D M.2.1 pc (.lstore i) 2 nx) (hn : i + 1 < M.2.2.1) (h2 : tq_put2 ls i (.long x) = ls2) (kk : tq_X S M d c0 nx ls2 st σ Q) : tq_X S M d c0 pc ls (.long x :: st) σ Q := by
  obtain ⟨hd, rfl⟩ := hd
  subst h2
  intro G p e R s m args below meth c H locs la F Wd hS hl hc
  exact lv_lstore F.1 F.2.1 hd hl hn rfl (fun la2 hl2 => by have hl2 := tq_st2 (v := .long x) hl2; exact kk G p e R s m args below meth c H locs la2 F Wd hS hl2 hc)
theorem tq_astore_n {k : Fin 4} {x : Nat} (ls2 : List Value) (hd : tq_D M.2.1 pc (.astore_n k) 1 nx) (hn : (k : Nat) < M.2.2.1) (h2 : tq_put1 ls (k : Nat) (.ref x) = ls2) (kk : tq_X S M d c0 nx ls2 st σ Q) : tq_X S M d c0 pc ls (.ref x :: st) σ Q := by
  obtain ⟨hd, rfl⟩ := hd
  subst h2
  intro G p e R s m args below meth c H locs la F Wd hS hl hc
  exact lv_astore_n F.1 F.2.1 hd rfl hl hn rfl (fun la2 hl2 => by have hl2 := tq_st1 (v := .ref x) hl2; exact kk G p e R s m args below meth c H locs la2 F Wd hS hl2 hc)
theorem tq_astore {i : Nat} {x : Nat} (ls2 : List Value) (hd : tq_D M.2.1 pc (.astore i) 2 nx) (hn : i < M.2.2.1) (h2 : tq_put1 ls i (.ref x) = ls2) (kk : tq_X S M d c0 nx ls2 st σ Q) : tq_X S M d c0 pc ls (.ref x :: st) σ Q := by
  obtain ⟨hd, rfl⟩ := hd
  subst h2
  intro G p e R s m args below meth c H locs la F Wd hS hl hc
  exact lv_astore F.1 F.2.1 hd hl hn rfl (fun la2 hl2 => by have hl2 := tq_st1 (v := .ref x) hl2; exact kk G p e R s m args below meth c H locs la2 F Wd hS hl2 hc)
theorem tq_astoreN_n {k : Fin 4}  (ls2 : List Value) (hd : tq_D M.2.1 pc (.astore_n k) 1 nx) (hn : (k : Nat) < M.2.2.1) (h2 : tq_put1 ls (k : Nat) (.null) = ls2) (kk : tq_X S M d c0 nx ls2 st σ Q) : tq_X S M d c0 pc ls (.null :: st) σ Q := by
  obtain ⟨hd, rfl⟩ := hd
  subst h2
  intro G p e R s m args below meth c H locs la F Wd hS hl hc
  exact lv_astore_nN F.1 F.2.1 hd rfl hl hn rfl (fun la2 hl2 => by have hl2 := tq_st1 (v := .null) hl2; exact kk G p e R s m args below meth c H locs la2 F Wd hS hl2 hc)
theorem tq_astoreN {i : Nat}  (ls2 : List Value) (hd : tq_D M.2.1 pc (.astore i) 2 nx) (hn : i < M.2.2.1) (h2 : tq_put1 ls i (.null) = ls2) (kk : tq_X S M d c0 nx ls2 st σ Q) : tq_X S M d c0 pc ls (.null :: st) σ Q := by
  obtain ⟨hd, rfl⟩ := hd
  subst h2
  intro G p e R s m args below meth c H locs la F Wd hS hl hc
  exact lv_astoreN F.1 F.2.1 hd hl hn rfl (fun la2 hl2 => by have hl2 := tq_st1 (v := .null) hl2; exact kk G p e R s m args below meth c H locs la2 F Wd hS hl2 hc)
theorem tq_iinc {i : Nat} {n : Int} {x : Int32} (v : Int32) (ls2 : List Value) (hd : tq_D M.2.1 pc (.iinc i n) 3 nx) (hx : ls[i]? = some (.int x)) (hv : x + Int32.ofInt n = v) (hn : i < M.2.2.1) (h2 : tq_put1 ls i (.int v) = ls2) (kk : tq_X S M d c0 nx ls2 st σ Q) : tq_X S M d c0 pc ls st σ Q := by
  obtain ⟨hd, rfl⟩ := hd
  subst h2
  intro G p e R s m args below meth c H locs la F Wd hS hl hc
  obtain ⟨j, hj⟩ := List.getElem?_of_mem (tq_lv_mem (G := G) (i0 := 0) (fun _ h => by cases h) hx)
  rw [Nat.zero_add] at hj
  exact lv_iinc F.1 F.2.1 hd hl hj hv hn rfl (fun la2 hl2 => by have hl2 := tq_st1 (v := .int v) hl2; exact kk G p e R s m args below meth c H locs la2 F Wd hS hl2 hc)
end TQ2
