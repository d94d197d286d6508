/-! THE SMALL MACHINE: fields and arrays. -/
def tq_cl (ci : Nat) : vw_C := vwCl.getD ci (RX0, TX0, 9)
def tq_ix : List (List Nat) := [[265, 267, 269, 271, 273, 275, 277, 279, 281], [469, 471], [456, 458], [175, 177, 179, 181, 183, 185, 187, 189, 191, 193], [230, 232, 234], [413, 415, 417, 419, 421, 423, 425, 427, 429], [443, 445], [318, 320, 322, 324, 326, 328, 330, 332, 334, 336, 338, 340, 342], [368, 370, 372, 374, 376, 378, 380, 382, 384, 386, 388], [247, 249], [210, 212, 214, 216], [484, 486, 488, 490, 492, 494, 496, 498, 500, 502], [1425, 1427, 1429, 1431, 1433, 1435, 1437, 1439, 1441, 1443, 1445, 1447, 1449, 1451, 1453, 1455, 1457, 1459, 1461, 1463, 1465, 1467, 1469, 1471, 1473, 1475, 1477, 1479, 1481, 1483, 1485, 1487, 1489, 1491, 1493, 1495, 1497, 1499, 1501]]
theorem tq_cl_at {ci : Nat} (h : ci < 13) : vwCl[ci]? = some (tq_cl ci) := by
  have h1 : ci < vwCl.length := h
  unfold tq_cl
  rw [List.getD_eq_getElem?_getD, List.getElem?_eq_getElem h1]
  rfl
theorem tq_cl_n : ∀ ci, ci < 13 → (tq_cl ci).2.2 = tq_nf ci := by decide +kernel
theorem tq_cl_own : ∀ ci, ci < 13 → ∀ k, k < tq_nf ci → ((tq_cl ci).2.1 k).1 = (tq_cl ci).1 := by decide +kernel
theorem tq_cl_nm : ∀ ci, ci < 13 → ∀ a, a < tq_nf ci → ∀ b, b < tq_nf ci → a ≠ b → ((tq_cl ci).2.1 a).2.1 ≠ ((tq_cl ci).2.1 b).2.1 := by decide +kernel
theorem tq_cl_ty : ∀ ci, ci < 13 → ∀ k, k < tq_nf ci → parseFieldDescriptor ((tq_cl ci).2.1 k).2.2.1 = some (tq_tyf ci k) := by decide +kernel
theorem tq_cl_ix : ∀ ci, ci < 13 → ∀ k, k < tq_nf ci → lw_tbl[(tq_ix.getD ci []).getD k 0]? = some (u_lay (tq_cl ci).1 (tq_cl ci).2.1 k) := by decide +kernel
theorem tq_gw_lay (C : String) (T : u_T) (k : Nat) : goodWord (u_lay C T k) = true := by
  unfold u_lay
  split <;> rfl
theorem tq_in {ci : Nat} (h : ci < 13) : ∀ w ∈ u_ws (tq_cl ci).1 (tq_cl ci).2.1 (tq_nf ci), w ∈ tq_tb := by
  intro w hw
  unfold u_ws at hw
  obtain ⟨k, hk, rfl⟩ := List.mem_map.mp hw
  exact List.mem_filter.mpr ⟨List.mem_of_getElem? (tq_cl_ix ci h k (List.mem_range.mp hk)), tq_gw_lay _ _ _⟩
/-- field k of class ci, at the constant ix of class own -/
def tq_fok (own : String) (ix ci k : Nat) : Prop := ci < 13 ∧ k < tq_nf ci ∧ (Cond.fieldLink own ix (tq_cl ci).1 ((tq_cl ci).2.1 k).2.1 ((tq_cl ci).2.1 k).2.2.1 ∈ lw_tbl ∨ ∃ host, Cond.fieldLinkNest own ix (tq_cl ci).1 ((tq_cl ci).2.1 k).2.1 ((tq_cl ci).2.1 k).2.2.1 host ∈ lw_tbl)
theorem tq_one {D : va_G} {cl : List vw_C} {q : Nat × va_E} {H : Heap} (h : va_at D cl q H) : va_P D cl [q] H := by
  intro k x hx
  cases k with
  | zero => simp at hx; subst hx; exact h
  | succ k => simp at hx
theorem tq_dA {A : Nat → Prop} {q : Nat × va_E} (h : A q.1) : va_D A [q] := by
  refine ⟨fun i j p r hi hj _ => ?_, fun k r hk => ?_⟩
  · cases i with
    | zero => cases j with
      | zero => rfl
      | succ j => simp at hj
    | succ i => simp at hi
  · cases k with
    | zero => simp at hk; subst hk; exact h
    | succ k => simp at hk
theorem tq_lt {σ : tq_S} (h : tq_Sh σ) {a : Nat} (ha : σ.2.1.1 a ≠ 99) : a < σ.1.1 := Nat.not_le.mp fun q => ha (h.1 a q)
theorem tq_ob {G : tq_G} {s : State} {H : Heap} {σ : tq_S} (h : tq_Wt G s H σ) {a ci : Nat} (hs : σ.2.1.1 a = ci) (hc : ci < 13) : va_at G.2.1 vwCl (G.2.2.2.1 + a, .inr (ci, tq_fs G σ a ci)) H := by
  have h1 := h.2.1 a (tq_lt h.2.2.2 (by omega))
  unfold tq_ce at h1
  rw [if_pos (by omega), hs] at h1
  exact h1
theorem tq_fs_at {G : tq_G} {σ : tq_S} {a ci k : Nat} (hk : k < tq_nf ci) : (tq_fs G σ a ci)[k]? = some (tq_fv G σ a (tq_tyf ci k) k) := by
  unfold tq_fs
  rw [List.getElem?_map, List.getElem?_range hk]
  rfl
theorem tq_kArr {G : tq_G} {s : State} {t : Nat} {ty : FieldType} (hK : va_K G.2.1 vwCl [] s) (h : ArrOfT s (G.2.2.1 t) ty ∧ va_RA s (G.2.2.1 t) ty) : va_K G.2.1 vwCl [(G.2.2.1 t, ty)] s := by
  refine ⟨hK.1, fun k q hq => ?_⟩
  cases k with
  | zero => simp at hq; subst hq; exact h
  | succ k => simp at hq
section TQ3
variable {S : Nat × (Nat → Int32)} {M : tq_M} {d : Nat} {c0 : Nat × Nat} {pc nx tgt : Nat} {ls st : List Value} {σ : tq_S} {Q : Option Value → tq_S → Prop}
theorem tq_getV {ix ci k a : Nat} (v : Value) (hd : tq_D M.2.1 pc (.getfield ix) 3 nx) (hf : tq_fok M.1.cls ix ci k) (hs : σ.2.1.1 a = ci) (hv : ∀ G : tq_G, tq_fv G σ a (tq_tyf ci k) k = tq_cv G v) (kk : tq_X S M d c0 nx ls (v :: st) σ Q) : tq_X S M d c0 pc ls (.ref a :: st) σ Q := by
  obtain ⟨hd, rfl⟩ := hd
  obtain ⟨h13, hk, hf⟩ := hf
  intro G p e R s m args below meth c H locs la F Wd hS hl hc
  have hcl := tq_cl_at h13
  have hn := tq_cl_n ci h13
  have hob := tq_one (tq_ob Wd hs h13)
  have hfs := tq_fs_at (G := G) (σ := σ) (a := a) hk
  rw [hv G] at hfs
  rcases hf with hf | ⟨host, hf⟩
  · exact va_get (T := (tq_cl ci).2.1) (C := (tq_cl ci).1) (N := (tq_cl ci).2.2) F.1 F.2.1 F.2.2.2.2.1 (by rw [hn]; exact tq_in h13) F.2.2.2.1 F.2.2.2.2.2.2.2.2.2.1 hob 0 rfl hcl k (by rw [hn]; exact hk) (F.2.2.2.2.1 _ (List.mem_filter.mpr ⟨hf, rfl⟩)) (by rw [tq_cl_own ci h13 k hk]; exact fun x h => h) hfs hd (kk G p e R s m args below meth c H locs la F Wd hS hl hc)
  · exact va_getN (T := (tq_cl ci).2.1) (C := (tq_cl ci).1) (N := (tq_cl ci).2.2) F.1 F.2.1 F.2.2.2.2.1 (by rw [hn]; exact tq_in h13) F.2.2.2.1 F.2.2.2.2.2.2.2.2.2.1 hob 0 rfl hcl k (by rw [hn]; exact hk) (va_Nw.use rfl (F.2.2.2.2.2.2.2.2.2.2.2.2.1 _ hf rfl)) (by rw [tq_cl_own ci h13 k hk]; exact fun x h => h) hfs hd (kk G p e R s m args below meth c H locs la F Wd hS hl hc)
theorem tq_getI {ix ci k a : Nat} (hd : tq_D M.2.1 pc (.getfield ix) 3 nx) (hf : tq_fok M.1.cls ix ci k) (ht : tq_tc (tq_tyf ci k) = 0) (hs : σ.2.1.1 a = ci) (kk : tq_X S M d c0 nx ls (.int (σ.2.2.1 a k) :: st) σ Q) : tq_X S M d c0 pc ls (.ref a :: st) σ Q :=
  tq_getV (.int (σ.2.2.1 a k)) hd hf hs (fun G => by unfold tq_fv; rw [if_pos ht]; rfl) kk
theorem tq_getL {ix ci k a : Nat} (hd : tq_D M.2.1 pc (.getfield ix) 3 nx) (hf : tq_fok M.1.cls ix ci k) (ht : tq_tc (tq_tyf ci k) = 1) (hs : σ.2.1.1 a = ci) (kk : tq_X S M d c0 nx ls (.long (σ.2.2.2 a k) :: st) σ Q) : tq_X S M d c0 pc ls (.ref a :: st) σ Q :=
  tq_getV (.long (σ.2.2.2 a k)) hd hf hs (fun G => by unfold tq_fv; rw [if_neg (by omega), if_pos ht]; rfl) kk
theorem tq_getR {ix ci k a b : Nat} (hd : tq_D M.2.1 pc (.getfield ix) 3 nx) (hf : tq_fok M.1.cls ix ci k) (ht : tq_tc (tq_tyf ci k) = 2) (hs : σ.2.1.1 a = ci) (hb : σ.2.1.2.2 a k = some b) (kk : tq_X S M d c0 nx ls (.ref b :: st) σ Q) : tq_X S M d c0 pc ls (.ref a :: st) σ Q :=
  tq_getV (.ref b) hd hf hs (fun G => by unfold tq_fv; rw [if_neg (by omega), if_neg (by omega), hb]; rfl) kk
theorem tq_arI {G : tq_G} {s : State} {H : Heap} (h : tq_Wt G s H σ) {a t : Nat} (hs : σ.2.1.1 a = t) (ht : t = 100 ∨ t = 102 ∨ t = 103) : va_at G.2.1 vwCl (G.2.2.2.1 + a, .inl (G.2.2.1 t, σ.2.1.2.1 a, .inl (σ.2.2.1 a))) H ∧ ArrOfT s (G.2.2.1 t) (tq_at t) ∧ va_RA s (G.2.2.1 t) (tq_at t) := by
  have hl := tq_lt h.2.2.2 (show σ.2.1.1 a ≠ 99 by omega)
  have h1 := h.2.1 a hl
  have h2 := h.2.2.1 a hl (by omega)
  unfold tq_ce at h1
  rw [if_neg (by omega), if_neg (by omega), if_pos (by omega), hs] at h1
  rw [hs] at h2
  exact ⟨h1, h2⟩
theorem tq_arL {G : tq_G} {s : State} {H : Heap} (h : tq_Wt G s H σ) {a : Nat} (hs : σ.2.1.1 a = 101) : va_at G.2.1 vwCl (G.2.2.2.1 + a, .inl (G.2.2.1 101, σ.2.1.2.1 a, .inr (.inl (σ.2.2.2 a)))) H ∧ ArrOfT s (G.2.2.1 101) (tq_at 101) ∧ va_RA s (G.2.2.1 101) (tq_at 101) := by
  have hl := tq_lt h.2.2.2 (show σ.2.1.1 a ≠ 99 by omega)
  have h1 := h.2.1 a hl
  have h2 := h.2.2.1 a hl (by omega)
  unfold tq_ce at h1
  rw [if_neg (by omega), if_pos hs] at h1
  rw [hs] at h2
  exact ⟨h1, h2⟩
theorem tq_arR {G : tq_G} {s : State} {H : Heap} (h : tq_Wt G s H σ) {a t : Nat} (hs : σ.2.1.1 a = t) (ht : 110 ≤ t) : va_at G.2.1 vwCl (G.2.2.2.1 + a, .inl (G.2.2.1 t, σ.2.1.2.1 a, .inr (.inr (.inr (.inr (fun j => (σ.2.1.2.2 a j).map (fun i => G.2.2.2.1 + i))))))) H ∧ ArrOfT s (G.2.2.1 t) (tq_at t) ∧ va_RA s (G.2.2.1 t) (tq_at t) := by
  have hl := tq_lt h.2.2.2 (show σ.2.1.1 a ≠ 99 by omega)
  have h1 := h.2.1 a hl
  have h2 := h.2.2.1 a hl (by omega)
  unfold tq_ce at h1
  rw [if_neg (by omega), if_neg (by omega), if_neg (by omega), hs] at h1
  rw [hs] at h2
  exact ⟨h1, h2⟩
theorem tq_at_o {t : Nat} (ht : 110 ≤ t) : tq_at t = .object ((vwCl[t - 110]?).elim "" (fun r => r.1)) := by
  unfold tq_at
  rw [if_neg (by omega), if_neg (by omega), if_neg (by omega), if_neg (by omega)]
theorem tq_iald {a : Nat} {i : Int32} (hd : tq_D M.2.1 pc (.iaload) 1 nx) (hs : σ.2.1.1 a = 100) (hi : vp_in i (σ.2.1.2.1 a)) (kk : tq_X S M d c0 nx ls (.int (σ.2.2.1 a i.toNatClampNeg) :: st) σ Q) : tq_X S M d c0 pc ls (.int i :: .ref a :: st) σ Q := by
  obtain ⟨hd, rfl⟩ := hd
  intro G p e R s m args below meth c H locs la F Wd hS hl hc
  obtain ⟨h1, h2⟩ := tq_arI Wd hs (by omega)
  exact va_iald F.1 F.2.1 (tq_kArr F.2.2.2.2.2.2.2.2.2.1 h2) (tq_one h1) 0 0 rfl rfl hi hd (kk G p e R s m args below meth c H locs la F Wd hS hl hc)
theorem tq_bald {a : Nat} {i : Int32} (hd : tq_D M.2.1 pc (.baload) 1 nx) (hs : σ.2.1.1 a = 102) (hi : vp_in i (σ.2.1.2.1 a)) (kk : tq_X S M d c0 nx ls (.int (σ.2.2.1 a i.toNatClampNeg) :: st) σ Q) : tq_X S M d c0 pc ls (.int i :: .ref a :: st) σ Q := by
  obtain ⟨hd, rfl⟩ := hd
  intro G p e R s m args below meth c H locs la F Wd hS hl hc
  obtain ⟨h1, h2⟩ := tq_arI Wd hs (by omega)
  exact va_bald F.1 F.2.1 (tq_kArr F.2.2.2.2.2.2.2.2.2.1 h2) (tq_one h1) 0 0 rfl rfl hi hd (kk G p e R s m args below meth c H locs la F Wd hS hl hc)
theorem tq_zald {a : Nat} {i : Int32} (hd : tq_D M.2.1 pc (.baload) 1 nx) (hs : σ.2.1.1 a = 103) (hi : vp_in i (σ.2.1.2.1 a)) (kk : tq_X S M d c0 nx ls (.int (σ.2.2.1 a i.toNatClampNeg) :: st) σ Q) : tq_X S M d c0 pc ls (.int i :: .ref a :: st) σ Q := by
  obtain ⟨hd, rfl⟩ := hd
  intro G p e R s m args below meth c H locs la F Wd hS hl hc
  obtain ⟨h1, h2⟩ := tq_arI Wd hs (by omega)
  exact va_zald F.1 F.2.1 (tq_kArr F.2.2.2.2.2.2.2.2.2.1 h2) (tq_one h1) 0 0 rfl rfl hi hd (kk G p e R s m args below meth c H locs la F Wd hS hl hc)
theorem tq_lald {a : Nat} {i : Int32} (hd : tq_D M.2.1 pc (.laload) 1 nx) (hs : σ.2.1.1 a = 101) (hi : vp_in i (σ.2.1.2.1 a)) (kk : tq_X S M d c0 nx ls (.long (σ.2.2.2 a i.toNatClampNeg) :: st) σ Q) : tq_X S M d c0 pc ls (.int i :: .ref a :: st) σ Q := by
  obtain ⟨hd, rfl⟩ := hd
  intro G p e R s m args below meth c H locs la F Wd hS hl hc
  obtain ⟨h1, h2⟩ := tq_arL Wd hs
  exact va_lald F.1 F.2.1 (tq_kArr F.2.2.2.2.2.2.2.2.2.1 h2) (tq_one h1) 0 0 rfl rfl hi hd (kk G p e R s m args below meth c H locs la F Wd hS hl hc)
theorem tq_aald {a b t : Nat} {i : Int32} (hd : tq_D M.2.1 pc (.aaload) 1 nx) (hs : σ.2.1.1 a = t) (ht : 110 ≤ t) (hi : vp_in i (σ.2.1.2.1 a)) (hb : σ.2.1.2.2 a i.toNatClampNeg = some b) (kk : tq_X S M d c0 nx ls (.ref b :: st) σ Q) : tq_X S M d c0 pc ls (.int i :: .ref a :: st) σ Q := by
  obtain ⟨hd, rfl⟩ := hd
  intro G p e R s m args below meth c H locs la F Wd hS hl hc
  obtain ⟨h1, h2⟩ := tq_arR Wd hs ht
  rw [tq_at_o ht] at h2
  refine va_aldq F.1 F.2.1 (tq_kArr F.2.2.2.2.2.2.2.2.2.1 h2) (tq_one h1) 0 0 rfl rfl hi hd ?_
  rw [hb]
  exact kk G p e R s m args below meth c H locs la F Wd hS hl hc
theorem tq_alen {a t : Nat} (hd : tq_D M.2.1 pc (.arraylength) 1 nx) (hs : σ.2.1.1 a = t) (ht : t = 100 ∨ t = 101 ∨ t = 102 ∨ t = 103 ∨ 110 ≤ t) (kk : tq_X S M d c0 nx ls (.int (nI (σ.2.1.2.1 a)) :: st) σ Q) : tq_X S M d c0 pc ls (.ref a :: st) σ Q := by
  obtain ⟨hd, rfl⟩ := hd
  intro G p e R s m args below meth c H locs la F Wd hS hl hc
  by_cases h101 : t = 101
  · subst h101
    obtain ⟨h1, h2⟩ := tq_arL Wd hs
    exact va_alen F.1 F.2.1 (tq_kArr F.2.2.2.2.2.2.2.2.2.1 h2) (tq_one h1) 0 0 rfl rfl rfl hd (kk G p e R s m args below meth c H locs la F Wd hS hl hc)
  by_cases h110 : 110 ≤ t
  · obtain ⟨h1, h2⟩ := tq_arR Wd hs h110
    exact va_alen F.1 F.2.1 (tq_kArr F.2.2.2.2.2.2.2.2.2.1 h2) (tq_one h1) 0 0 rfl rfl rfl hd (kk G p e R s m args below meth c H locs la F Wd hS hl hc)
  · obtain ⟨h1, h2⟩ := tq_arI Wd hs (by omega)
    exact va_alen F.1 F.2.1 (tq_kArr F.2.2.2.2.2.2.2.2.2.1 h2) (tq_one h1) 0 0 rfl rfl rfl hd (kk G p e R s m args below meth c H locs la F Wd hS hl hc)
end TQ3
