/-! LOGS: the query range. -/
def Exl (F : Nat → Bool) (q n : Nat) (v : Int) : Prop := (v = -1 ∧ ∀ c, c < n → F c = false) ∨ ∃ h : Nat, v = h ∧ h ≤ 9 ∧ (∃ c, c < n ∧ F c = true ∧ hrs c q = h) ∧ ∀ c, c < n → F c = true → h ≤ hrs c q
theorem Exl_one {F : Nat → Bool} {q n : Nat} {v u : Int} (a : Exl F q n v) (b : Exl F q n u) : v = u := by
  rcases a with ⟨rfl, a⟩ | ⟨h, rfl, -, ⟨c, c1, c2, c3⟩, a⟩
  · rcases b with ⟨rfl, b⟩ | ⟨h, rfl, -, ⟨c, c1, c2, c3⟩, b⟩
    · rfl
    · rw [a c c1] at c2; cases c2
  · rcases b with ⟨rfl, b⟩ | ⟨h2, rfl, -, ⟨d, d1, d2, d3⟩, b⟩
    · rw [b c c1] at c2; cases c2
    · have := a d d1 d2
      have := b c c1 c2
      omega
theorem Exl_rng {F : Nat → Bool} {q n : Nat} {v : Int} (a : Exl F q n v) : -1 ≤ v ∧ v ≤ 9 := by
  rcases a with ⟨rfl, a⟩ | ⟨h, rfl, hh, -⟩ <;> omega
theorem Exl_f {F : Nat → Bool} {q n : Nat} {v : Int} (a : Exl F q n v) (hF : F n = false) : Exl F q (n + 1) v := by
  have st : ∀ c, c < n + 1 → F c = true → c < n := fun c hc h => by
    by_cases e : c = n
    · subst e; rw [hF] at h; cases h
    · omega
  rcases a with ⟨rfl, a⟩ | ⟨h, rfl, hh, ⟨c, c1, c2, c3⟩, a⟩
  · refine Or.inl ⟨rfl, fun c hc => ?_⟩
    by_cases e : c = n
    · subst e; exact hF
    · exact a c (by omega)
  · exact Or.inr ⟨h, rfl, hh, ⟨c, by omega, c2, c3⟩, fun c hc hf => a c (st c hc hf) hf⟩
theorem Exl_t {F : Nat → Bool} {q n : Nat} {v : Int} (a : Exl F q n v) (hF : F n = true) : Exl F q (n + 1) (if v = -1 then (hrs n q : Int) else if v ≤ (hrs n q : Int) then v else (hrs n q : Int)) := by
  have hl := hrs_le (c := n) (q := q)
  rcases a with ⟨rfl, a⟩ | ⟨h, rfl, hh, ⟨c, c1, c2, c3⟩, a⟩
  · rw [if_pos rfl]
    refine Or.inr ⟨hrs n q, rfl, hl, ⟨n, by omega, hF, rfl⟩, fun c hc hf => ?_⟩
    by_cases e : c = n
    · subst e; omega
    · rw [a c (by omega)] at hf; cases hf
  · rw [if_neg (by omega)]
    by_cases g : (h : Int) ≤ (hrs n q : Int)
    · rw [if_pos g]
      refine Or.inr ⟨h, rfl, hh, ⟨c, by omega, c2, c3⟩, fun c hc hf => ?_⟩
      by_cases e : c = n
      · subst e; omega
      · exact a c (by omega) hf
    · rw [if_neg g]
      refine Or.inr ⟨hrs n q, rfl, hl, ⟨n, by omega, hF, rfl⟩, fun c hc hf => ?_⟩
      by_cases e : c = n
      · subst e; omega
      · have := a c (by omega) hf
        omega
def Exh (F : Nat → Bool) (q n : Nat) (v : Int) : Prop := (v = -1 ∧ ∀ c, c < n → F c = false) ∨ ∃ h : Nat, v = h ∧ h ≤ 9 ∧ (∃ c, c < n ∧ F c = true ∧ hrs c q = h) ∧ ∀ c, c < n → F c = true → hrs c q ≤ h
theorem Exh_one {F : Nat → Bool} {q n : Nat} {v u : Int} (a : Exh F q n v) (b : Exh F q n u) : v = u := by
  rcases a with ⟨rfl, a⟩ | ⟨h, rfl, -, ⟨c, c1, c2, c3⟩, a⟩
  · rcases b with ⟨rfl, b⟩ | ⟨h, rfl, -, ⟨c, c1, c2, c3⟩, b⟩
    · rfl
    · rw [a c c1] at c2; cases c2
  · rcases b with ⟨rfl, b⟩ | ⟨h2, rfl, -, ⟨d, d1, d2, d3⟩, b⟩
    · rw [b c c1] at c2; cases c2
    · have := a d d1 d2
      have := b c c1 c2
      omega
theorem Exh_rng {F : Nat → Bool} {q n : Nat} {v : Int} (a : Exh F q n v) : -1 ≤ v ∧ v ≤ 9 := by
  rcases a with ⟨rfl, a⟩ | ⟨h, rfl, hh, -⟩ <;> omega
theorem Exh_f {F : Nat → Bool} {q n : Nat} {v : Int} (a : Exh F q n v) (hF : F n = false) : Exh F q (n + 1) v := by
  have st : ∀ c, c < n + 1 → F c = true → c < n := fun c hc h => by
    by_cases e : c = n
    · subst e; rw [hF] at h; cases h
    · omega
  rcases a with ⟨rfl, a⟩ | ⟨h, rfl, hh, ⟨c, c1, c2, c3⟩, a⟩
  · refine Or.inl ⟨rfl, fun c hc => ?_⟩
    by_cases e : c = n
    · subst e; exact hF
    · exact a c (by omega)
  · exact Or.inr ⟨h, rfl, hh, ⟨c, by omega, c2, c3⟩, fun c hc hf => a c (st c hc hf) hf⟩
theorem Exh_t {F : Nat → Bool} {q n : Nat} {v : Int} (a : Exh F q n v) (hF : F n = true) : Exh F q (n + 1) (if v = -1 then (hrs n q : Int) else if (hrs n q : Int) ≤ v then v else (hrs n q : Int)) := by
  have hl := hrs_le (c := n) (q := q)
  rcases a with ⟨rfl, a⟩ | ⟨h, rfl, hh, ⟨c, c1, c2, c3⟩, a⟩
  · rw [if_pos rfl]
    refine Or.inr ⟨hrs n q, rfl, hl, ⟨n, by omega, hF, rfl⟩, fun c hc hf => ?_⟩
    by_cases e : c = n
    · subst e; omega
    · rw [a c (by omega)] at hf; cases hf
  · rw [if_neg (by omega)]
    by_cases g : (hrs n q : Int) ≤ (h : Int)
    · rw [if_pos g]
      refine Or.inr ⟨h, rfl, hh, ⟨c, by omega, c2, c3⟩, fun c hc hf => ?_⟩
      by_cases e : c = n
      · subst e; omega
      · exact a c (by omega) hf
    · rw [if_neg g]
      refine Or.inr ⟨hrs n q, rfl, hl, ⟨n, by omega, hF, rfl⟩, fun c hc hf => ?_⟩
      by_cases e : c = n
      · subst e; omega
      · have := a c (by omega) hf
        omega
section LG
variable {I : tq_PI} {M : tq_PL} {F : Nat → Bool} {q : Nat}
theorem tm_pos {J : tq_PI} {h : Nat} (hJ : J 51 h = zI ((fb_ct (fun c => F c && decide (hrs c q = h)) n432 : Nat) : Int)) : (J 51 h ≤ zI 0) = (∀ c, c < n432 → F c = true → hrs c q ≠ h) := by
  have hl := fb_ct_le (fun c => F c && decide (hrs c q = h)) n432
  have nn := n432_e
  generalize n432 = N at *
  rw [hJ, zI_le (by omega) (by omega)]
  apply propext
  constructor
  · intro e c hc hF hh
    have z := fb_ct_zero.1 (by omega : fb_ct (fun c => F c && decide (hrs c q = h)) N = 0) c hc
    simp [hF, hh] at z
  · intro e
    rw [fb_ct_zero.2 fun c hc => ?_]
    · exact Int.le_refl _
    · cases hF : F c with
      | false => rfl
      | true => rw [decide_eq_false (e c hc hF)]; rfl
theorem c_faint (G : GA M F) (hq : q < 48) : ∃ v J, FX2_faintestAt I M 49 (zI (q : Int)) = some (zI v, J) ∧ FC 51 I J ∧ Exl F q n432 v := by
  obtain ⟨J, e, FJ, T⟩ := c_listen (I := I) G hq
  obtain ⟨b, eb, v, hb, hv⟩ := it_for (f := fun p : Int32 => FX2_faintestAt_s7 J M 49 p) (fun k (_ : Unit) => zI (k : Int)) 10 (fun k _ => ∀ c, c < n432 → F c = true → k ≤ hrs c q) (Post := fun b => ∃ v, b.elim (fun _ => some ((-1 : Int32), J)) (fun t => some t) = some (zI v, J) ∧ Exl F q n432 v) (fun k _ hk h => by
    unfold FX2_faintestAt_s7
    simp (disch := omega) only [zlet, obind, zI_lit, zI_neg, zI_add, zI_sub, zI_mul, zI_div, zI_le, zI_lt, zI_eq, zI_cl, irem, ile_t, ile_f, ilt_t, ilt_f, ieq_t, ieq_f, and_true, true_and, and_false, false_and, and_self, not_true_eq_false, not_false_eq_true, ↓reduceIte, Int.toNat_natCast, tqb_z, tqb_t, tqb_f, rg_49_1, tm_pos (T k hk)]
    by_cases g : ∀ c, c < n432 → F c = true → hrs c q ≠ k
    · rw [if_pos g]
      refine Or.inl ⟨(), rfl, fun c hc hF => ?_⟩
      have := g c hc hF
      have := h c hc hF
      omega
    · rw [if_neg g]
      refine Or.inr ⟨_, rfl, (k : Int), rfl, Or.inr ⟨k, rfl, by omega, ?_, h⟩⟩
      exact Classical.byContradiction fun n => g fun c hc hF e => n ⟨c, hc, hF, e⟩) (fun _ h => by
    unfold FX2_faintestAt_s7
    simp (disch := omega) only [zlet, obind, zI_lit, zI_neg, zI_add, zI_sub, zI_mul, zI_div, zI_le, zI_lt, zI_eq, zI_cl, irem, ile_t, ile_f, ilt_t, ilt_f, ieq_t, ieq_f, and_true, true_and, and_false, false_and, and_self, not_true_eq_false, not_false_eq_true, ↓reduceIte, Int.toNat_natCast, tqb_z, tqb_t, tqb_f]
    refine ⟨_, rfl, -1, rfl, Or.inl ⟨rfl, fun c hc => ?_⟩⟩
    cases hF : F c with
    | false => rfl
    | true => have := h c hc hF; have := hrs_le (c := c) (q := q); omega) 0 () (by omega) (by omega) (fun c _ _ => by omega)
  refine ⟨v, J, ?_, FJ, hv⟩
  unfold FX2_faintestAt
  rw [e, obind]
  refine (congrArg (fun o => Option.bind o _) eb).trans ?_
  rw [obind]
  exact hb
theorem c_loud (G : GA M F) (hq : q < 48) : ∃ v J, FX2_loudestAt I M 49 (zI (q : Int)) = some (zI v, J) ∧ FC 51 I J ∧ Exh F q n432 v := by
  obtain ⟨J, e, FJ, T⟩ := c_listen (I := I) G hq
  obtain ⟨b, eb, v, hb, hv⟩ := it_for (f := fun p : Int32 => FX2_loudestAt_s13 J M 49 p) (fun k (_ : Unit) => zI (9 - (k : Int))) 10 (fun k _ => ∀ c, c < n432 → F c = true → hrs c q + k ≤ 9) (Post := fun b => ∃ v, b.elim (fun _ => some ((-1 : Int32), J)) (fun t => some t) = some (zI v, J) ∧ Exh F q n432 v) (fun k _ hk h => by
    unfold FX2_loudestAt_s13
    have ek : (9 - (k : Int)).toNat = 9 - k := by omega
    simp (disch := omega) only [zlet, obind, zI_lit, zI_neg, zI_add, zI_sub, zI_mul, zI_div, zI_le, zI_lt, zI_eq, zI_cl, irem, ile_t, ile_f, ilt_t, ilt_f, ieq_t, ieq_f, and_true, true_and, and_false, false_and, and_self, not_true_eq_false, not_false_eq_true, ↓reduceIte, Int.toNat_natCast, tqb_z, tqb_t, tqb_f, rg_49_1, ek, tm_pos (T (9 - k) (by omega))]
    by_cases g : ∀ c, c < n432 → F c = true → hrs c q ≠ 9 - k
    · rw [if_pos g]
      refine Or.inl ⟨(), by congr 3; omega, fun c hc hF => ?_⟩
      have := g c hc hF
      have := h c hc hF
      omega
    · rw [if_neg g]
      refine Or.inr ⟨_, rfl, 9 - (k : Int), rfl, Or.inr ⟨9 - k, by omega, by omega, ?_, fun c hc hF => by have := h c hc hF; omega⟩⟩
      exact Classical.byContradiction fun n => g fun c hc hF e => n ⟨c, hc, hF, e⟩) (fun _ h => by
    unfold FX2_loudestAt_s13
    simp (disch := omega) only [zlet, obind, zI_lit, zI_neg, zI_add, zI_sub, zI_mul, zI_div, zI_le, zI_lt, zI_eq, zI_cl, irem, ile_t, ile_f, ilt_t, ilt_f, ieq_t, ieq_f, and_true, true_and, and_false, false_and, and_self, not_true_eq_false, not_false_eq_true, ↓reduceIte, Int.toNat_natCast, tqb_z, tqb_t, tqb_f]
    refine ⟨_, rfl, -1, rfl, Or.inl ⟨rfl, fun c hc => ?_⟩⟩
    cases hF : F c with
    | false => rfl
    | true => have := h c hc hF; omega) 0 () (by omega) (by omega) (fun c _ _ => by have := hrs_le (c := c) (q := q); omega)
  refine ⟨v, J, ?_, FJ, hv⟩
  have eb' : tq_it (fun p : Int32 => FX2_loudestAt_s13 J M 49 p) tq_N ((10 : Int32) - (1 : Int32)) = some b := eb
  unfold FX2_loudestAt
  rw [e, obind, eb', obind]
  exact hb
end LG
theorem r_range {I J : tq_PI} {M : tq_PL} {y o m : Nat} {lc lh : Nat → Nat} (D : LD I y (J 137) o m lc lh) (h33 : J 136 33 = zI (o : Int)) (ho : o + 17 ≤ 4016) {k : Nat} (hk : k < 48) {a : Int} (ha : -2147483648 ≤ a ∧ a < 2147483648) : ∃ v, tq_it (fun p : Int32 × Int32 => FX12_range_s26 J M 136 (zI (k : Int)) (zI a) p.1 p.2) tq_N ((-1 : Int32), (0 : Int32)) = some (zI v) ∧ (a = 0 → Exl (fit m lc lh) k n432 v) ∧ (a ≠ 0 → Exh (fit m lc lh) k n432 v) := by
  have nn := n432_e
  generalize n432 = N at *
  obtain ⟨b, e, v, rfl, h⟩ := it_for (f := fun p : Int32 × Int32 => FX12_range_s26 J M 136 (zI (k : Int)) (zI a) p.1 p.2) (fun c (s : Int) => (zI s, zI (c : Int))) N (fun c v => (-1 ≤ v ∧ v ≤ 9) ∧ (a = 0 → Exl (fit m lc lh) k c v) ∧ (a ≠ 0 → Exh (fit m lc lh) k c v)) (Post := fun b => ∃ v, b = zI v ∧ (a = 0 → Exl (fit m lc lh) k N v) ∧ (a ≠ 0 → Exh (fit m lc lh) k N v)) (fun c v hc hv => by
    obtain ⟨h0, h1, h2⟩ := hv
    have so := r_isSo (M := M) D h33 (by omega) (c := c) (by omega)
    have hr := r_hears J M (c := c) (q := k) (by omega) hk
    have hl := hrs_le (c := c) (q := k)
    unfold FX12_range_s26 FX12_range_j90L26 FX12_range_j81L26 FX12_range_j86L26 FX12_range_j88L26 FX12_range_j90L26
    simp only [so, hr, obind]
    simp (disch := omega) only [zlet, obind, zI_lit, zI_neg, zI_add, zI_sub, zI_mul, zI_div, zI_le, zI_lt, zI_eq, zI_cl, irem, ile_t, ile_f, ilt_t, ilt_f, ieq_t, ieq_f, and_true, true_and, and_false, false_and, and_self, not_true_eq_false, not_false_eq_true, ↓reduceIte, Int.toNat_natCast, tqb_z, tqb_t, tqb_f]
    cases hf : fit m lc lh c with
    | false =>
      simp only [if_true]
      exact Or.inl ⟨v, rfl, h0, fun q => Exl_f (h1 q) hf, fun q => Exh_f (h2 q) hf⟩
    | true =>
      simp only [Bool.true_eq_false, if_false]
      by_cases qa : a = 0
      · have := Exl_t (h1 qa) hf
        rw [if_pos qa]
        by_cases qv : v = -1
        · rw [if_pos qv] at this ⊢
          exact Or.inl ⟨(hrs c k : Nat), rfl, by omega, fun _ => this, fun n => absurd qa n⟩
        · rw [if_neg qv] at this ⊢
          by_cases qg : v ≤ (hrs c k : Nat)
          · rw [if_pos qg] at this ⊢
            exact Or.inl ⟨v, rfl, by omega, fun _ => this, fun n => absurd qa n⟩
          · rw [if_neg qg] at this ⊢
            exact Or.inl ⟨(hrs c k : Nat), rfl, by omega, fun _ => this, fun n => absurd qa n⟩
      · have := Exh_t (h2 qa) hf
        rw [if_neg qa]
        by_cases qv : v = -1
        · rw [if_pos qv] at this ⊢
          exact Or.inl ⟨(hrs c k : Nat), rfl, by omega, fun n => absurd n qa, fun _ => this⟩
        · rw [if_neg qv] at this ⊢
          by_cases qg : ((hrs c k : Nat) : Int) ≤ v
          · rw [if_pos qg] at this ⊢
            exact Or.inl ⟨v, rfl, by omega, fun n => absurd n qa, fun _ => this⟩
          · rw [if_neg qg] at this ⊢
            exact Or.inl ⟨(hrs c k : Nat), rfl, by omega, fun n => absurd n qa, fun _ => this⟩) (fun v hv => by
    refine ⟨zI v, ?_, v, rfl, hv.2⟩
    unfold FX12_range_s26
    simp (disch := omega) only [zlet, obind, zI_lit, zI_neg, zI_add, zI_sub, zI_mul, zI_div, zI_le, zI_lt, zI_eq, zI_cl, irem, ile_t, ile_f, ilt_t, ilt_f, ieq_t, ieq_f, and_true, true_and, and_false, false_and, and_self, not_true_eq_false, not_false_eq_true, ↓reduceIte, Int.toNat_natCast, tqb_z, tqb_t, tqb_f]) 0 (-1) (by omega) (by omega) ⟨by omega, fun _ => Or.inl ⟨rfl, fun c hc => by omega⟩, fun _ => Or.inl ⟨rfl, fun c hc => by omega⟩⟩
  exact ⟨v, e, h⟩
theorem r_rangeq {J J1 : tq_PI} {M : tq_PL} {x0 t : Int32} (eL : FX12_isLog J M 136 x0 = some (true, J1)) {k : Nat} (hk : k < 48) {v : Int32} (e : tq_it (fun p : Int32 × Int32 => FX12_range_s26 J1 M 136 (zI (k : Int)) t p.1 p.2) tq_N ((-1 : Int32), (0 : Int32)) = some v) : FX12_range J M 136 x0 (zI (k : Int)) t = some (v, J1) := by
  have n1 : FX12_isIn J1 M (zI (k : Int)) 0 47 = true := by
    simp (disch := omega) only [zlet, obind, zI_lit, zI_neg, zI_add, zI_sub, zI_mul, zI_div, zI_le, zI_lt, zI_eq, zI_cl, irem, ile_t, ile_f, ilt_t, ilt_f, ieq_t, ieq_f, and_true, true_and, and_false, false_and, and_self, not_true_eq_false, not_false_eq_true, ↓reduceIte, Int.toNat_natCast, tqb_z, tqb_t, tqb_f, r_isIn, decide_eq_false_iff_not, decide_eq_true_eq, oel_s, oel_n, Bool.false_eq_true, btf, eq_self, or_self, or_false, false_or, or_true, true_or, iand_f, iandl_f, ior_t, ior_f]
  unfold FX12_range
  rw [eL, obind]
  dsimp only
  rw [if_neg tb1, zlet, n1, if_neg tb1, e, obind]
theorem q_range {I : tq_PI} {L : tq_PL} (Y : LV I 1 0) (y u t : Int32) : ∃ v I2 L2, FX11_range I L 0 y u t = some (v, I2, L2) ∧ FP I I2 ∧ FP L L2 ∧ ∀ J M, J 137 = I 137 → ∃ J2, FX12_range J M 136 y u t = some (v, J2) ∧ FP J J2 := by
  rcases log_case Y y with q | ⟨j, n, lc, lh, hj, rfl, ey, D, ry⟩
  · refine ⟨-1, I, L, by unfold FX11_range FX11_range_j25; rw [rg_0_0, (q L).1, obind]; rfl, FP.rf, FP.rf, fun J M hJ => ⟨J, by unfold FX12_range FX12_range_j18; rw [(q L).2 J M hJ, obind]; rfl, FP.rf⟩⟩
  · obtain ⟨z, hz, rfl⟩ := zI_of u
    obtain ⟨a, ha, rfl⟩ := zI_of t
    have P : ∀ J : tq_PI, FP J (tq_up2 J 136 33 (zI ((952 + 17 * j : Nat) : Int))) := fun J => (FC.up (b := 136)).fp (by unfold psl; omega)
    by_cases q2 : 0 ≤ z ∧ z < 48
    · obtain ⟨k, rfl⟩ : ∃ k : Nat, z = k := ⟨z.toNat, by omega⟩
      obtain ⟨M1, eM, FM, G⟩ := c_gather L hj D
      have ref : ∀ v : Int, (a = 0 → Exl (fit n lc lh) k n432 v) → (a ≠ 0 → Exh (fit n lc lh) k n432 v) → ∀ J M, J 137 = I 137 → ∃ J2, FX12_range J M 136 (zI (j : Int)) (zI (k : Int)) (zI a) = some (zI v, J2) ∧ FP J J2 := fun v h1 h2 J M hJ => by
        have D' : LD I (13 + 10 * j) ((tq_up2 J 136 33 (zI ((952 + 17 * j : Nat) : Int))) 137) (952 + 17 * j) n lc lh := by
          have : (tq_up2 J 136 33 (zI ((952 + 17 * j : Nat) : Int))) 137 = I 137 := by rw [P J 137 (by unfold psl; omega), hJ]
          rw [this]; exact D
        obtain ⟨v2, e, g1, g2⟩ := r_range (M := M) D' (up_s _ _ _ _) (by omega) (k := k) (by omega) ha
        have : v2 = v := by
          by_cases qa : a = 0
          · exact Exl_one (g1 qa) (h1 qa)
          · exact Exh_one (g2 qa) (h2 qa)
        subst this
        exact ⟨_, r_rangeq (ry J M hJ) (by omega) e, P J⟩
      by_cases qa : a = 0
      · obtain ⟨v, J1, e1, F1, x1⟩ := c_faint (I := I) G (q := k) (by omega)
        refine ⟨zI v, J1, M1, ?_, F1.fp (by unfold psl; omega), FM.fp (by unfold psl; omega), ref v (fun _ => x1) (fun n => absurd qa n)⟩
        unfold FX11_range
        simp only [rg_0_0, rg_0_7, ey L, obind, oel_s, eM, e1]
        simp (disch := omega) only [zlet, obind, zI_lit, zI_neg, zI_add, zI_sub, zI_mul, zI_div, zI_le, zI_lt, zI_eq, zI_cl, irem, ile_t, ile_f, ilt_t, ilt_f, ieq_t, ieq_f, and_true, true_and, and_false, false_and, and_self, not_true_eq_false, not_false_eq_true, ↓reduceIte, Int.toNat_natCast, tqb_z, tqb_t, tqb_f, r_isIn, decide_eq_false_iff_not, decide_eq_true_eq, oel_s, oel_n, Bool.false_eq_true, btf, eq_self, or_self, or_false, false_or, or_true, true_or, iand_f, iandl_f, ior_t, ior_f]
      · obtain ⟨v, J1, e1, F1, x1⟩ := c_loud (I := I) G (q := k) (by omega)
        refine ⟨zI v, J1, M1, ?_, F1.fp (by unfold psl; omega), FM.fp (by unfold psl; omega), ref v (fun n => absurd n qa) (fun _ => x1)⟩
        unfold FX11_range
        simp only [rg_0_0, rg_0_7, ey L, obind, oel_s, eM, e1]
        simp (disch := omega) only [zlet, obind, zI_lit, zI_neg, zI_add, zI_sub, zI_mul, zI_div, zI_le, zI_lt, zI_eq, zI_cl, irem, ile_t, ile_f, ilt_t, ilt_f, ieq_t, ieq_f, and_true, true_and, and_false, false_and, and_self, not_true_eq_false, not_false_eq_true, ↓reduceIte, Int.toNat_natCast, tqb_z, tqb_t, tqb_f, r_isIn, decide_eq_false_iff_not, decide_eq_true_eq, oel_s, oel_n, Bool.false_eq_true, btf, eq_self, or_self, or_false, false_or, or_true, true_or, iand_f, iandl_f, ior_t, ior_f]
    · refine ⟨-1, I, L, ?_, FP.rf, FP.rf, fun J M hJ => ⟨_, ?_, P J⟩⟩
      · unfold FX11_range FX11_range_j25
        simp only [rg_0_0, ey L, obind, oel_s]
        by_cases q3 : z < 0
        · simp (disch := omega) only [zlet, obind, zI_lit, zI_neg, zI_add, zI_sub, zI_mul, zI_div, zI_le, zI_lt, zI_eq, zI_cl, irem, ile_t, ile_f, ilt_t, ilt_f, ieq_t, ieq_f, and_true, true_and, and_false, false_and, and_self, not_true_eq_false, not_false_eq_true, ↓reduceIte, Int.toNat_natCast, tqb_z, tqb_t, tqb_f, r_isIn, decide_eq_false_iff_not, decide_eq_true_eq, oel_s, oel_n, Bool.false_eq_true, btf, eq_self, or_self, or_false, false_or, or_true, true_or, iand_f, iandl_f, ior_t, ior_f]
        · simp (disch := omega) only [zlet, obind, zI_lit, zI_neg, zI_add, zI_sub, zI_mul, zI_div, zI_le, zI_lt, zI_eq, zI_cl, irem, ile_t, ile_f, ilt_t, ilt_f, ieq_t, ieq_f, and_true, true_and, and_false, false_and, and_self, not_true_eq_false, not_false_eq_true, ↓reduceIte, Int.toNat_natCast, tqb_z, tqb_t, tqb_f, r_isIn, decide_eq_false_iff_not, decide_eq_true_eq, oel_s, oel_n, Bool.false_eq_true, btf, eq_self, or_self, or_false, false_or, or_true, true_or, iand_f, iandl_f, ior_t, ior_f]
      · unfold FX12_range FX12_range_j18
        by_cases q5 : z < 0
        · simp (disch := omega) only [ry J M hJ, zlet, obind, zI_lit, zI_neg, zI_add, zI_sub, zI_mul, zI_div, zI_le, zI_lt, zI_eq, zI_cl, irem, ile_t, ile_f, ilt_t, ilt_f, ieq_t, ieq_f, and_true, true_and, and_false, false_and, and_self, not_true_eq_false, not_false_eq_true, ↓reduceIte, Int.toNat_natCast, tqb_z, tqb_t, tqb_f, r_isIn, decide_eq_false_iff_not, decide_eq_true_eq, oel_s, oel_n, Bool.false_eq_true, btf, eq_self, or_self, or_false, false_or, or_true, true_or, iand_f, iandl_f, ior_t, ior_f]
        · simp (disch := omega) only [ry J M hJ, zlet, obind, zI_lit, zI_neg, zI_add, zI_sub, zI_mul, zI_div, zI_le, zI_lt, zI_eq, zI_cl, irem, ile_t, ile_f, ilt_t, ilt_f, ieq_t, ieq_f, and_true, true_and, and_false, false_and, and_self, not_true_eq_false, not_false_eq_true, ↓reduceIte, Int.toNat_natCast, tqb_z, tqb_t, tqb_f, r_isIn, decide_eq_false_iff_not, decide_eq_true_eq, oel_s, oel_n, Bool.false_eq_true, btf, eq_self, or_self, or_false, false_or, or_true, true_or, iand_f, iandl_f, ior_t, ior_f]
