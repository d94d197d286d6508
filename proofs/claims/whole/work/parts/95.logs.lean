/-! LOGS: which cell is best asked. -/
def mxo (T : Nat → Nat) : Nat → Nat
  | 0 => 0
  | n + 1 => if mxo T n < T n then T n else mxo T n
theorem mxo_s (T : Nat → Nat) (n : Nat) : mxo T (n + 1) = if mxo T n < T n then T n else mxo T n := rfl
theorem mxo_le {T : Nat → Nat} {b : Nat} (h : ∀ k, T k ≤ b) : ∀ n, mxo T n ≤ b
  | 0 => Nat.zero_le _
  | n + 1 => by
    have := mxo_le h n
    have := h n
    rw [mxo_s]
    split <;> omega
theorem mxo_ge {T : Nat → Nat} {k : Nat} : ∀ {n}, k < n → T k ≤ mxo T n
  | 0, h => absurd h (Nat.not_lt_zero _)
  | n + 1, h => by
    rw [mxo_s]
    by_cases e : k = n
    · subst e
      split <;> omega
    · have := mxo_ge (T := T) (k := k) (n := n) (by omega)
      split <;> omega
/-- how many that fit are heard so at the cell -/
noncomputable def lct (F : Nat → Bool) (q h : Nat) : Nat := fb_ct (fun c => F c && decide (hrs c q = h)) n432
noncomputable def lmx (F : Nat → Bool) (q : Nat) : Nat := mxo (lct F q) 10
theorem lct_le (F : Nat → Bool) (q h : Nat) : lct F q h ≤ fb_ct F n432 := fb_ct_sub fun c _ hc => by
  rw [Bool.and_eq_true] at hc
  exact hc.1
theorem lmx_le (F : Nat → Bool) (q : Nat) : lmx F q ≤ fb_ct F n432 := mxo_le (lct_le F q) 10
theorem lmx_pos {F : Nat → Bool} (q : Nat) (h : 0 < fb_ct F n432) : 1 ≤ lmx F q := by
  obtain ⟨c, hc, hF⟩ := fb_ct_pos.1 h
  have hl := hrs_le (c := c) (q := q)
  have := mxo_ge (T := lct F q) (k := hrs c q) (n := 10) (by omega)
  have : 0 < lct F q (hrs c q) := fb_ct_pos.2 ⟨c, hc, by simp [hF]⟩
  unfold lmx
  omega
theorem c_most {I : tq_PI} {M : tq_PL} {F : Nat → Bool} (G : GA M F) {q : Nat} (hq : q < 48) : ∃ J, FX2_mostAlike I M 49 (zI (q : Int)) = some (zI ((lmx F q : Nat) : Int), J) ∧ FC 51 I J := by
  obtain ⟨J, e, FJ, T⟩ := c_listen (I := I) G hq
  have nn := n432_e
  have hl := fun h => Nat.le_trans (lct_le F q h) (fb_ct_le F n432)
  have T' : ∀ h, h < 10 → J 51 h = zI ((lct F q h : Nat) : Int) := T
  obtain ⟨b, eb, hb⟩ := it_for (f := fun p : Int32 × Int32 => FX2_mostAlike_s9 J M 49 p.1 p.2) (fun k (_ : Unit) => (zI ((mxo (lct F q) k : Nat) : Int), zI (k : Int))) 10 (fun _ _ => True) (Post := fun b => b = zI ((mxo (lct F q) 10 : Nat) : Int)) (fun k _ hk _ => by
    refine Or.inl ⟨(), ?_, trivial⟩
    have := mxo_le hl k
    have := hl k
    unfold FX2_mostAlike_s9
    simp (disch := omega) only [zlet, obind, zI_lit, zI_neg, zI_add, zI_sub, zI_mul, zI_div, zI_le, zI_lt, zI_eq, zI_cl, irem, ile_t, ile_f, ilt_t, ilt_f, ieq_t, ieq_f, and_true, true_and, and_false, false_and, and_self, not_true_eq_false, not_false_eq_true, ↓reduceIte, Int.toNat_natCast, tqb_z, tqb_t, tqb_f, rg_49_1, T' k hk]
    rw [mxo_s]
    by_cases q1 : mxo (lct F q) k < lct F q k
    · rw [if_pos q1, if_pos (by omega)]; rfl
    · rw [if_neg q1, if_neg (by omega)]; rfl) (fun _ _ => ⟨_, by
    unfold FX2_mostAlike_s9
    simp (disch := omega) only [zlet, obind, zI_lit, zI_neg, zI_add, zI_sub, zI_mul, zI_div, zI_le, zI_lt, zI_eq, zI_cl, irem, ile_t, ile_f, ilt_t, ilt_f, ieq_t, ieq_f, and_true, true_and, and_false, false_and, and_self, not_true_eq_false, not_false_eq_true, ↓reduceIte, Int.toNat_natCast, tqb_z, tqb_t, tqb_f], rfl⟩) 0 () (by omega) (by omega) trivial
  subst hb
  refine ⟨J, ?_, FJ⟩
  have eb' : tq_it (fun p : Int32 × Int32 => FX2_mostAlike_s9 J M 49 p.1 p.2) tq_N ((0 : Int32), (0 : Int32)) = some (zI ((mxo (lct F q) 10 : Nat) : Int)) := eb
  unfold FX2_mostAlike
  rw [e, obind, eb', obind]
  rfl
theorem rg_136_34 : tq_rg 136 34 = 151 := by decide +kernel
section GR
variable {I J : tq_PI} {M : tq_PL} {y o m : Nat} {lc lh : Nat → Nat}
theorem r_greatest (D : LD I y (J 137) o m lc lh) (h33 : J 136 33 = zI (o : Int)) (ho : o + 17 ≤ 4016) {q : Nat} (hq : q < 48) : ∃ K, FX12_greatestOf J M 136 (zI (q : Int)) = some (zI ((lmx (fit m lc lh) q : Nat) : Int), K) ∧ FC 151 J K := by
  have nn := n432_e
  have hl := fun h => Nat.le_trans (lct_le (fit m lc lh) q h) (fb_ct_le (fit m lc lh) n432)
  obtain ⟨J0, e0, F0, Z0⟩ := it_for (f := fun p : Int32 × tq_PI => FX12_greatestOf_s2 p.2 M 136 (zI (q : Int)) p.1) (fun k (s : tq_PI) => (zI (k : Int), s)) 10 (fun k K => FC 151 J K ∧ ∀ h, h < k → K 151 h = zI 0) (Post := fun K => FC 151 J K ∧ ∀ h, h < 10 → K 151 h = zI 0) (fun k K hk hK => by
    refine Or.inl ⟨tq_up2 K 151 k (zI 0), ?_, hK.1.tr FC.up, fun h hh => ?_⟩
    · unfold FX12_greatestOf_s2
      simp (disch := omega) only [zlet, obind, zI_lit, zI_neg, zI_add, zI_sub, zI_mul, zI_div, zI_le, zI_lt, zI_eq, zI_cl, irem, ile_t, ile_f, ilt_t, ilt_f, ieq_t, ieq_f, and_true, true_and, and_false, false_and, and_self, not_true_eq_false, not_false_eq_true, ↓reduceIte, Int.toNat_natCast, tqb_z, tqb_t, tqb_f, rg_136_34]
      rfl
    · by_cases e : h = k
      · subst e; rw [up_s]
      · rw [up_n _ _ (by omega)]; exact hK.2 h (by omega)) (fun K hK => ⟨K, by
    unfold FX12_greatestOf_s2
    simp (disch := omega) only [zlet, obind, zI_lit, zI_neg, zI_add, zI_sub, zI_mul, zI_div, zI_le, zI_lt, zI_eq, zI_cl, irem, ile_t, ile_f, ilt_t, ilt_f, ieq_t, ieq_f, and_true, true_and, and_false, false_and, and_self, not_true_eq_false, not_false_eq_true, ↓reduceIte, Int.toNat_natCast, tqb_z, tqb_t, tqb_f], hK⟩) 0 J (by omega) (by omega) ⟨FC.rf, fun h hh => by omega⟩
  obtain ⟨K, e, FK, T⟩ := it_for (f := fun p : Int32 × tq_PI => FX12_greatestOf_s23 p.2 M 136 (zI (q : Int)) p.1) (fun k (s : tq_PI) => (zI (k : Int), s)) n432 (fun c K => FC 151 J K ∧ ∀ h, h < 10 → K 151 h = zI ((fb_ct (fun c => fit m lc lh c && decide (hrs c q = h)) c : Nat) : Int)) (Post := fun K => FC 151 J K ∧ ∀ h, h < 10 → K 151 h = zI ((lct (fit m lc lh) q h : Nat) : Int)) (fun c K hc hK => by
    obtain ⟨f, t⟩ := hK
    have D' : LD I y (K 137) o m lc lh := by rw [f 137 (by omega)]; exact D
    have h33' : K 136 33 = zI (o : Int) := by rw [f 136 (by omega)]; exact h33
    have so := r_isSo (M := M) D' h33' (by omega) (c := c) (by omega)
    have hr := r_hears K M (c := c) (q := q) (by omega) hq
    have hhl := hrs_le (c := c) (q := q)
    have c1 : ¬ (432 : Int32) ≤ zI (c : Int) := by
      rw [show (432 : Int32) = zI 432 from rfl, zI_le (by omega) (by omega)]
      omega
    refine Or.inl ⟨tq_up2 K 151 (hrs c q) (K 151 (hrs c q) + zI ((if fit m lc lh c = true then 1 else 0 : Nat) : Int)), ?_, f.tr FC.up, fun h hh => ?_⟩
    · unfold FX12_greatestOf_s23 FX12_greatestOf_j54L23
      rw [if_neg c1, hr, obind, so, obind]
      simp (disch := omega) only [zlet, obind, zI_lit, zI_neg, zI_add, zI_sub, zI_mul, zI_div, zI_le, zI_lt, zI_eq, zI_cl, irem, ile_t, ile_f, ilt_t, ilt_f, ieq_t, ieq_f, and_true, true_and, and_false, false_and, and_self, not_true_eq_false, not_false_eq_true, ↓reduceIte, Int.toNat_natCast, tqb_z, tqb_t, tqb_f, rg_136_34]
      cases fit m lc lh c <;> rfl
    · rw [fb_ct_succ]
      by_cases e : h = hrs c q
      · subst e
        rw [up_s, t _ hh, zI_add, decide_eq_true rfl, Bool.and_true]
        rfl
      · rw [up_n _ _ (by omega), t h hh, decide_eq_false (by omega), Bool.and_false]
        rfl) (fun K hK => ⟨K, by
    unfold FX12_greatestOf_s23
    rw [if_pos]
    dsimp only
    rw [show (432 : Int32) = zI 432 from rfl, zI_le (by omega) (by omega)]
    omega, hK⟩) 0 J0 (by omega) (by omega) ⟨F0, fun h hh => Z0 h hh⟩
  obtain ⟨b, eb, hb⟩ := it_for (f := fun p : Int32 × Int32 => FX12_greatestOf_s66 K M 136 p.1 p.2) (fun k (_ : Unit) => (zI ((mxo (lct (fit m lc lh) q) k : Nat) : Int), zI (k : Int))) 10 (fun _ _ => True) (Post := fun b => b = zI ((mxo (lct (fit m lc lh) q) 10 : Nat) : Int)) (fun k _ hk _ => by
    refine Or.inl ⟨(), ?_, trivial⟩
    have := mxo_le hl k
    have := hl k
    unfold FX12_greatestOf_s66 FX12_greatestOf_j92L66
    simp (disch := omega) only [zlet, obind, zI_lit, zI_neg, zI_add, zI_sub, zI_mul, zI_div, zI_le, zI_lt, zI_eq, zI_cl, irem, ile_t, ile_f, ilt_t, ilt_f, ieq_t, ieq_f, and_true, true_and, and_false, false_and, and_self, not_true_eq_false, not_false_eq_true, ↓reduceIte, Int.toNat_natCast, tqb_z, tqb_t, tqb_f, rg_136_34, T k hk]
    rw [mxo_s]
    by_cases q1 : mxo (lct (fit m lc lh) q) k < lct (fit m lc lh) q k
    · rw [if_pos q1, if_neg (by omega)]; rfl
    · rw [if_neg q1, if_pos (by omega)]; rfl) (fun _ _ => ⟨_, by
    unfold FX12_greatestOf_s66
    simp (disch := omega) only [zlet, obind, zI_lit, zI_neg, zI_add, zI_sub, zI_mul, zI_div, zI_le, zI_lt, zI_eq, zI_cl, irem, ile_t, ile_f, ilt_t, ilt_f, ieq_t, ieq_f, and_true, true_and, and_false, false_and, and_self, not_true_eq_false, not_false_eq_true, ↓reduceIte, Int.toNat_natCast, tqb_z, tqb_t, tqb_f], rfl⟩) 0 () (by omega) (by omega) trivial
  subst hb
  refine ⟨K, ?_, FK⟩
  have e0' : tq_it (fun p : Int32 × tq_PI => FX12_greatestOf_s2 p.2 M 136 (zI (q : Int)) p.1) tq_N ((0 : Int32), J) = some J0 := e0
  have e' : tq_it (fun p : Int32 × tq_PI => FX12_greatestOf_s23 p.2 M 136 (zI (q : Int)) p.1) tq_N ((0 : Int32), J0) = some K := e
  have eb' : tq_it (fun p : Int32 × Int32 => FX12_greatestOf_s66 K M 136 p.1 p.2) tq_N ((0 : Int32), (0 : Int32)) = some (zI ((mxo (lct (fit m lc lh) q) 10 : Nat) : Int)) := eb
  unfold FX12_greatestOf
  rw [e0', obind, e', obind, eb', obind]
  rfl
end GR
