/-! LOGS: far, hears and fits by the reference; near and what fits by the class. -/
def dis (p q : Nat) : Nat := (p % 8 - q % 8) + (q % 8 - p % 8) + ((p / 8 - q / 8) + (q / 8 - p / 8))
def hrs (c q : Nat) : Nat := (c % 9 + 1) - dis (c / 9) q
def fit (m : Nat) (lc lh : Nat → Nat) (c : Nat) : Bool := (List.range m).all fun k => decide (hrs c (lc k) = lh k)
theorem fit_iff {m : Nat} {lc lh : Nat → Nat} {c : Nat} : fit m lc lh c = true ↔ ∀ k, k < m → hrs c (lc k) = lh k := by
  unfold fit
  rw [List.all_eq_true]
  constructor
  · intro h k hk
    have := h k (List.mem_range.2 hk)
    simpa using this
  · intro h k hk
    have := h k (List.mem_range.1 hk)
    simpa using this
theorem fit_s {m : Nat} {lc lh : Nat → Nat} {c : Nat} : fit (m + 1) lc lh c = (fit m lc lh c && decide (hrs c (lc m) = lh m)) := by
  unfold fit
  rw [List.range_succ, List.all_append]
  simp
theorem dis_le {p q : Nat} (hp : p < 48) (hq : q < 48) : dis p q ≤ 12 := by unfold dis; omega
theorem r_far (J : tq_PI) (M : tq_PL) {p q : Nat} (hp : p < 48) (hq : q < 48) : FX12_far J M (zI (p : Int)) (zI (q : Int)) = some (zI (dis p q : Nat)) := by
  unfold FX12_far FX12_far_j30 FX12_far_j40
  have e1 : ∀ p : Nat, p < 48 → zI (p : Int) / zI 8 = zI ((p / 8 : Nat) : Int) := fun p hp => by rw [zI_div (by omega) (by omega)]; congr 1
  have e2 : ∀ p : Nat, p < 48 → zI (p : Int) - zI (p : Int) / zI 8 * zI 8 = zI ((p % 8 : Nat) : Int) := fun p hp => by rw [zI_rem (by omega) (by omega)]; congr 1
  have h8 : (8 : Int32) = zI 8 := rfl
  have n8 : ¬ zI 8 = 0 := by decide
  simp only [h8, n8, not_false_eq_true, if_true]
  rw [e2 p hp, e2 q hq, e1 p hp, e1 q hq, zI_sub, zI_sub]
  unfold dis
  generalize ea : p % 8 = a
  generalize eb : q % 8 = b
  generalize ec : p / 8 = c
  generalize ed : q / 8 = d
  have : a < 8 ∧ b < 8 ∧ c < 6 ∧ d < 6 := by omega
  clear ea eb ec ed e1 e2 hp hq
  have g : ∀ z : Int, (0 ≤ z ∨ z < 0) → -100 < z → z < 100 → ((0 : Int32) ≤ zI z) = (0 ≤ z) := fun z _ _ _ => by
    have h0 : (0 : Int32) = zI 0 := rfl
    rw [h0, zI_le (by omega) (by omega)]
  simp only [g ((a : Int) - b) (by omega) (by omega) (by omega), g ((c : Int) - d) (by omega) (by omega) (by omega)]
  by_cases q1 : (0 : Int) ≤ (a : Int) - b
  · rw [if_pos q1]
    by_cases q2 : (0 : Int) ≤ (c : Int) - d
    · rw [if_pos q2, zI_add]
      congr 2; omega
    · rw [if_neg q2, zI_neg, zI_add]
      congr 2; omega
  · rw [if_neg q1]
    by_cases q2 : (0 : Int) ≤ (c : Int) - d
    · rw [if_pos q2, zI_neg, zI_add]
      congr 2; omega
    · rw [if_neg q2, zI_neg, zI_neg, zI_add]
      congr 2; omega
theorem r_hears (J : tq_PI) (M : tq_PL) {c q : Nat} (hc : c < 432) (hq : q < 48) : FX12_hears J M (zI (c : Int)) (zI (q : Int)) = some (zI (hrs c q : Nat)) := by
  have e1 : zI (c : Int) / zI 9 = zI ((c / 9 : Nat) : Int) := by rw [zI_div (by omega) (by omega)]; congr 1
  have e2 : zI (c : Int) - zI (c : Int) / zI 9 * zI 9 = zI ((c % 9 : Nat) : Int) := by rw [zI_rem (by omega) (by omega)]; congr 1
  have h9 : (9 : Int32) = zI 9 := rfl
  have n9 : ¬ zI 9 = 0 := by decide
  unfold FX12_hears
  simp only [h9, n9, not_false_eq_true, if_true, e2]
  rw [e1, r_far J M (by omega) hq, obind]
  have h1 : (1 : Int32) = zI 1 := rfl
  have h0 : (0 : Int32) = zI 0 := rfl
  have := dis_le (p := c / 9) (by omega) hq
  unfold hrs
  simp (disch := omega) only [h1, h0, zI_add, zI_sub, zI_le]
  by_cases q1 : (c % 9 : Nat) + (1 : Int) - (dis (c / 9) q : Nat) ≤ 0
  · rw [if_pos q1]
    congr 2; omega
  · rw [if_neg q1]
    congr 2; omega
theorem hrs_le {c q : Nat} : hrs c q ≤ 9 := by unfold hrs; omega
section LR
variable {I J : tq_PI} {M : tq_PL} {y o m : Nat} {lc lh : Nat → Nat}
theorem r_isSo (D : LD I y (J 137) o m lc lh) (h33 : J 136 33 = zI (o : Int)) (ho : o + 17 ≤ 4016) {c : Nat} (hc : c < 432) : FX12_isSo J M 136 (zI (c : Int)) = some (fit m lc lh c) := by
  obtain ⟨hm, -, hA, hD⟩ := D
  unfold FX12_isSo
  have e := it_for (f := fun p : Int32 × Int32 => FX12_isSo_s4 J M 136 (zI (c : Int)) p.1 p.2) (fun k (s : Int32) => (s, zI (k : Int))) m (fun k s => s = tq_b (fit k lc lh c)) (Post := fun b => b = tq_b (fit m lc lh c)) (fun k s hk hs => by
    subst hs
    obtain ⟨d1, d2, -, -, d3, d4⟩ := hD k hk
    refine Or.inl ⟨tq_b (fit (k + 1) lc lh c), ?_, rfl⟩
    unfold FX12_isSo_s4 FX12_isSo_j62L4 FX12_isSo_j63L4
    have e1 : ((o : Int) + 1 + 2 * (k : Int)).toNat = o + 1 + 2 * k := by omega
    have e2 : ((o : Int) + 2 + 2 * (k : Int)).toNat = o + 2 + 2 * k := by omega
    have hh := hrs_le (c := c) (q := lc k)
    simp (disch := omega) only [zlet, obind, zI_lit, zI_neg, zI_add, zI_sub, zI_mul, zI_div, zI_le, zI_lt, zI_eq, zI_cl, irem, ile_t, ile_f, ilt_t, ilt_f, ieq_t, ieq_f, and_true, true_and, and_false, false_and, and_self, not_true_eq_false, not_false_eq_true, ↓reduceIte, Int.toNat_natCast, tqb_z, tqb_t, tqb_f, h33, g0, hA, e1, e2, d3, d4, r_hears J M hc d1]
    rw [fit_s]
    cases q : fit k lc lh c with
    | false => simp only [if_true, Bool.false_and, tqb_f]; rfl
    | true =>
      simp only [Bool.true_and, if_false, Bool.true_eq_false]
      by_cases r : hrs c (lc k) = lh k
      · rw [if_pos (by omega), decide_eq_true r]; rfl
      · rw [if_neg (by omega), decide_eq_false r]; rfl) (fun s hs => by
    subst hs
    refine ⟨_, ?_, rfl⟩
    unfold FX12_isSo_s4
    simp (disch := omega) only [zlet, obind, zI_lit, zI_neg, zI_add, zI_sub, zI_mul, zI_div, zI_le, zI_lt, zI_eq, zI_cl, irem, ile_t, ile_f, ilt_t, ilt_f, ieq_t, ieq_f, and_true, true_and, and_false, false_and, and_self, not_true_eq_false, not_false_eq_true, ↓reduceIte, Int.toNat_natCast, tqb_z, tqb_t, tqb_f, h33, g0, hA]) 0 1 (by omega) (by omega) rfl
  obtain ⟨b, e, rfl⟩ := e
  have e' : tq_it (fun p : Int32 × Int32 => FX12_isSo_s4 J M 136 (zI (c : Int)) p.1 p.2) tq_N ((1 : Int32), (0 : Int32)) = some (tq_b (fit m lc lh c)) := e
  rw [e', obind]
  cases fit m lc lh c <;> simp [tq_b]
end LR
