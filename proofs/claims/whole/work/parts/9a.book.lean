/-! BOOKS: what a book tells of itself: count, fault, end. -/
def BV (I : tq_PI) (b o : Nat) : Prop := I b 1 = I 137 (o + 4) ∧ I b 2 = I 137 (o + 5) ∧ I b 3 = I 137 (o + 6)
theorem q_count {I : tq_PI} {L : tq_PL} (V : HV I L 1 0) (Y : YV I 1 0) (G : LV I 1 0) (T : TV I 1 0) (x : Int32) : ∃ v, FX11_count I L 0 x = some v ∧ ∀ J M, J 137 = I 137 → FX12_count J M 136 x = some v := by
  have key : ∀ k, k < 4 → I 3 k = I 137 k := fun k hk => by
    obtain ⟨m1, -, a1, b1, -⟩ := V
    obtain ⟨m2, -, a2, b2, -⟩ := Y
    obtain ⟨m3, -, a3, b3, -⟩ := G
    obtain ⟨m4, -, a4, b4, -⟩ := T
    rcases (by omega : k = 0 ∨ k = 1 ∨ k = 2 ∨ k = 3) with rfl | rfl | rfl | rfl
    · exact b1.trans a1.symm
    · exact b2.trans a2.symm
    · exact b3.trans a3.symm
    · exact b4.trans a4.symm
  obtain ⟨z, hz, rfl⟩ := zI_of x
  by_cases q : 0 ≤ z ∧ z < 4
  · obtain ⟨k, rfl⟩ : ∃ k : Nat, z = k := ⟨z.toNat, by omega⟩
    refine ⟨I 3 k, ?_, fun J M hJ => ?_⟩
    · unfold FX11_count FX0_countOf
      simp (disch := omega) only [zlet, obind, zI_lit, zI_neg, zI_add, zI_sub, zI_mul, zI_div, zI_le, zI_lt, zI_eq, zI_cl, irem, ile_t, ile_f, ilt_t, ilt_f, ieq_t, ieq_f, and_true, true_and, and_false, false_and, and_self, not_true_eq_false, not_false_eq_true, ↓reduceIte, Int.toNat_natCast, tqb_z, tqb_t, tqb_f, r_isIn, decide_eq_false_iff_not, decide_eq_true_eq, oel_s, oel_n, Bool.false_eq_true, btf, eq_self, or_self, or_false, false_or, or_true, true_or, iand_f, iandl_f, ior_t, ior_f, rg_0_0, rg_1_4]
    · unfold FX12_count
      simp (disch := omega) only [zlet, obind, zI_lit, zI_neg, zI_add, zI_sub, zI_mul, zI_div, zI_le, zI_lt, zI_eq, zI_cl, irem, ile_t, ile_f, ilt_t, ilt_f, ieq_t, ieq_f, and_true, true_and, and_false, false_and, and_self, not_true_eq_false, not_false_eq_true, ↓reduceIte, Int.toNat_natCast, tqb_z, tqb_t, tqb_f, r_isIn, decide_eq_false_iff_not, decide_eq_true_eq, oel_s, oel_n, Bool.false_eq_true, btf, eq_self, or_self, or_false, false_or, or_true, true_or, iand_f, iandl_f, ior_t, ior_f, g0]
      rw [hJ, key k (by omega)]
  · refine ⟨-2, ?_, fun J M hJ => ?_⟩
    · unfold FX11_count FX11_count_j9
      by_cases q1 : z < 0
      · simp (disch := omega) only [zlet, obind, zI_lit, zI_neg, zI_add, zI_sub, zI_mul, zI_div, zI_le, zI_lt, zI_eq, zI_cl, irem, ile_t, ile_f, ilt_t, ilt_f, ieq_t, ieq_f, and_true, true_and, and_false, false_and, and_self, not_true_eq_false, not_false_eq_true, ↓reduceIte, Int.toNat_natCast, tqb_z, tqb_t, tqb_f, r_isIn, decide_eq_false_iff_not, decide_eq_true_eq, oel_s, oel_n, Bool.false_eq_true, btf, eq_self, or_self, or_false, false_or, or_true, true_or, iand_f, iandl_f, ior_t, ior_f]
      · simp (disch := omega) only [zlet, obind, zI_lit, zI_neg, zI_add, zI_sub, zI_mul, zI_div, zI_le, zI_lt, zI_eq, zI_cl, irem, ile_t, ile_f, ilt_t, ilt_f, ieq_t, ieq_f, and_true, true_and, and_false, false_and, and_self, not_true_eq_false, not_false_eq_true, ↓reduceIte, Int.toNat_natCast, tqb_z, tqb_t, tqb_f, r_isIn, decide_eq_false_iff_not, decide_eq_true_eq, oel_s, oel_n, Bool.false_eq_true, btf, eq_self, or_self, or_false, false_or, or_true, true_or, iand_f, iandl_f, ior_t, ior_f]
    · unfold FX12_count
      by_cases q1 : z < 0
      · simp (disch := omega) only [zlet, obind, zI_lit, zI_neg, zI_add, zI_sub, zI_mul, zI_div, zI_le, zI_lt, zI_eq, zI_cl, irem, ile_t, ile_f, ilt_t, ilt_f, ieq_t, ieq_f, and_true, true_and, and_false, false_and, and_self, not_true_eq_false, not_false_eq_true, ↓reduceIte, Int.toNat_natCast, tqb_z, tqb_t, tqb_f, r_isIn, decide_eq_false_iff_not, decide_eq_true_eq, oel_s, oel_n, Bool.false_eq_true, btf, eq_self, or_self, or_false, false_or, or_true, true_or, iand_f, iandl_f, ior_t, ior_f]
      · simp (disch := omega) only [zlet, obind, zI_lit, zI_neg, zI_add, zI_sub, zI_mul, zI_div, zI_le, zI_lt, zI_eq, zI_cl, irem, ile_t, ile_f, ilt_t, ilt_f, ieq_t, ieq_f, and_true, true_and, and_false, false_and, and_self, not_true_eq_false, not_false_eq_true, ↓reduceIte, Int.toNat_natCast, tqb_z, tqb_t, tqb_f, r_isIn, decide_eq_false_iff_not, decide_eq_true_eq, oel_s, oel_n, Bool.false_eq_true, btf, eq_self, or_self, or_false, false_or, or_true, true_or, iand_f, iandl_f, ior_t, ior_f]
theorem q_fault {I : tq_PI} {L : tq_PL} (B : BV I 1 0) (x : Int32) : ∀ J M, J 137 = I 137 → FX12_fault J M 136 x = some (FX11_fault I L 0 x) := fun J M hJ => by
  obtain ⟨z, hz, rfl⟩ := zI_of x
  obtain ⟨-, h2, h3⟩ := B
  unfold FX12_fault FX11_fault
  simp (disch := omega) only [zlet, obind, zI_lit, zI_neg, zI_add, zI_sub, zI_mul, zI_div, zI_le, zI_lt, zI_eq, zI_cl, irem, ile_t, ile_f, ilt_t, ilt_f, ieq_t, ieq_f, and_true, true_and, and_false, false_and, and_self, not_true_eq_false, not_false_eq_true, ↓reduceIte, Int.toNat_natCast, tqb_z, tqb_t, tqb_f, r_isIn, decide_eq_false_iff_not, decide_eq_true_eq, oel_s, oel_n, Bool.false_eq_true, btf, eq_self, or_self, or_false, false_or, or_true, true_or, iand_f, iandl_f, ior_t, ior_f, rg_0_0, g0, hJ, h2, h3]
  by_cases q : z = 0
  · rw [if_pos q, if_pos q]; rfl
  · rw [if_neg q, if_neg q]
    by_cases q1 : z = 1
    · rw [if_pos q1, if_pos q1]; rfl
    · rw [if_neg q1, if_neg q1]
theorem q_end {I : tq_PI} {L : tq_PL} (B : BV I 1 0) (x : Int32) : (FX11_end I L 0 x = (-1, I) ∧ ∀ J M, J 137 = I 137 → FX12_end J M 136 x = some (-1, J)) ∨ (FX11_end I L 0 x = (x, tq_up2 I 1 1 x) ∧ 0 ≤ x ∧ x ≤ I 1 1 ∧ ∀ J M, J 137 = I 137 → FX12_end J M 136 x = some (x, tq_up2 J 137 4 x)) := by
  obtain ⟨h1, -, -⟩ := B
  have e4 : ((4 : Int32)).toNatClampNeg = 4 := by decide
  have c4 : (0 : Int32) ≤ 4 ∧ (4 : Int32) < 4016 := by decide
  unfold FX11_end FX12_end FX11_end_j15 FX12_end_j14
  simp only [rg_0_0, g0, e4, if_pos c4]
  by_cases q : x < 0
  · exact Or.inl ⟨by rw [if_pos q], fun J M hJ => by rw [if_pos q]⟩
  · simp only [if_neg q]
    by_cases r : x ≤ I 1 1
    · refine Or.inr ⟨by rw [if_pos r], ?_, r, fun J M hJ => by rw [hJ, if_pos (by rw [← h1]; exact r)]⟩
      rw [Int32.not_lt] at q
      exact q
    · exact Or.inl ⟨by rw [if_neg r], fun J M hJ => by rw [hJ, if_neg (by rw [← h1]; exact r)]⟩
