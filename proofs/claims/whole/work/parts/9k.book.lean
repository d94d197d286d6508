/-! BOOKS: image and again, in both. -/
theorem not_in3 {z : Int} (hz : -2147483648 ≤ z ∧ z < 2147483648) (q : ¬ (0 ≤ z ∧ z < 3)) : (zI z < 0) ∨ (¬ zI z < 0 ∧ (3 : Int32) ≤ zI z) := by
  have h0 : (zI z < 0) = (z < 0) := by rw [show (0 : Int32) = zI 0 from rfl, zI_lt (by omega) (by omega)]
  have h3 : ((3 : Int32) ≤ zI z) = (3 ≤ z) := by rw [show (3 : Int32) = zI 3 from rfl, zI_le (by omega) (by omega)]
  rw [h0, h3]
  omega
theorem r_in2 (J : tq_PI) (M : tq_PL) {z : Int} (hz : -2147483648 ≤ z ∧ z < 2147483648) (q : ¬ (0 ≤ z ∧ z < 3)) : FX12_isIn J M (zI z) 0 2 = false := by
  by_cases q1 : z < 0
  · simp (disch := omega) only [zlet, obind, zI_lit, zI_neg, zI_add, zI_sub, zI_mul, zI_div, zI_le, zI_lt, zI_eq, zI_cl, irem, ile_t, ile_f, ilt_t, ilt_f, ieq_t, ieq_f, and_true, true_and, and_false, false_and, and_self, not_true_eq_false, not_false_eq_true, ↓reduceIte, Int.toNat_natCast, tqb_z, tqb_t, tqb_f, r_isIn, decide_eq_false_iff_not, decide_eq_true_eq, oel_s, oel_n, Bool.false_eq_true, btf, eq_self, or_self, or_false, false_or, or_true, true_or, iand_f, iandl_f, ior_t, ior_f]
  · simp (disch := omega) only [zlet, obind, zI_lit, zI_neg, zI_add, zI_sub, zI_mul, zI_div, zI_le, zI_lt, zI_eq, zI_cl, irem, ile_t, ile_f, ilt_t, ilt_f, ieq_t, ieq_f, and_true, true_and, and_false, false_and, and_self, not_true_eq_false, not_false_eq_true, ↓reduceIte, Int.toNat_natCast, tqb_z, tqb_t, tqb_f, r_isIn, decide_eq_false_iff_not, decide_eq_true_eq, oel_s, oel_n, Bool.false_eq_true, btf, eq_self, or_self, or_false, false_or, or_true, true_or, iand_f, iandl_f, ior_t, ior_f]
theorem q_image {I : tq_PI} {L : tq_PL} (x : Int32) : (FX11_image I L 0 x = some (false, I, L) ∧ ∀ J M, FX12_image J M 136 x = some (false, J)) ∨ ∃ (k : Nat) (I2 : tq_PI) (L2 : tq_PL), k < 3 ∧ x = zI (k : Int) ∧ FX11_image I L 0 x = some (true, tq_up2 I2 29 k 1, L2) ∧ CB I L I2 L2 1 (55 + 27 * k) ∧ FB (55 + 27 * k) I I2 ∧ FB (55 + 27 * k) L L2 ∧ ∀ J M, ∃ K, FX12_image J M 136 x = some (true, K) ∧ RC (tq_up2 J 138 k 1) K 0 (1004 * (k + 1)) 1004 := by
  obtain ⟨z, hz, rfl⟩ := zI_of x
  by_cases q : 0 ≤ z ∧ z < 3
  · obtain ⟨k, rfl⟩ : ∃ k : Nat, z = k := ⟨z.toNat, by omega⟩
    obtain ⟨I2, L2, e, C, F, G⟩ := c_image_t (I := I) (L := L) (k := k) (by omega)
    exact Or.inr ⟨k, I2, L2, by omega, rfl, e, C, F, G, fun J M => r_image_t (by omega)⟩
  · refine Or.inl ⟨?_, fun J M => ?_⟩
    · unfold FX11_image FX11_image_j22
      rcases not_in3 hz q with h | ⟨h, g⟩
      · rw [if_pos h]
      · rw [if_neg h, if_pos g]
    · unfold FX12_image
      rw [zlet, r_in2 J M hz q, if_pos (show tq_b false = 0 from rfl)]
theorem q_again {I : tq_PI} {L : tq_PL} (hT : ∀ k, k < 3 → I 29 k = I 138 k) (x : Int32) : (FX11_again I L 0 x = some (false, I, L) ∧ ∀ J M, J 138 = I 138 → FX12_again J M 136 x = some (false, J)) ∨ ∃ (k : Nat) (I2 : tq_PI) (L2 : tq_PL), k < 3 ∧ x = zI (k : Int) ∧ ¬ I 138 k = 0 ∧ FX11_again I L 0 x = some (true, I2, L2) ∧ CB I L I2 L2 (55 + 27 * k) 1 ∧ FB 1 I I2 ∧ FB 1 L L2 ∧ ∀ J M, J 138 = I 138 → ∃ K, FX12_again J M 136 x = some (true, K) ∧ RC J K (1004 * (k + 1)) 0 1004 := by
  obtain ⟨z, hz, rfl⟩ := zI_of x
  by_cases q : 0 ≤ z ∧ z < 3
  · obtain ⟨k, rfl⟩ : ∃ k : Nat, z = k := ⟨z.toNat, by omega⟩
    have hk : k < 3 := by omega
    by_cases g : I 138 k = 0
    · have c0 : ¬ zI (k : Int) < 0 := by rw [show (0 : Int32) = zI 0 from rfl, zI_lt (by omega) (by omega)]; omega
      have c1 : ¬ (3 : Int32) ≤ zI (k : Int) := by rw [show (3 : Int32) = zI 3 from rfl, zI_le (by omega) (by omega)]; omega
      have c3 : (0 : Int32) ≤ zI (k : Int) ∧ zI (k : Int) < 3 := ⟨by rw [show (0 : Int32) = zI 0 from rfl, zI_le (by omega) (by omega)]; omega, by rw [show (3 : Int32) = zI 3 from rfl, zI_lt (by omega) (by omega)]; omega⟩
      have ec : (zI (k : Int)).toNatClampNeg = k := by rw [zI_cl (by omega), Int.toNat_natCast]
      refine Or.inl ⟨?_, fun J M hJ => ?_⟩
      · unfold FX11_again FX11_again_j31
        rw [if_neg c0, if_neg c1, if_neg c1, if_pos c3, ec, rg_28.2.1, if_pos ((hT k hk).trans g)]
      · have n1 : FX12_isIn J M (zI (k : Int)) 0 2 = true := by
          simp (disch := omega) only [zlet, obind, zI_lit, zI_neg, zI_add, zI_sub, zI_mul, zI_div, zI_le, zI_lt, zI_eq, zI_cl, irem, ile_t, ile_f, ilt_t, ilt_f, ieq_t, ieq_f, and_true, true_and, and_false, false_and, and_self, not_true_eq_false, not_false_eq_true, ↓reduceIte, Int.toNat_natCast, tqb_z, tqb_t, tqb_f, r_isIn, decide_eq_false_iff_not, decide_eq_true_eq, oel_s, oel_n, Bool.false_eq_true, btf, eq_self, or_self, or_false, false_or, or_true, true_or, iand_f, iandl_f, ior_t, ior_f]
        unfold FX12_again FX12_again_j18
        rw [zlet, n1, if_neg tb1, if_pos c3, ec, rg_28.2.2, hJ, if_pos g]
    · obtain ⟨I2, L2, e, C, F, G⟩ := c_again_t (I := I) (L := L) hk (by rw [hT k hk]; exact g)
      exact Or.inr ⟨k, I2, L2, hk, rfl, g, e, C, F, G, fun J M hJ => r_again_t hk (by rw [hJ]; exact g)⟩
  · refine Or.inl ⟨?_, fun J M _ => ?_⟩
    · unfold FX11_again FX11_again_j31
      rcases not_in3 hz q with h | ⟨h, g⟩
      · rw [if_pos h]
      · rw [if_neg h, if_pos g]
    · unfold FX12_again FX12_again_j18
      rw [zlet, r_in2 J M hz q, if_pos (show tq_b false = 0 from rfl)]
