/-! BOOKS: image and again. -/
theorem rg_28 : tq_rg 0 1 = 28 ∧ tq_rg 0 2 = 29 ∧ tq_rg 136 1 = 138 := by decide +kernel
theorem rg_img : ∀ k, k < 3 → tq_rg 28 k = 55 + 27 * k := by decide +kernel
theorem bas_1 : bas 1 := Or.inl rfl
theorem bas_k {k : Nat} (h : k < 3) : bas (55 + 27 * k) := by unfold bas; omega
theorem c_image_t {I : tq_PI} {L : tq_PL} {k : Nat} (hk : k < 3) : ∃ J M, FX11_image I L 0 (zI (k : Int)) = some (true, tq_up2 J 29 k 1, M) ∧ CB I L J M 1 (55 + 27 * k) ∧ FB (55 + 27 * k) I J ∧ FB (55 + 27 * k) L M := by
  obtain ⟨J, M, e, C, F, G⟩ := c_take (I := I) (L := L) bas_1 (bas_k hk) (by omega)
  refine ⟨J, M, ?_, C, F, G⟩
  have c0 : ¬ zI (k : Int) < 0 := by rw [show (0 : Int32) = zI 0 from rfl, zI_lt (by omega) (by omega)]; omega
  have c1 : ¬ (3 : Int32) ≤ zI (k : Int) := by rw [show (3 : Int32) = zI 3 from rfl, zI_le (by omega) (by omega)]; omega
  have c2 : zI (k : Int) < (3 : Int32) := by rw [show (3 : Int32) = zI 3 from rfl, zI_lt (by omega) (by omega)]; omega
  have c3 : (0 : Int32) ≤ zI (k : Int) ∧ zI (k : Int) < 3 := ⟨by rw [show (0 : Int32) = zI 0 from rfl, zI_le (by omega) (by omega)]; omega, c2⟩
  have ec : (zI (k : Int)).toNatClampNeg = k := by rw [zI_cl (by omega), Int.toNat_natCast]
  unfold FX11_image
  rw [if_neg c0, if_neg c1, if_pos c2, if_pos c3, ec, rg_28.1, rg_img k hk, rg_0_0, e, obind, if_pos c3, rg_28.2.1]
theorem c_again_t {I : tq_PI} {L : tq_PL} {k : Nat} (hk : k < 3) (h : ¬ I 29 k = 0) : ∃ J M, FX11_again I L 0 (zI (k : Int)) = some (true, J, M) ∧ CB I L J M (55 + 27 * k) 1 ∧ FB 1 I J ∧ FB 1 L M := by
  obtain ⟨J, M, e, C, F, G⟩ := c_take (I := I) (L := L) (bas_k hk) bas_1 (by omega)
  refine ⟨J, M, ?_, C, F, G⟩
  have c0 : ¬ zI (k : Int) < 0 := by rw [show (0 : Int32) = zI 0 from rfl, zI_lt (by omega) (by omega)]; omega
  have c1 : ¬ (3 : Int32) ≤ zI (k : Int) := by rw [show (3 : Int32) = zI 3 from rfl, zI_le (by omega) (by omega)]; omega
  have c3 : (0 : Int32) ≤ zI (k : Int) ∧ zI (k : Int) < 3 := ⟨by rw [show (0 : Int32) = zI 0 from rfl, zI_le (by omega) (by omega)]; omega, by rw [show (3 : Int32) = zI 3 from rfl, zI_lt (by omega) (by omega)]; omega⟩
  have ec : (zI (k : Int)).toNatClampNeg = k := by rw [zI_cl (by omega), Int.toNat_natCast]
  unfold FX11_again
  rw [if_neg c0, if_neg c1, if_neg c1, if_pos c3, ec, rg_28.2.1, if_neg h, if_pos c3, rg_28.1, rg_img k hk, rg_0_0, e, obind]
def RC (I J : tq_PI) (p q t : Nat) : Prop := (∀ j, j < t → J 137 (q + j) = I 137 (p + j)) ∧ (∀ c, c ≠ 137 → J c = I c) ∧ ∀ j, (j < q ∨ q + t ≤ j) → J 137 j = I 137 j
theorem RC.up {I J : tq_PI} {p q t : Nat} (R : RC I J p q t) (h2 : p + 1004 ≤ q ∨ q + 1004 ≤ p) (ht : t < 1004) : RC I (tq_up2 J 137 (q + t) (J 137 (p + t))) p q (t + 1) := by
  obtain ⟨r1, r2, r3⟩ := R
  refine ⟨fun j hj => ?_, fun c hc => ?_, fun j hj => ?_⟩
  · by_cases e : j = t
    · subst e; rw [up_s, r3 _ (by omega)]
    · rw [up_n _ _ (by omega)]; exact r1 j (by omega)
  · rw [← r2 c hc]; exact up_row hc
  · rw [up_n _ _ (by omega)]; exact r3 j (by omega)
