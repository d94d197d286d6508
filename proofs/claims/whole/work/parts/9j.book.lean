/-! BOOKS: image and again by the reference. -/
theorem r_image_t {J : tq_PI} {M : tq_PL} {k : Nat} (hk : k < 3) : ∃ K, FX12_image J M 136 (zI (k : Int)) = some (true, K) ∧ RC (tq_up2 J 138 k 1) K 0 (1004 * (k + 1)) 1004 := by
  obtain ⟨J0, h0⟩ : ∃ J0, J0 = tq_up2 J 138 k 1 := ⟨_, rfl⟩
  obtain ⟨K, e, R⟩ := it_for (f := fun p : Int32 × tq_PI => FX12_image_s20 p.2 M 136 (zI (k : Int)) p.1) (fun t (s : tq_PI) => (zI (t : Int), s)) 1004 (fun t K => RC J0 K 0 (1004 * (k + 1)) t) (Post := fun K => RC J0 K 0 (1004 * (k + 1)) 1004) (fun t K ht R => by
    have up := R.up (by omega) ht
    refine Or.inl ⟨_, ?_, up⟩
    have et : ((1004 : Int) * ((k : Int) + 1) + (t : Int)).toNat = 1004 * (k + 1) + t := by omega
    unfold FX12_image_s20
    simp (disch := omega) only [zlet, obind, zI_lit, zI_neg, zI_add, zI_sub, zI_mul, zI_div, zI_le, zI_lt, zI_eq, zI_cl, irem, ile_t, ile_f, ilt_t, ilt_f, ieq_t, ieq_f, and_true, true_and, and_false, false_and, and_self, not_true_eq_false, not_false_eq_true, ↓reduceIte, Int.toNat_natCast, tqb_z, tqb_t, tqb_f, g0, et, Nat.zero_add]
    rfl) (fun K R => ⟨K, by
    unfold FX12_image_s20
    simp (disch := omega) only [zlet, obind, zI_lit, zI_neg, zI_add, zI_sub, zI_mul, zI_div, zI_le, zI_lt, zI_eq, zI_cl, irem, ile_t, ile_f, ilt_t, ilt_f, ieq_t, ieq_f, and_true, true_and, and_false, false_and, and_self, not_true_eq_false, not_false_eq_true, ↓reduceIte, Int.toNat_natCast, tqb_z, tqb_t, tqb_f], R⟩) 0 J0 (by omega) (by omega) ⟨fun j hj => by omega, fun _ _ => rfl, fun _ _ => rfl⟩
  rw [← h0]
  refine ⟨K, ?_, R⟩
  have e' : tq_it (fun p : Int32 × tq_PI => FX12_image_s20 p.2 M 136 (zI (k : Int)) p.1) tq_N ((0 : Int32), J0) = some K := e
  have n1 : FX12_isIn J M (zI (k : Int)) 0 2 = true := by
    simp (disch := omega) only [zlet, obind, zI_lit, zI_neg, zI_add, zI_sub, zI_mul, zI_div, zI_le, zI_lt, zI_eq, zI_cl, irem, ile_t, ile_f, ilt_t, ilt_f, ieq_t, ieq_f, and_true, true_and, and_false, false_and, and_self, not_true_eq_false, not_false_eq_true, ↓reduceIte, Int.toNat_natCast, tqb_z, tqb_t, tqb_f, r_isIn, decide_eq_false_iff_not, decide_eq_true_eq, oel_s, oel_n, Bool.false_eq_true, btf, eq_self, or_self, or_false, false_or, or_true, true_or, iand_f, iandl_f, ior_t, ior_f]
  have c3 : (0 : Int32) ≤ zI (k : Int) ∧ zI (k : Int) < 3 := ⟨by rw [show (0 : Int32) = zI 0 from rfl, zI_le (by omega) (by omega)]; omega, by rw [show (3 : Int32) = zI 3 from rfl, zI_lt (by omega) (by omega)]; omega⟩
  have ec : (zI (k : Int)).toNatClampNeg = k := by rw [zI_cl (by omega), Int.toNat_natCast]
  unfold FX12_image
  rw [zlet, n1, if_neg tb1, if_pos c3, ec, rg_28.2.2, ← h0, e', obind]
theorem r_again_t {J : tq_PI} {M : tq_PL} {k : Nat} (hk : k < 3) (h : ¬ J 138 k = 0) : ∃ K, FX12_again J M 136 (zI (k : Int)) = some (true, K) ∧ RC J K (1004 * (k + 1)) 0 1004 := by
  obtain ⟨K, e, R⟩ := it_for (f := fun p : Int32 × tq_PI => FX12_again_s22 p.2 M 136 (zI (k : Int)) p.1) (fun t (s : tq_PI) => (zI (t : Int), s)) 1004 (fun t K => RC J K (1004 * (k + 1)) 0 t) (Post := fun K => RC J K (1004 * (k + 1)) 0 1004) (fun t K ht R => by
    have up := R.up (by omega) ht
    refine Or.inl ⟨_, ?_, up⟩
    have et : ((1004 : Int) * ((k : Int) + 1) + (t : Int)).toNat = 1004 * (k + 1) + t := by omega
    unfold FX12_again_s22
    simp (disch := omega) only [zlet, obind, zI_lit, zI_neg, zI_add, zI_sub, zI_mul, zI_div, zI_le, zI_lt, zI_eq, zI_cl, irem, ile_t, ile_f, ilt_t, ilt_f, ieq_t, ieq_f, and_true, true_and, and_false, false_and, and_self, not_true_eq_false, not_false_eq_true, ↓reduceIte, Int.toNat_natCast, tqb_z, tqb_t, tqb_f, g0, et, Nat.zero_add]
    rfl) (fun K R => ⟨K, by
    unfold FX12_again_s22
    simp (disch := omega) only [zlet, obind, zI_lit, zI_neg, zI_add, zI_sub, zI_mul, zI_div, zI_le, zI_lt, zI_eq, zI_cl, irem, ile_t, ile_f, ilt_t, ilt_f, ieq_t, ieq_f, and_true, true_and, and_false, false_and, and_self, not_true_eq_false, not_false_eq_true, ↓reduceIte, Int.toNat_natCast, tqb_z, tqb_t, tqb_f], R⟩) 0 J (by omega) (by omega) ⟨fun j hj => by omega, fun _ _ => rfl, fun _ _ => rfl⟩
  refine ⟨K, ?_, R⟩
  have e' : tq_it (fun p : Int32 × tq_PI => FX12_again_s22 p.2 M 136 (zI (k : Int)) p.1) tq_N ((0 : Int32), J) = some K := e
  have n1 : FX12_isIn J M (zI (k : Int)) 0 2 = true := by
    simp (disch := omega) only [zlet, obind, zI_lit, zI_neg, zI_add, zI_sub, zI_mul, zI_div, zI_le, zI_lt, zI_eq, zI_cl, irem, ile_t, ile_f, ilt_t, ilt_f, ieq_t, ieq_f, and_true, true_and, and_false, false_and, and_self, not_true_eq_false, not_false_eq_true, ↓reduceIte, Int.toNat_natCast, tqb_z, tqb_t, tqb_f, r_isIn, decide_eq_false_iff_not, decide_eq_true_eq, oel_s, oel_n, Bool.false_eq_true, btf, eq_self, or_self, or_false, false_or, or_true, true_or, iand_f, iandl_f, ior_t, ior_f]
  have c3 : (0 : Int32) ≤ zI (k : Int) ∧ zI (k : Int) < 3 := ⟨by rw [show (0 : Int32) = zI 0 from rfl, zI_le (by omega) (by omega)]; omega, by rw [show (3 : Int32) = zI 3 from rfl, zI_lt (by omega) (by omega)]; omega⟩
  have ec : (zI (k : Int)).toNatClampNeg = k := by rw [zI_cl (by omega), Int.toNat_natCast]
  unfold FX12_again
  rw [zlet, n1, if_neg tb1, if_pos c3, ec, rg_28.2.2, if_neg h, e', obind]
