/-! TALKS: the query talk, but for CODE. -/
theorem q_talk_plain {I : tq_PI} {L : tq_PL} (Y : TV I 1 0) (y u : Int32) (hu : ¬ u = -2) : ∃ v, FX11_talk I L 0 y u = some (v, I) ∧ ∀ J M, J 137 = I 137 → ∃ J2, FX12_talk J M 136 y u = some (v, J2) ∧ FP J J2 := by
  rcases talk_case Y y with q | ⟨j, n, tw, hj, rfl, ey, D, ry⟩
  · refine ⟨-1, by unfold FX11_talk; rw [rg_0_0, (q L).1, obind]; rfl, fun J M hJ => ⟨J, by unfold FX12_talk; rw [(q L).2 J M hJ, obind]; rfl, FP.rf⟩⟩
  · obtain ⟨z, hz, rfl⟩ := zI_of u
    have hn := D.1
    have P : ∀ J : tq_PI, FP J (tq_up2 J 136 35 (zI ((986 + 9 * j : Nat) : Int))) := fun J => (FC.up (b := 136)).fp (by unfold psl; omega)
    have e37 : ∀ J : tq_PI, J 137 = I 137 → (tq_up2 J 136 35 (zI ((986 + 9 * j : Nat) : Int))) 137 = I 137 := fun J hJ => by rw [P J 137 (by unfold psl; omega), hJ]
    have mO : ∀ J : tq_PI, J 137 = I 137 → (tq_up2 J 136 35 (zI ((986 + 9 * j : Nat) : Int))) 137 (986 + 9 * j) = zI (n : Int) := fun J hJ => by rw [e37 J hJ]; exact D.2.2.1
    have em : (zI z = (-1 : Int32)) = (z = -1) := by rw [show (-1 : Int32) = zI (-1) from rfl, zI_eq (by omega) (by omega)]
    unfold FX11_talk
    simp only [rg_0_0, ey L, obind, oel_s, em, D.2.1]
    by_cases q1 : z = -1
    · refine ⟨zI (n : Int), by rw [if_pos q1], fun J M hJ => ⟨_, ?_, P J⟩⟩
      obtain ⟨r1, r2⟩ := ry J M hJ
      unfold FX12_talk
      rw [r1, obind, if_neg tb1, zlet, r2]
      rw [if_pos (by rw [em]; exact q1)]
      simp (disch := omega) only [up_s, g0, mO J hJ, zlet, obind, zI_lit, zI_neg, zI_add, zI_sub, zI_mul, zI_div, zI_le, zI_lt, zI_eq, zI_cl, irem, ile_t, ile_f, ilt_t, ilt_f, ieq_t, ieq_f, and_true, true_and, and_false, false_and, and_self, not_true_eq_false, not_false_eq_true, ↓reduceIte, Int.toNat_natCast, tqb_z, tqb_t, tqb_f, r_isIn, decide_eq_false_iff_not, decide_eq_true_eq, oel_s, oel_n, Bool.false_eq_true, btf, eq_self, or_self, or_false, false_or, or_true, true_or, iand_f, iandl_f, ior_t, ior_f]
    · rw [if_neg q1, if_neg hu]
      by_cases q2 : 0 ≤ z ∧ z < n
      · obtain ⟨k, rfl⟩ : ∃ k : Nat, z = k := ⟨z.toNat, by omega⟩
        refine ⟨zI (tw k : Nat), by rw [c_often hj D (by omega) L, obind], fun J M hJ => ⟨_, ?_, P J⟩⟩
        obtain ⟨r1, r2⟩ := ry J M hJ
        have d3 := (D.2.2.2 k (by omega)).2.2
        have ek : (((986 + 9 * j : Nat) : Int) + 1 + (k : Int)).toNat = 986 + 9 * j + 1 + k := by omega
        have d3' : (tq_up2 J 136 35 (zI ((986 + 9 * j : Nat) : Int))) 137 (986 + 9 * j + 1 + k) = zI (tw k : Nat) := by rw [e37 J hJ]; exact d3
        unfold FX12_talk
        rw [r1, obind, if_neg tb1, zlet, r2]
        rw [if_neg (by rw [em]; exact q1), if_neg hu]
        simp (disch := omega) only [up_s, g0, mO J hJ, zlet, obind, zI_lit, zI_neg, zI_add, zI_sub, zI_mul, zI_div, zI_le, zI_lt, zI_eq, zI_cl, irem, ile_t, ile_f, ilt_t, ilt_f, ieq_t, ieq_f, and_true, true_and, and_false, false_and, and_self, not_true_eq_false, not_false_eq_true, ↓reduceIte, Int.toNat_natCast, tqb_z, tqb_t, tqb_f, r_isIn, decide_eq_false_iff_not, decide_eq_true_eq, oel_s, oel_n, Bool.false_eq_true, btf, eq_self, or_self, or_false, false_or, or_true, true_or, iand_f, iandl_f, ior_t, ior_f, ek, d3']
      · refine ⟨-1, ?_, fun J M hJ => ⟨_, ?_, P J⟩⟩
        · unfold FX9_oftenAt FX9_oftenAt_j21
          rw [D.2.1]
          by_cases q3 : z < 0
          · simp (disch := omega) only [zlet, obind, zI_lit, zI_neg, zI_add, zI_sub, zI_mul, zI_div, zI_le, zI_lt, zI_eq, zI_cl, irem, ile_t, ile_f, ilt_t, ilt_f, ieq_t, ieq_f, and_true, true_and, and_false, false_and, and_self, not_true_eq_false, not_false_eq_true, ↓reduceIte, Int.toNat_natCast, tqb_z, tqb_t, tqb_f, r_isIn, decide_eq_false_iff_not, decide_eq_true_eq, oel_s, oel_n, Bool.false_eq_true, btf, eq_self, or_self, or_false, false_or, or_true, true_or, iand_f, iandl_f, ior_t, ior_f]
          · simp (disch := omega) only [zlet, obind, zI_lit, zI_neg, zI_add, zI_sub, zI_mul, zI_div, zI_le, zI_lt, zI_eq, zI_cl, irem, ile_t, ile_f, ilt_t, ilt_f, ieq_t, ieq_f, and_true, true_and, and_false, false_and, and_self, not_true_eq_false, not_false_eq_true, ↓reduceIte, Int.toNat_natCast, tqb_z, tqb_t, tqb_f, r_isIn, decide_eq_false_iff_not, decide_eq_true_eq, oel_s, oel_n, Bool.false_eq_true, btf, eq_self, or_self, or_false, false_or, or_true, true_or, iand_f, iandl_f, ior_t, ior_f]
        · obtain ⟨r1, r2⟩ := ry J M hJ
          unfold FX12_talk
          rw [r1, obind, if_neg tb1, zlet, r2]
          rw [if_neg (by rw [em]; exact q1), if_neg hu]
          by_cases q3 : z < 0
          · simp (disch := omega) only [up_s, g0, mO J hJ, zlet, obind, zI_lit, zI_neg, zI_add, zI_sub, zI_mul, zI_div, zI_le, zI_lt, zI_eq, zI_cl, irem, ile_t, ile_f, ilt_t, ilt_f, ieq_t, ieq_f, and_true, true_and, and_false, false_and, and_self, not_true_eq_false, not_false_eq_true, ↓reduceIte, Int.toNat_natCast, tqb_z, tqb_t, tqb_f, r_isIn, decide_eq_false_iff_not, decide_eq_true_eq, oel_s, oel_n, Bool.false_eq_true, btf, eq_self, or_self, or_false, false_or, or_true, true_or, iand_f, iandl_f, ior_t, ior_f]
          · simp (disch := omega) only [up_s, g0, mO J hJ, zlet, obind, zI_lit, zI_neg, zI_add, zI_sub, zI_mul, zI_div, zI_le, zI_lt, zI_eq, zI_cl, irem, ile_t, ile_f, ilt_t, ilt_f, ieq_t, ieq_f, and_true, true_and, and_false, false_and, and_self, not_true_eq_false, not_false_eq_true, ↓reduceIte, Int.toNat_natCast, tqb_z, tqb_t, tqb_f, r_isIn, decide_eq_false_iff_not, decide_eq_true_eq, oel_s, oel_n, Bool.false_eq_true, btf, eq_self, or_self, or_false, false_or, or_true, true_or, iand_f, iandl_f, ior_t, ior_f]
