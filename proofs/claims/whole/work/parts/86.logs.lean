/-! LOGS: a log in both; the query fact; far, hears and fits by the reference. -/
def LD (I : tq_PI) (y : Nat) (A : Nat → Int32) (o m : Nat) (lc lh : Nat → Nat) : Prop := m ≤ 8 ∧ I y 0 = zI (m : Int) ∧ A o = zI (m : Int) ∧ ∀ k, k < m → lc k < 48 ∧ lh k ≤ 9 ∧ I (y + 1) k = zI (lc k : Nat) ∧ I (y + 2) k = zI (lh k : Nat) ∧ A (o + 1 + 2 * k) = zI (lc k : Nat) ∧ A (o + 2 + 2 * k) = zI (lh k : Nat)
def LV (I : tq_PI) (b o : Nat) : Prop := ∃ m : Nat, m ≤ 2 ∧ I 137 (o + 2) = zI (m : Int) ∧ I (b + 2) 2 = zI (m : Int) ∧ ∀ i, i < m → ∃ n lc lh, LD I (b + 12 + 10 * i) (fun j => I 137 (o + j)) (952 + 17 * i) n lc lh
theorem rg_1_7 : tq_rg 1 7 = 6 := by decide +kernel
theorem rg_6 : ∀ i, i < 2 → tq_rg 6 i = 13 + 10 * i := by decide +kernel
theorem rg_l : ∀ i, i < 2 → tq_rg (13 + 10 * i) 1 = 13 + 10 * i + 1 ∧ tq_rg (13 + 10 * i) 2 = 13 + 10 * i + 2 := by decide +kernel
theorem rg_0_7 : tq_rg 0 7 = 49 := by decide +kernel
theorem rg_49_0 : tq_rg 49 0 = 50 := by decide +kernel
theorem rg_49_1 : tq_rg 49 1 = 51 := by decide +kernel
/-- a log in both -/
theorem log_case {I : tq_PI} (V : LV I 1 0) (x : Int32) : (∀ L, FX0_logAt I L 1 x = some none ∧ ∀ J M, J 137 = I 137 → FX12_isLog J M 136 x = some (false, J)) ∨ ∃ (i n : Nat) (lc lh : Nat → Nat), i < 2 ∧ x = zI (i : Int) ∧ (∀ L, FX0_logAt I L 1 x = some (some (13 + 10 * i))) ∧ LD I (13 + 10 * i) (I 137) (952 + 17 * i) n lc lh ∧ ∀ J M, J 137 = I 137 → FX12_isLog J M 136 x = some (true, tq_up2 J 136 33 (zI ((952 + 17 * i : Nat) : Int))) := by
  obtain ⟨m, hm2, hm, hm3, hV⟩ := V
  obtain ⟨z, hz, rfl⟩ := zI_of x
  by_cases q : 0 ≤ z ∧ z < m
  · obtain ⟨i, rfl⟩ : ∃ i : Nat, z = i := ⟨z.toNat, by omega⟩
    obtain ⟨n, lc, lh, D⟩ := hV i (by omega)
    have eA : (fun j => I 137 (0 + j)) = I 137 := funext fun j => by rw [Nat.zero_add]
    rw [eA, show 1 + 12 + 10 * i = 13 + 10 * i by omega] at D
    refine Or.inr ⟨i, n, lc, lh, by omega, rfl, fun L => ?_, D, fun J M hJ => ?_⟩
    · unfold FX0_logAt FX0_countOf
      simp (disch := omega) only [zlet, obind, zI_lit, zI_neg, zI_add, zI_sub, zI_mul, zI_div, zI_le, zI_lt, zI_eq, zI_cl, irem, ile_t, ile_f, ilt_t, ilt_f, ieq_t, ieq_f, and_true, true_and, and_false, false_and, and_self, not_true_eq_false, not_false_eq_true, ↓reduceIte, Int.toNat_natCast, tqb_z, tqb_t, tqb_f, rg_1_4, rg_1_7, hm3, show (2 : Int).toNat = 2 from rfl]
      rw [rg_6 i (by omega)]
    · have e := r_isOf (J := J) M (s := 2) (by omega) (by rw [hJ]; exact hm) hm2 (z := (i : Int)) (by omega)
      have e' : FX12_isOf J M 136 (zI 2) (zI (i : Int)) = some true := by
        refine e.trans ?_
        congr 1
        rw [decide_eq_true_eq]
        omega
      unfold FX12_isLog FX12_placeOf
      simp (disch := omega) only [zlet, obind, zI_lit, zI_neg, zI_add, zI_sub, zI_mul, zI_div, zI_le, zI_lt, zI_eq, zI_cl, irem, ile_t, ile_f, ilt_t, ilt_f, ieq_t, ieq_f, and_true, true_and, and_false, false_and, and_self, not_true_eq_false, not_false_eq_true, ↓reduceIte, Int.toNat_natCast, tqb_z, tqb_t, tqb_f, r_isIn, decide_eq_false_iff_not, decide_eq_true_eq, oel_s, oel_n, Bool.false_eq_true, btf, eq_self, or_self, or_false, false_or, or_true, true_or, iand_f, iandl_f, ior_t, ior_f, e']
      rfl
  · refine Or.inl fun L => ⟨?_, fun J M hJ => ?_⟩
    · unfold FX0_logAt FX0_logAt_j22 FX0_countOf
      simp (disch := omega) only [zlet, obind, zI_lit, zI_neg, zI_add, zI_sub, zI_mul, zI_div, zI_le, zI_lt, zI_eq, zI_cl, irem, ile_t, ile_f, ilt_t, ilt_f, ieq_t, ieq_f, and_true, true_and, and_false, false_and, and_self, not_true_eq_false, not_false_eq_true, ↓reduceIte, Int.toNat_natCast, tqb_z, tqb_t, tqb_f, rg_1_4, hm3, show (2 : Int).toNat = 2 from rfl]
      by_cases q1 : z < 0
      · rw [if_pos q1]
      · rw [if_neg q1]
    · have e := r_isOf (J := J) M (s := 2) (by omega) (by rw [hJ]; exact hm) hm2 hz
      have e' : FX12_isOf J M 136 (zI 2) (zI z) = some false := by
        refine e.trans ?_
        congr 1
        rw [decide_eq_false_iff_not]
        exact q
      unfold FX12_isLog
      simp (disch := omega) only [zlet, obind, zI_lit, zI_neg, zI_add, zI_sub, zI_mul, zI_div, zI_le, zI_lt, zI_eq, zI_cl, irem, ile_t, ile_f, ilt_t, ilt_f, ieq_t, ieq_f, and_true, true_and, and_false, false_and, and_self, not_true_eq_false, not_false_eq_true, ↓reduceIte, Int.toNat_natCast, tqb_z, tqb_t, tqb_f, r_isIn, decide_eq_false_iff_not, decide_eq_true_eq, oel_s, oel_n, Bool.false_eq_true, btf, eq_self, or_self, or_false, false_or, or_true, true_or, iand_f, iandl_f, ior_t, ior_f, e']
section LA
variable {I : tq_PI} {L : tq_PL} {i o m : Nat} {lc lh : Nat → Nat} {A : Nat → Int32}
theorem c_lAt (hi : i < 2) (D : LD I (13 + 10 * i) A o m lc lh) {k : Nat} (hk : k < m) (L : tq_PL) : FX4_cellAt I L (13 + 10 * i) (zI (k : Int)) = some (zI (lc k : Nat)) ∧ FX4_heardAt I L (13 + 10 * i) (zI (k : Int)) = some (zI (lh k : Nat)) := by
  obtain ⟨hm, -, -, hD⟩ := D
  obtain ⟨d1, d2, d3, d4, -⟩ := hD k hk
  obtain ⟨g1, g2⟩ := rg_l i hi
  refine ⟨?_, ?_⟩
  · unfold FX4_cellAt
    simp (disch := omega) only [zlet, obind, zI_lit, zI_neg, zI_add, zI_sub, zI_mul, zI_div, zI_le, zI_lt, zI_eq, zI_cl, irem, ile_t, ile_f, ilt_t, ilt_f, ieq_t, ieq_f, and_true, true_and, and_false, false_and, and_self, not_true_eq_false, not_false_eq_true, ↓reduceIte, Int.toNat_natCast, tqb_z, tqb_t, tqb_f, g1, d3]
  · unfold FX4_heardAt
    simp (disch := omega) only [zlet, obind, zI_lit, zI_neg, zI_add, zI_sub, zI_mul, zI_div, zI_le, zI_lt, zI_eq, zI_cl, irem, ile_t, ile_f, ilt_t, ilt_f, ieq_t, ieq_f, and_true, true_and, and_false, false_and, and_self, not_true_eq_false, not_false_eq_true, ↓reduceIte, Int.toNat_natCast, tqb_z, tqb_t, tqb_f, g2, d4]
end LA
theorem q_fact {I : tq_PI} {L : tq_PL} (Y : LV I 1 0) (y u t : Int32) : ∃ v, FX11_fact I L 0 y u t = some v ∧ ∀ J M, J 137 = I 137 → ∃ J2, FX12_fact J M 136 y u t = some (v, J2) ∧ FP J J2 := by
  rcases log_case Y y with q | ⟨j, n, lc, lh, hj, rfl, ey, D, ry⟩
  · refine ⟨-2, by unfold FX11_fact; rw [rg_0_0, (q L).1, obind]; rfl, fun J M hJ => ⟨J, by unfold FX12_fact; rw [(q L).2 J M hJ, obind]; rfl, FP.rf⟩⟩
  · obtain ⟨z, hz, rfl⟩ := zI_of u
    obtain ⟨a, ha, rfl⟩ := zI_of t
    have hn := D.1
    have P : ∀ J : tq_PI, FP J (tq_up2 J 136 33 (zI ((952 + 17 * j : Nat) : Int))) := fun J => (FC.up (b := 136)).fp (by unfold psl; omega)
    have a37 : ∀ J : tq_PI, J 137 = I 137 → ∀ k, (tq_up2 J 136 33 (zI ((952 + 17 * j : Nat) : Int))) 137 k = I 137 k := fun J hJ k => by rw [up_n _ _ (by omega), hJ]
    have mO : ∀ J : tq_PI, J 137 = I 137 → (tq_up2 J 136 33 (zI ((952 + 17 * j : Nat) : Int))) 137 (952 + 17 * j) = zI (n : Int) := fun J hJ => by rw [a37 J hJ]; exact D.2.2.1
    unfold FX11_fact
    simp only [rg_0_0, ey L, obind, oel_s, D.2.1]
    by_cases q1 : z = -1
    · subst q1
      by_cases q2 : a = 0
      · subst q2
        refine ⟨zI (n : Int), by simp (disch := omega) only [zlet, obind, zI_lit, zI_neg, zI_add, zI_sub, zI_mul, zI_div, zI_le, zI_lt, zI_eq, zI_cl, irem, ile_t, ile_f, ilt_t, ilt_f, ieq_t, ieq_f, and_true, true_and, and_false, false_and, and_self, not_true_eq_false, not_false_eq_true, ↓reduceIte, Int.toNat_natCast, tqb_z, tqb_t, tqb_f, r_isIn, decide_eq_false_iff_not, decide_eq_true_eq, oel_s, oel_n, Bool.false_eq_true, btf, eq_self, or_self, or_false, false_or, or_true, true_or, iand_f, iandl_f, ior_t, ior_f], fun J M hJ => ⟨_, ?_, P J⟩⟩
        unfold FX12_fact
        simp (disch := omega) only [ry J M hJ, up_s, zlet, obind, zI_lit, zI_neg, zI_add, zI_sub, zI_mul, zI_div, zI_le, zI_lt, zI_eq, zI_cl, irem, ile_t, ile_f, ilt_t, ilt_f, ieq_t, ieq_f, and_true, true_and, and_false, false_and, and_self, not_true_eq_false, not_false_eq_true, ↓reduceIte, Int.toNat_natCast, tqb_z, tqb_t, tqb_f, r_isIn, decide_eq_false_iff_not, decide_eq_true_eq, oel_s, oel_n, Bool.false_eq_true, btf, eq_self, or_self, or_false, false_or, or_true, true_or, iand_f, iandl_f, ior_t, ior_f, g0, mO J hJ]
      · refine ⟨-2, by simp (disch := omega) only [zlet, obind, zI_lit, zI_neg, zI_add, zI_sub, zI_mul, zI_div, zI_le, zI_lt, zI_eq, zI_cl, irem, ile_t, ile_f, ilt_t, ilt_f, ieq_t, ieq_f, and_true, true_and, and_false, false_and, and_self, not_true_eq_false, not_false_eq_true, ↓reduceIte, Int.toNat_natCast, tqb_z, tqb_t, tqb_f, r_isIn, decide_eq_false_iff_not, decide_eq_true_eq, oel_s, oel_n, Bool.false_eq_true, btf, eq_self, or_self, or_false, false_or, or_true, true_or, iand_f, iandl_f, ior_t, ior_f], fun J M hJ => ⟨_, ?_, P J⟩⟩
        unfold FX12_fact
        simp (disch := omega) only [ry J M hJ, up_s, zlet, obind, zI_lit, zI_neg, zI_add, zI_sub, zI_mul, zI_div, zI_le, zI_lt, zI_eq, zI_cl, irem, ile_t, ile_f, ilt_t, ilt_f, ieq_t, ieq_f, and_true, true_and, and_false, false_and, and_self, not_true_eq_false, not_false_eq_true, ↓reduceIte, Int.toNat_natCast, tqb_z, tqb_t, tqb_f, r_isIn, decide_eq_false_iff_not, decide_eq_true_eq, oel_s, oel_n, Bool.false_eq_true, btf, eq_self, or_self, or_false, false_or, or_true, true_or, iand_f, iandl_f, ior_t, ior_f]
    · by_cases q2 : (0 ≤ z ∧ z < n) ∧ (0 ≤ a ∧ a ≤ 1)
      · obtain ⟨k, rfl⟩ : ∃ k : Nat, z = k := ⟨z.toNat, by omega⟩
        obtain ⟨a1, a2⟩ := c_lAt hj D (k := k) (by omega) L
        obtain ⟨d1, d2, -, -, d4, d5⟩ := D.2.2.2 k (by omega)
        have ref : ∀ J M, J 137 = I 137 → FX12_fact J M 136 (zI (j : Int)) (zI (k : Int)) (zI a) = some (I 137 (952 + 17 * j + 1 + 2 * k + a.toNat), tq_up2 J 136 33 (zI ((952 + 17 * j : Nat) : Int))) := fun J M hJ => by
          unfold FX12_fact
          simp (disch := omega) only [ry J M hJ, up_s, zlet, obind, zI_lit, zI_neg, zI_add, zI_sub, zI_mul, zI_div, zI_le, zI_lt, zI_eq, zI_cl, irem, ile_t, ile_f, ilt_t, ilt_f, ieq_t, ieq_f, and_true, true_and, and_false, false_and, and_self, not_true_eq_false, not_false_eq_true, ↓reduceIte, Int.toNat_natCast, tqb_z, tqb_t, tqb_f, r_isIn, decide_eq_false_iff_not, decide_eq_true_eq, oel_s, oel_n, Bool.false_eq_true, btf, eq_self, or_self, or_false, false_or, or_true, true_or, iand_f, iandl_f, ior_t, ior_f, g0, mO J hJ]
          rw [show (((952 + 17 * j : Nat) : Int) + 1 + 2 * (k : Int) + a).toNat = 952 + 17 * j + 1 + 2 * k + a.toNat by omega, a37 J hJ]
        rcases (by omega : a = 0 ∨ a = 1) with rfl | rfl
        · refine ⟨zI (lc k : Nat), by simp (disch := omega) only [zlet, obind, zI_lit, zI_neg, zI_add, zI_sub, zI_mul, zI_div, zI_le, zI_lt, zI_eq, zI_cl, irem, ile_t, ile_f, ilt_t, ilt_f, ieq_t, ieq_f, and_true, true_and, and_false, false_and, and_self, not_true_eq_false, not_false_eq_true, ↓reduceIte, Int.toNat_natCast, tqb_z, tqb_t, tqb_f, r_isIn, decide_eq_false_iff_not, decide_eq_true_eq, oel_s, oel_n, Bool.false_eq_true, btf, eq_self, or_self, or_false, false_or, or_true, true_or, iand_f, iandl_f, ior_t, ior_f, a1], fun J M hJ => ⟨_, ?_, P J⟩⟩
          rw [ref J M hJ]
          exact congrArg (fun v => some (v, _)) d4
        · refine ⟨zI (lh k : Nat), by simp (disch := omega) only [zlet, obind, zI_lit, zI_neg, zI_add, zI_sub, zI_mul, zI_div, zI_le, zI_lt, zI_eq, zI_cl, irem, ile_t, ile_f, ilt_t, ilt_f, ieq_t, ieq_f, and_true, true_and, and_false, false_and, and_self, not_true_eq_false, not_false_eq_true, ↓reduceIte, Int.toNat_natCast, tqb_z, tqb_t, tqb_f, r_isIn, decide_eq_false_iff_not, decide_eq_true_eq, oel_s, oel_n, Bool.false_eq_true, btf, eq_self, or_self, or_false, false_or, or_true, true_or, iand_f, iandl_f, ior_t, ior_f, a2], fun J M hJ => ⟨_, ?_, P J⟩⟩
          rw [ref J M hJ]
          have : 952 + 17 * j + 1 + 2 * k + (1 : Int).toNat = 952 + 17 * j + 2 + 2 * k := by rw [show (1 : Int).toNat = 1 from rfl]; omega
          rw [this]
          exact congrArg (fun v => some (v, _)) d5
      · refine ⟨-2, ?_, fun J M hJ => ⟨_, ?_, P J⟩⟩
        · unfold FX11_fact_j60
          by_cases q3 : z < 0
          · simp (disch := omega) only [zlet, obind, zI_lit, zI_neg, zI_add, zI_sub, zI_mul, zI_div, zI_le, zI_lt, zI_eq, zI_cl, irem, ile_t, ile_f, ilt_t, ilt_f, ieq_t, ieq_f, and_true, true_and, and_false, false_and, and_self, not_true_eq_false, not_false_eq_true, ↓reduceIte, Int.toNat_natCast, tqb_z, tqb_t, tqb_f, r_isIn, decide_eq_false_iff_not, decide_eq_true_eq, oel_s, oel_n, Bool.false_eq_true, btf, eq_self, or_self, or_false, false_or, or_true, true_or, iand_f, iandl_f, ior_t, ior_f]
          · by_cases q4 : z < n
            · by_cases q5 : a < 0
              · simp (disch := omega) only [zlet, obind, zI_lit, zI_neg, zI_add, zI_sub, zI_mul, zI_div, zI_le, zI_lt, zI_eq, zI_cl, irem, ile_t, ile_f, ilt_t, ilt_f, ieq_t, ieq_f, and_true, true_and, and_false, false_and, and_self, not_true_eq_false, not_false_eq_true, ↓reduceIte, Int.toNat_natCast, tqb_z, tqb_t, tqb_f, r_isIn, decide_eq_false_iff_not, decide_eq_true_eq, oel_s, oel_n, Bool.false_eq_true, btf, eq_self, or_self, or_false, false_or, or_true, true_or, iand_f, iandl_f, ior_t, ior_f]
              · simp (disch := omega) only [zlet, obind, zI_lit, zI_neg, zI_add, zI_sub, zI_mul, zI_div, zI_le, zI_lt, zI_eq, zI_cl, irem, ile_t, ile_f, ilt_t, ilt_f, ieq_t, ieq_f, and_true, true_and, and_false, false_and, and_self, not_true_eq_false, not_false_eq_true, ↓reduceIte, Int.toNat_natCast, tqb_z, tqb_t, tqb_f, r_isIn, decide_eq_false_iff_not, decide_eq_true_eq, oel_s, oel_n, Bool.false_eq_true, btf, eq_self, or_self, or_false, false_or, or_true, true_or, iand_f, iandl_f, ior_t, ior_f]
            · simp (disch := omega) only [zlet, obind, zI_lit, zI_neg, zI_add, zI_sub, zI_mul, zI_div, zI_le, zI_lt, zI_eq, zI_cl, irem, ile_t, ile_f, ilt_t, ilt_f, ieq_t, ieq_f, and_true, true_and, and_false, false_and, and_self, not_true_eq_false, not_false_eq_true, ↓reduceIte, Int.toNat_natCast, tqb_z, tqb_t, tqb_f, r_isIn, decide_eq_false_iff_not, decide_eq_true_eq, oel_s, oel_n, Bool.false_eq_true, btf, eq_self, or_self, or_false, false_or, or_true, true_or, iand_f, iandl_f, ior_t, ior_f]
        · unfold FX12_fact FX12_fact_j83
          by_cases q3 : 0 ≤ z ∧ z < n
          · by_cases q5 : a < 0
            · simp (disch := omega) only [ry J M hJ, up_s, zlet, obind, zI_lit, zI_neg, zI_add, zI_sub, zI_mul, zI_div, zI_le, zI_lt, zI_eq, zI_cl, irem, ile_t, ile_f, ilt_t, ilt_f, ieq_t, ieq_f, and_true, true_and, and_false, false_and, and_self, not_true_eq_false, not_false_eq_true, ↓reduceIte, Int.toNat_natCast, tqb_z, tqb_t, tqb_f, r_isIn, decide_eq_false_iff_not, decide_eq_true_eq, oel_s, oel_n, Bool.false_eq_true, btf, eq_self, or_self, or_false, false_or, or_true, true_or, iand_f, iandl_f, ior_t, ior_f, g0, mO J hJ]
            · simp (disch := omega) only [ry J M hJ, up_s, zlet, obind, zI_lit, zI_neg, zI_add, zI_sub, zI_mul, zI_div, zI_le, zI_lt, zI_eq, zI_cl, irem, ile_t, ile_f, ilt_t, ilt_f, ieq_t, ieq_f, and_true, true_and, and_false, false_and, and_self, not_true_eq_false, not_false_eq_true, ↓reduceIte, Int.toNat_natCast, tqb_z, tqb_t, tqb_f, r_isIn, decide_eq_false_iff_not, decide_eq_true_eq, oel_s, oel_n, Bool.false_eq_true, btf, eq_self, or_self, or_false, false_or, or_true, true_or, iand_f, iandl_f, ior_t, ior_f, g0, mO J hJ]
          · by_cases q5 : z < 0
            · simp (disch := omega) only [ry J M hJ, up_s, zlet, obind, zI_lit, zI_neg, zI_add, zI_sub, zI_mul, zI_div, zI_le, zI_lt, zI_eq, zI_cl, irem, ile_t, ile_f, ilt_t, ilt_f, ieq_t, ieq_f, and_true, true_and, and_false, false_and, and_self, not_true_eq_false, not_false_eq_true, ↓reduceIte, Int.toNat_natCast, tqb_z, tqb_t, tqb_f, r_isIn, decide_eq_false_iff_not, decide_eq_true_eq, oel_s, oel_n, Bool.false_eq_true, btf, eq_self, or_self, or_false, false_or, or_true, true_or, iand_f, iandl_f, ior_t, ior_f, g0, mO J hJ]
            · simp (disch := omega) only [ry J M hJ, up_s, zlet, obind, zI_lit, zI_neg, zI_add, zI_sub, zI_mul, zI_div, zI_le, zI_lt, zI_eq, zI_cl, irem, ile_t, ile_f, ilt_t, ilt_f, ieq_t, ieq_f, and_true, true_and, and_false, false_and, and_self, not_true_eq_false, not_false_eq_true, ↓reduceIte, Int.toNat_natCast, tqb_z, tqb_t, tqb_f, r_isIn, decide_eq_false_iff_not, decide_eq_true_eq, oel_s, oel_n, Bool.false_eq_true, btf, eq_self, or_self, or_false, false_or, or_true, true_or, iand_f, iandl_f, ior_t, ior_f, g0, mO J hJ]
