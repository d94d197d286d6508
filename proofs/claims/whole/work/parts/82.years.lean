/-! YEARS: the queries stop, state, deed. -/
theorem r_hy {J : tq_PI} {M : tq_PL} {i w h o : Nat} {K : Nat → Nat} {x : Int32} (hi : i < 2) (le : ∀ p, K p ≤ 4) (z : ∀ p, ar w h p = false → K p = 0) (T : RT J M (i : Int) i w h K) (Y : ∀ J1, J1 137 = J 137 → FX12_isYear J1 M 136 x = some (true, tq_up2 J1 136 19 (zI (o : Int)))) : ∃ J1 J2 J3, FX12_isHill J M 136 (zI (i : Int)) = some (true, J1) ∧ FX12_isYear J1 M 136 x = some (true, J2) ∧ FX12_asTold J2 M 136 = some J3 ∧ RW J3 w h ∧ GR J3 w h 0 K ∧ FP J J1 ∧ FP J J2 ∧ FP J J3 ∧ J3 136 19 = zI (o : Int) ∧ RW J1 w h ∧ J2 137 = J 137 := by
  obtain ⟨J1, _, h1, _, R1, _, _, P1, _, h12, _, qa, _, A⟩ := T
  have F : FC 136 J1 (tq_up2 J1 136 19 (zI (o : Int))) := FC.up
  have qb : (tq_up2 J1 136 19 (zI (o : Int))) 137 = J 137 := by rw [F 137 (by omega)]; exact qa
  obtain ⟨J3, e3, F3, G3⟩ := r_asTold (J := tq_up2 J1 136 19 (zI (o : Int))) M R1.2.2 (i := i) hi (by rw [qb]; exact A) le z (by rw [up_n _ _ (by omega)]; exact h12)
  have P2 : FP J1 (tq_up2 J1 136 19 (zI (o : Int))) := F.fp (by unfold psl; omega)
  refine ⟨J1, _, J3, h1, Y J1 qa, e3, ?_, G3, P1, P1.tr P2, (P1.tr P2).tr F3.fp, ?_, R1, qb⟩
  · refine RW.fg ?_ F3
    exact ⟨by rw [up_n _ _ (by omega)]; exact R1.1, by rw [up_n _ _ (by omega)]; exact R1.2.1, R1.2.2⟩
  · rw [F3 136 19 (Or.inl (by omega)), up_s]
theorem q_stop {I : tq_PI} {L : tq_PL} (V : HV I L 1 0) (Y : YV I 1 0) (x y : Int32) : ∃ v I2 L2, FX11_stop I L 0 x y = some (v, I2, L2) ∧ FP I I2 ∧ FP L L2 ∧ ∀ J M, J 137 = I 137 → ∃ J2, FX12_stop J M 136 x y = some (v, J2) ∧ FP J J2 := by
  rcases hill_case V x with ⟨e, r⟩ | ⟨i, w, h, K, hi, rfl, e, H, S, r⟩
  · refine ⟨-1, I, L, ?_, FP.rf, FP.rf, fun J M hJ => ⟨J, by unfold FX12_stop; rw [r J M hJ, obind]; rfl, FP.rf⟩⟩
    unfold FX11_stop FX11_stop_j28
    simp only [rg_0_0, e, obind, oel_n]
    rcases year_case Y y with q | ⟨j, n, yk, yf, ys, hj, rfl, ey, D, ry⟩
    · rw [(q L).1, obind, oel_n]
    · rw [ey L, obind, oel_s]
  · rcases year_case Y y with q | ⟨j, n, yk, yf, ys, hj, rfl, ey, D, ry⟩
    · refine ⟨-1, I, L, ?_, FP.rf, FP.rf, fun J M hJ => ?_⟩
      · unfold FX11_stop FX11_stop_j28
        simp only [rg_0_0, e, obind, oel_s, (q L).1, oel_n]
      · obtain ⟨J1, J2, h1, h2, R1, R2, G2, P1, P2, -, -, qa, -⟩ := r J M hJ
        refine ⟨J1, ?_, P1⟩
        unfold FX12_stop FX12_stop_j16
        simp (disch := omega) only [h1, (q L).2 J1 M (by rw [qa]; exact hJ), zlet, obind, zI_lit, zI_neg, zI_add, zI_sub, zI_mul, zI_div, zI_le, zI_lt, zI_eq, zI_cl, irem, ile_t, ile_f, ilt_t, ilt_f, ieq_t, ieq_f, and_true, true_and, and_false, false_and, and_self, not_true_eq_false, not_false_eq_true, ↓reduceIte, Int.toNat_natCast, tqb_z, tqb_t, tqb_f, r_isIn, decide_eq_false_iff_not, decide_eq_true_eq, oel_s, oel_n, Bool.false_eq_true, btf, eq_self, or_self, or_false, false_or, or_true, true_or, iand_f, iandl_f, ior_t, ior_f]
    · obtain ⟨I2, L2, e2, p1, p2, C2⟩ := c_replay H (by omega) (by omega) hj D (n := n) (Nat.le_refl _)
      refine ⟨zI ((drn w h yk yf ys (K, z6) n).1 : Nat), I2, L2, ?_, p1, p2, fun J M hJ => ?_⟩
      · unfold FX11_stop
        simp only [rg_0_0, rg_0_4, e, obind, oel_s, ey L, D.2.1, e2]
      · obtain ⟨J1, J2, J3, h1, h2, h3, R3, G3, P1, P2, P3, h19, R1, q2⟩ := r_hy (o := 710 + 121 * j) hi H.le H.z (r J M hJ) (fun J1 q => ry J1 M (by rw [q]; exact hJ))
        obtain ⟨J4, e4, P4, n4, S4⟩ := r_runs P2 h3 R3 G3 P3 h19 (by omega) (by rw [hJ]; exact D) (z := 40) (by omega)
        have hn := D.1
        have em : min (40 : Int).toNat n = n := by rw [show (40 : Int).toNat = 40 from rfl]; omega
        rw [em] at n4
        refine ⟨J4, ?_, P4⟩
        unfold FX12_stop
        simp (disch := omega) only [h1, h2, e4, n4, zlet, obind, zI_lit, zI_neg, zI_add, zI_sub, zI_mul, zI_div, zI_le, zI_lt, zI_eq, zI_cl, irem, ile_t, ile_f, ilt_t, ilt_f, ieq_t, ieq_f, and_true, true_and, and_false, false_and, and_self, not_true_eq_false, not_false_eq_true, ↓reduceIte, Int.toNat_natCast, tqb_z, tqb_t, tqb_f, r_isIn, decide_eq_false_iff_not, decide_eq_true_eq, oel_s, oel_n, Bool.false_eq_true, btf, eq_self, or_self, or_false, false_or, or_true, true_or, iand_f, iandl_f, ior_t, ior_f]
theorem q_state {I : tq_PI} {L : tq_PL} (V : HV I L 1 0) (Y : YV I 1 0) (x y u t : Int32) : ∃ v I2 L2, FX11_state I L 0 x y u t = some (v, I2, L2) ∧ FP I I2 ∧ FP L L2 ∧ ∀ J M, J 137 = I 137 → ∃ J2, FX12_state J M 136 x y u t = some (v, J2) ∧ FP J J2 := by
  rcases hill_case V x with ⟨e, r⟩ | ⟨i, w, h, K, hi, rfl, e, H, S, r⟩
  · refine ⟨-2, I, L, ?_, FP.rf, FP.rf, fun J M hJ => ⟨J, by unfold FX12_state; rw [r J M hJ, obind]; rfl, FP.rf⟩⟩
    unfold FX11_state FX11_state_j43
    simp only [rg_0_0, e, obind, oel_n]
    rcases year_case Y y with q | ⟨j, n, yk, yf, ys, hj, rfl, ey, D, ry⟩
    · rw [(q L).1, obind, oel_n]
    · rw [ey L, obind, oel_s]
  · rcases year_case Y y with q | ⟨j, n, yk, yf, ys, hj, rfl, ey, D, ry⟩
    · refine ⟨-2, I, L, ?_, FP.rf, FP.rf, fun J M hJ => ?_⟩
      · unfold FX11_state FX11_state_j43
        simp only [rg_0_0, e, obind, oel_s, (q L).1, oel_n]
      · obtain ⟨J1, J2, h1, h2, R1, R2, G2, P1, P2, -, -, qa, -⟩ := r J M hJ
        refine ⟨J1, ?_, P1⟩
        unfold FX12_state FX12_state_j25
        simp (disch := omega) only [h1, (q L).2 J1 M (by rw [qa]; exact hJ), zlet, obind, zI_lit, zI_neg, zI_add, zI_sub, zI_mul, zI_div, zI_le, zI_lt, zI_eq, zI_cl, irem, ile_t, ile_f, ilt_t, ilt_f, ieq_t, ieq_f, and_true, true_and, and_false, false_and, and_self, not_true_eq_false, not_false_eq_true, ↓reduceIte, Int.toNat_natCast, tqb_z, tqb_t, tqb_f, r_isIn, decide_eq_false_iff_not, decide_eq_true_eq, oel_s, oel_n, Bool.false_eq_true, btf, eq_self, or_self, or_false, false_or, or_true, true_or, iand_f, iandl_f, ior_t, ior_f]
    · obtain ⟨z, hz, rfl⟩ := zI_of u
      obtain ⟨a, ha, rfl⟩ := zI_of t
      have hn := D.1
      have dle := drn_le w h yk yf ys (K, z6)
      by_cases q1 : 0 ≤ z ∧ z ≤ n
      · obtain ⟨m, rfl⟩ : ∃ m : Nat, z = m := ⟨z.toNat, by omega⟩
        obtain ⟨I2, L2, e2, p1, p2, C2⟩ := c_replay H (by omega) (by omega) hj D (n := m) (by omega)
        have dm := dle m
        obtain ⟨v, ev, vn, vr⟩ := y_answer C2 ha
        have run : ∀ J M, J 137 = I 137 → ∃ J1 J2 J4, FX12_isHill J M 136 (zI (i : Int)) = some (true, J1) ∧ FX12_isYear J1 M 136 (zI (j : Int)) = some (true, J2) ∧ FP J J2 ∧ FX12_runs J2 M 136 (zI (m : Int)) = some J4 ∧ FP J J4 ∧ J4 136 24 = zI ((drn w h yk yf ys (K, z6) m).1 : Nat) ∧ SR J4 w h (drn w h yk yf ys (K, z6) m).2 := fun J M hJ => by
          obtain ⟨J1, J2, J3, h1, h2, h3, R3, G3, P1, P2, P3, h19, R1, q2⟩ := r_hy (o := 710 + 121 * j) hi H.le H.z (r J M hJ) (fun J1 q => ry J1 M (by rw [q]; exact hJ))
          obtain ⟨J4, e4, P4, n4, S4⟩ := r_runs P2 h3 R3 G3 P3 h19 (by omega) (by rw [hJ]; exact D) (z := (m : Int)) (by omega)
          have em : min (m : Int).toNat n = m := by omega
          rw [em] at n4 S4
          exact ⟨J1, J2, J4, h1, h2, P2, e4, P4, n4, S4⟩
        by_cases q2 : (drn w h yk yf ys (K, z6) m).1 = m
        · refine ⟨v, I2, L2, ?_, p1, p2, fun J M hJ => ?_⟩
          · unfold FX11_state
            simp (disch := omega) only [rg_0_0, rg_0_4, e, ey L, D.2.1, e2, zlet, obind, zI_lit, zI_neg, zI_add, zI_sub, zI_mul, zI_div, zI_le, zI_lt, zI_eq, zI_cl, irem, ile_t, ile_f, ilt_t, ilt_f, ieq_t, ieq_f, and_true, true_and, and_false, false_and, and_self, not_true_eq_false, not_false_eq_true, ↓reduceIte, Int.toNat_natCast, tqb_z, tqb_t, tqb_f, r_isIn, decide_eq_false_iff_not, decide_eq_true_eq, oel_s, oel_n, Bool.false_eq_true, btf, eq_self, or_self, or_false, false_or, or_true, true_or, iand_f, iandl_f, ior_t, ior_f, ev]
          · obtain ⟨J1, J2, J4, h1, h2, P2, e4, P4, n4, S4⟩ := run J M hJ
            by_cases a0 : 0 ≤ a
            · obtain ⟨J5, e5, P5⟩ := vr J4 M S4 a0
              refine ⟨J5, ?_, P4.tr P5⟩
              unfold FX12_state
              simp (disch := omega) only [h1, h2, e4, n4, e5, zlet, obind, zI_lit, zI_neg, zI_add, zI_sub, zI_mul, zI_div, zI_le, zI_lt, zI_eq, zI_cl, irem, ile_t, ile_f, ilt_t, ilt_f, ieq_t, ieq_f, and_true, true_and, and_false, false_and, and_self, not_true_eq_false, not_false_eq_true, ↓reduceIte, Int.toNat_natCast, tqb_z, tqb_t, tqb_f, r_isIn, decide_eq_false_iff_not, decide_eq_true_eq, oel_s, oel_n, Bool.false_eq_true, btf, eq_self, or_self, or_false, false_or, or_true, true_or, iand_f, iandl_f, ior_t, ior_f]
            · rw [vn (by omega)]
              refine ⟨J2, ?_, P2⟩
              unfold FX12_state FX12_state_j25
              simp (disch := omega) only [h1, h2, zlet, obind, zI_lit, zI_neg, zI_add, zI_sub, zI_mul, zI_div, zI_le, zI_lt, zI_eq, zI_cl, irem, ile_t, ile_f, ilt_t, ilt_f, ieq_t, ieq_f, and_true, true_and, and_false, false_and, and_self, not_true_eq_false, not_false_eq_true, ↓reduceIte, Int.toNat_natCast, tqb_z, tqb_t, tqb_f, r_isIn, decide_eq_false_iff_not, decide_eq_true_eq, oel_s, oel_n, Bool.false_eq_true, btf, eq_self, or_self, or_false, false_or, or_true, true_or, iand_f, iandl_f, ior_t, ior_f]
        · refine ⟨-2, I2, L2, ?_, p1, p2, fun J M hJ => ?_⟩
          · unfold FX11_state
            simp (disch := omega) only [rg_0_0, rg_0_4, e, ey L, D.2.1, e2, zlet, obind, zI_lit, zI_neg, zI_add, zI_sub, zI_mul, zI_div, zI_le, zI_lt, zI_eq, zI_cl, irem, ile_t, ile_f, ilt_t, ilt_f, ieq_t, ieq_f, and_true, true_and, and_false, false_and, and_self, not_true_eq_false, not_false_eq_true, ↓reduceIte, Int.toNat_natCast, tqb_z, tqb_t, tqb_f, r_isIn, decide_eq_false_iff_not, decide_eq_true_eq, oel_s, oel_n, Bool.false_eq_true, btf, eq_self, or_self, or_false, false_or, or_true, true_or, iand_f, iandl_f, ior_t, ior_f]
          · obtain ⟨J1, J2, J4, h1, h2, P2, e4, P4, n4, S4⟩ := run J M hJ
            by_cases a0 : 0 ≤ a
            · refine ⟨J4, ?_, P4⟩
              unfold FX12_state
              simp (disch := omega) only [h1, h2, e4, n4, zlet, obind, zI_lit, zI_neg, zI_add, zI_sub, zI_mul, zI_div, zI_le, zI_lt, zI_eq, zI_cl, irem, ile_t, ile_f, ilt_t, ilt_f, ieq_t, ieq_f, and_true, true_and, and_false, false_and, and_self, not_true_eq_false, not_false_eq_true, ↓reduceIte, Int.toNat_natCast, tqb_z, tqb_t, tqb_f, r_isIn, decide_eq_false_iff_not, decide_eq_true_eq, oel_s, oel_n, Bool.false_eq_true, btf, eq_self, or_self, or_false, false_or, or_true, true_or, iand_f, iandl_f, ior_t, ior_f]
            · refine ⟨J2, ?_, P2⟩
              unfold FX12_state FX12_state_j25
              simp (disch := omega) only [h1, h2, zlet, obind, zI_lit, zI_neg, zI_add, zI_sub, zI_mul, zI_div, zI_le, zI_lt, zI_eq, zI_cl, irem, ile_t, ile_f, ilt_t, ilt_f, ieq_t, ieq_f, and_true, true_and, and_false, false_and, and_self, not_true_eq_false, not_false_eq_true, ↓reduceIte, Int.toNat_natCast, tqb_z, tqb_t, tqb_f, r_isIn, decide_eq_false_iff_not, decide_eq_true_eq, oel_s, oel_n, Bool.false_eq_true, btf, eq_self, or_self, or_false, false_or, or_true, true_or, iand_f, iandl_f, ior_t, ior_f]
      · refine ⟨-2, I, L, ?_, FP.rf, FP.rf, fun J M hJ => ?_⟩
        · unfold FX11_state FX11_state_j43
          by_cases q2 : z < 0
          · simp (disch := omega) only [rg_0_0, e, ey L, D.2.1, zlet, obind, zI_lit, zI_neg, zI_add, zI_sub, zI_mul, zI_div, zI_le, zI_lt, zI_eq, zI_cl, irem, ile_t, ile_f, ilt_t, ilt_f, ieq_t, ieq_f, and_true, true_and, and_false, false_and, and_self, not_true_eq_false, not_false_eq_true, ↓reduceIte, Int.toNat_natCast, tqb_z, tqb_t, tqb_f, r_isIn, decide_eq_false_iff_not, decide_eq_true_eq, oel_s, oel_n, Bool.false_eq_true, btf, eq_self, or_self, or_false, false_or, or_true, true_or, iand_f, iandl_f, ior_t, ior_f]
          · simp (disch := omega) only [rg_0_0, e, ey L, D.2.1, zlet, obind, zI_lit, zI_neg, zI_add, zI_sub, zI_mul, zI_div, zI_le, zI_lt, zI_eq, zI_cl, irem, ile_t, ile_f, ilt_t, ilt_f, ieq_t, ieq_f, and_true, true_and, and_false, false_and, and_self, not_true_eq_false, not_false_eq_true, ↓reduceIte, Int.toNat_natCast, tqb_z, tqb_t, tqb_f, r_isIn, decide_eq_false_iff_not, decide_eq_true_eq, oel_s, oel_n, Bool.false_eq_true, btf, eq_self, or_self, or_false, false_or, or_true, true_or, iand_f, iandl_f, ior_t, ior_f]
        · obtain ⟨J1, J2, J3, h1, h2, h3, R3, G3, P1, P2, P3, h19, R1, q2⟩ := r_hy (o := 710 + 121 * j) hi H.le H.z (r J M hJ) (fun J1 q => ry J1 M (by rw [q]; exact hJ))
          by_cases q2 : 0 ≤ z ∧ 0 ≤ a
          · obtain ⟨J4, e4, P4, n4, S4⟩ := r_runs P2 h3 R3 G3 P3 h19 (by omega) (by rw [hJ]; exact D) (z := z) (by omega)
            have em : min z.toNat n = n := by omega
            rw [em] at n4
            have := dle n
            refine ⟨J4, ?_, P4⟩
            unfold FX12_state
            simp (disch := omega) only [h1, h2, e4, n4, zlet, obind, zI_lit, zI_neg, zI_add, zI_sub, zI_mul, zI_div, zI_le, zI_lt, zI_eq, zI_cl, irem, ile_t, ile_f, ilt_t, ilt_f, ieq_t, ieq_f, and_true, true_and, and_false, false_and, and_self, not_true_eq_false, not_false_eq_true, ↓reduceIte, Int.toNat_natCast, tqb_z, tqb_t, tqb_f, r_isIn, decide_eq_false_iff_not, decide_eq_true_eq, oel_s, oel_n, Bool.false_eq_true, btf, eq_self, or_self, or_false, false_or, or_true, true_or, iand_f, iandl_f, ior_t, ior_f]
          · refine ⟨J2, ?_, P2⟩
            unfold FX12_state FX12_state_j25
            by_cases q3 : z < 0
            · simp (disch := omega) only [h1, h2, zlet, obind, zI_lit, zI_neg, zI_add, zI_sub, zI_mul, zI_div, zI_le, zI_lt, zI_eq, zI_cl, irem, ile_t, ile_f, ilt_t, ilt_f, ieq_t, ieq_f, and_true, true_and, and_false, false_and, and_self, not_true_eq_false, not_false_eq_true, ↓reduceIte, Int.toNat_natCast, tqb_z, tqb_t, tqb_f, r_isIn, decide_eq_false_iff_not, decide_eq_true_eq, oel_s, oel_n, Bool.false_eq_true, btf, eq_self, or_self, or_false, false_or, or_true, true_or, iand_f, iandl_f, ior_t, ior_f]
            · simp (disch := omega) only [h1, h2, zlet, obind, zI_lit, zI_neg, zI_add, zI_sub, zI_mul, zI_div, zI_le, zI_lt, zI_eq, zI_cl, irem, ile_t, ile_f, ilt_t, ilt_f, ieq_t, ieq_f, and_true, true_and, and_false, false_and, and_self, not_true_eq_false, not_false_eq_true, ↓reduceIte, Int.toNat_natCast, tqb_z, tqb_t, tqb_f, r_isIn, decide_eq_false_iff_not, decide_eq_true_eq, oel_s, oel_n, Bool.false_eq_true, btf, eq_self, or_self, or_false, false_or, or_true, true_or, iand_f, iandl_f, ior_t, ior_f]
theorem q_deed {I : tq_PI} {L : tq_PL} (Y : YV I 1 0) (y u t : Int32) : ∃ v, FX11_deed I L 0 y u t = some v ∧ ∀ J M, J 137 = I 137 → ∃ J2, FX12_deed J M 136 y u t = some (v, J2) ∧ FP J J2 := by
  rcases year_case Y y with q | ⟨j, n, yk, yf, ys, hj, rfl, ey, D, ry⟩
  · refine ⟨-2, by unfold FX11_deed; rw [rg_0_0, (q L).1, obind]; rfl, fun J M hJ => ⟨J, by unfold FX12_deed; rw [(q L).2 J M hJ, obind]; rfl, FP.rf⟩⟩
  · obtain ⟨z, hz, rfl⟩ := zI_of u
    obtain ⟨a, ha, rfl⟩ := zI_of t
    have hn := D.1
    have P : ∀ J : tq_PI, FP J (tq_up2 J 136 19 (zI ((710 + 121 * j : Nat) : Int))) := fun J => (FC.up (b := 136)).fp (by unfold psl; omega)
    have a37 : ∀ J : tq_PI, J 137 = I 137 → ∀ k, (tq_up2 J 136 19 (zI ((710 + 121 * j : Nat) : Int))) 137 k = I 137 k := fun J hJ k => by rw [up_n _ _ (by omega), hJ]
    have mO : ∀ J : tq_PI, J 137 = I 137 → (tq_up2 J 136 19 (zI ((710 + 121 * j : Nat) : Int))) 137 (710 + 121 * j) = zI (n : Int) := fun J hJ => by rw [a37 J hJ]; exact D.2.2.1
    unfold FX11_deed
    simp only [rg_0_0, ey L, obind, oel_s, D.2.1]
    by_cases q1 : z = -1
    · subst q1
      by_cases q2 : a = 0
      · subst q2
        refine ⟨zI (n : Int), by simp (disch := omega) only [zlet, obind, zI_lit, zI_neg, zI_add, zI_sub, zI_mul, zI_div, zI_le, zI_lt, zI_eq, zI_cl, irem, ile_t, ile_f, ilt_t, ilt_f, ieq_t, ieq_f, and_true, true_and, and_false, false_and, and_self, not_true_eq_false, not_false_eq_true, ↓reduceIte, Int.toNat_natCast, tqb_z, tqb_t, tqb_f, r_isIn, decide_eq_false_iff_not, decide_eq_true_eq, oel_s, oel_n, Bool.false_eq_true, btf, eq_self, or_self, or_false, false_or, or_true, true_or, iand_f, iandl_f, ior_t, ior_f], fun J M hJ => ⟨_, ?_, P J⟩⟩
        unfold FX12_deed
        simp (disch := omega) only [ry J M hJ, up_s, zlet, obind, zI_lit, zI_neg, zI_add, zI_sub, zI_mul, zI_div, zI_le, zI_lt, zI_eq, zI_cl, irem, ile_t, ile_f, ilt_t, ilt_f, ieq_t, ieq_f, and_true, true_and, and_false, false_and, and_self, not_true_eq_false, not_false_eq_true, ↓reduceIte, Int.toNat_natCast, tqb_z, tqb_t, tqb_f, r_isIn, decide_eq_false_iff_not, decide_eq_true_eq, oel_s, oel_n, Bool.false_eq_true, btf, eq_self, or_self, or_false, false_or, or_true, true_or, iand_f, iandl_f, ior_t, ior_f, g0, mO J hJ]
      · refine ⟨-2, by simp (disch := omega) only [zlet, obind, zI_lit, zI_neg, zI_add, zI_sub, zI_mul, zI_div, zI_le, zI_lt, zI_eq, zI_cl, irem, ile_t, ile_f, ilt_t, ilt_f, ieq_t, ieq_f, and_true, true_and, and_false, false_and, and_self, not_true_eq_false, not_false_eq_true, ↓reduceIte, Int.toNat_natCast, tqb_z, tqb_t, tqb_f, r_isIn, decide_eq_false_iff_not, decide_eq_true_eq, oel_s, oel_n, Bool.false_eq_true, btf, eq_self, or_self, or_false, false_or, or_true, true_or, iand_f, iandl_f, ior_t, ior_f], fun J M hJ => ⟨_, ?_, P J⟩⟩
        unfold FX12_deed
        simp (disch := omega) only [ry J M hJ, up_s, zlet, obind, zI_lit, zI_neg, zI_add, zI_sub, zI_mul, zI_div, zI_le, zI_lt, zI_eq, zI_cl, irem, ile_t, ile_f, ilt_t, ilt_f, ieq_t, ieq_f, and_true, true_and, and_false, false_and, and_self, not_true_eq_false, not_false_eq_true, ↓reduceIte, Int.toNat_natCast, tqb_z, tqb_t, tqb_f, r_isIn, decide_eq_false_iff_not, decide_eq_true_eq, oel_s, oel_n, Bool.false_eq_true, btf, eq_self, or_self, or_false, false_or, or_true, true_or, iand_f, iandl_f, ior_t, ior_f]
    · by_cases q2 : (0 ≤ z ∧ z < n) ∧ (0 ≤ a ∧ a ≤ 2)
      · obtain ⟨k, rfl⟩ : ∃ k : Nat, z = k := ⟨z.toNat, by omega⟩
        obtain ⟨a1, a2, a3⟩ := c_yAt hj D (k := k) (by omega) L
        obtain ⟨d1, d2, d3, -, -, -, d4, d5, d6⟩ := D.2.2.2 k (by omega)
        have ref : ∀ J M, J 137 = I 137 → FX12_deed J M 136 (zI (j : Int)) (zI (k : Int)) (zI a) = some (I 137 (710 + 121 * j + 1 + 3 * k + a.toNat), tq_up2 J 136 19 (zI ((710 + 121 * j : Nat) : Int))) := fun J M hJ => by
          unfold FX12_deed
          simp (disch := omega) only [ry J M hJ, up_s, zlet, obind, zI_lit, zI_neg, zI_add, zI_sub, zI_mul, zI_div, zI_le, zI_lt, zI_eq, zI_cl, irem, ile_t, ile_f, ilt_t, ilt_f, ieq_t, ieq_f, and_true, true_and, and_false, false_and, and_self, not_true_eq_false, not_false_eq_true, ↓reduceIte, Int.toNat_natCast, tqb_z, tqb_t, tqb_f, r_isIn, decide_eq_false_iff_not, decide_eq_true_eq, oel_s, oel_n, Bool.false_eq_true, btf, eq_self, or_self, or_false, false_or, or_true, true_or, iand_f, iandl_f, ior_t, ior_f, g0, mO J hJ]
          rw [show (((710 + 121 * j : Nat) : Int) + 1 + 3 * (k : Int) + a).toNat = 710 + 121 * j + 1 + 3 * k + a.toNat by omega, a37 J hJ]
        rcases (by omega : a = 0 ∨ a = 1 ∨ a = 2) with rfl | rfl | rfl
        · refine ⟨zI (yk k : Nat), by simp (disch := omega) only [zlet, obind, zI_lit, zI_neg, zI_add, zI_sub, zI_mul, zI_div, zI_le, zI_lt, zI_eq, zI_cl, irem, ile_t, ile_f, ilt_t, ilt_f, ieq_t, ieq_f, and_true, true_and, and_false, false_and, and_self, not_true_eq_false, not_false_eq_true, ↓reduceIte, Int.toNat_natCast, tqb_z, tqb_t, tqb_f, r_isIn, decide_eq_false_iff_not, decide_eq_true_eq, oel_s, oel_n, Bool.false_eq_true, btf, eq_self, or_self, or_false, false_or, or_true, true_or, iand_f, iandl_f, ior_t, ior_f, a1], fun J M hJ => ⟨_, ?_, P J⟩⟩
          rw [ref J M hJ]
          exact congrArg (fun v => some (v, _)) d4
        · refine ⟨zI (yf k : Nat), by simp (disch := omega) only [zlet, obind, zI_lit, zI_neg, zI_add, zI_sub, zI_mul, zI_div, zI_le, zI_lt, zI_eq, zI_cl, irem, ile_t, ile_f, ilt_t, ilt_f, ieq_t, ieq_f, and_true, true_and, and_false, false_and, and_self, not_true_eq_false, not_false_eq_true, ↓reduceIte, Int.toNat_natCast, tqb_z, tqb_t, tqb_f, r_isIn, decide_eq_false_iff_not, decide_eq_true_eq, oel_s, oel_n, Bool.false_eq_true, btf, eq_self, or_self, or_false, false_or, or_true, true_or, iand_f, iandl_f, ior_t, ior_f, a2], fun J M hJ => ⟨_, ?_, P J⟩⟩
          rw [ref J M hJ]
          have : 710 + 121 * j + 1 + 3 * k + (1 : Int).toNat = 710 + 121 * j + 2 + 3 * k := by rw [show (1 : Int).toNat = 1 from rfl]; omega
          rw [this, d5]
        · refine ⟨if yk k = 3 then zI (-1) else zI (ys k : Nat), by simp (disch := omega) only [zlet, obind, zI_lit, zI_neg, zI_add, zI_sub, zI_mul, zI_div, zI_le, zI_lt, zI_eq, zI_cl, irem, ile_t, ile_f, ilt_t, ilt_f, ieq_t, ieq_f, and_true, true_and, and_false, false_and, and_self, not_true_eq_false, not_false_eq_true, ↓reduceIte, Int.toNat_natCast, tqb_z, tqb_t, tqb_f, r_isIn, decide_eq_false_iff_not, decide_eq_true_eq, oel_s, oel_n, Bool.false_eq_true, btf, eq_self, or_self, or_false, false_or, or_true, true_or, iand_f, iandl_f, ior_t, ior_f, a3], fun J M hJ => ⟨_, ?_, P J⟩⟩
          rw [ref J M hJ]
          have : 710 + 121 * j + 1 + 3 * k + (2 : Int).toNat = 710 + 121 * j + 3 + 3 * k := by rw [show (2 : Int).toNat = 2 from rfl]; omega
          rw [this, d6]
      · refine ⟨-2, ?_, fun J M hJ => ⟨_, ?_, P J⟩⟩
        · unfold FX11_deed_j60
          by_cases q3 : z < 0
          · simp (disch := omega) only [zlet, obind, zI_lit, zI_neg, zI_add, zI_sub, zI_mul, zI_div, zI_le, zI_lt, zI_eq, zI_cl, irem, ile_t, ile_f, ilt_t, ilt_f, ieq_t, ieq_f, and_true, true_and, and_false, false_and, and_self, not_true_eq_false, not_false_eq_true, ↓reduceIte, Int.toNat_natCast, tqb_z, tqb_t, tqb_f, r_isIn, decide_eq_false_iff_not, decide_eq_true_eq, oel_s, oel_n, Bool.false_eq_true, btf, eq_self, or_self, or_false, false_or, or_true, true_or, iand_f, iandl_f, ior_t, ior_f]
          · by_cases q4 : (n : Int) ≤ z
            · simp (disch := omega) only [zlet, obind, zI_lit, zI_neg, zI_add, zI_sub, zI_mul, zI_div, zI_le, zI_lt, zI_eq, zI_cl, irem, ile_t, ile_f, ilt_t, ilt_f, ieq_t, ieq_f, and_true, true_and, and_false, false_and, and_self, not_true_eq_false, not_false_eq_true, ↓reduceIte, Int.toNat_natCast, tqb_z, tqb_t, tqb_f, r_isIn, decide_eq_false_iff_not, decide_eq_true_eq, oel_s, oel_n, Bool.false_eq_true, btf, eq_self, or_self, or_false, false_or, or_true, true_or, iand_f, iandl_f, ior_t, ior_f]
            · by_cases q5 : a < 0
              · simp (disch := omega) only [zlet, obind, zI_lit, zI_neg, zI_add, zI_sub, zI_mul, zI_div, zI_le, zI_lt, zI_eq, zI_cl, irem, ile_t, ile_f, ilt_t, ilt_f, ieq_t, ieq_f, and_true, true_and, and_false, false_and, and_self, not_true_eq_false, not_false_eq_true, ↓reduceIte, Int.toNat_natCast, tqb_z, tqb_t, tqb_f, r_isIn, decide_eq_false_iff_not, decide_eq_true_eq, oel_s, oel_n, Bool.false_eq_true, btf, eq_self, or_self, or_false, false_or, or_true, true_or, iand_f, iandl_f, ior_t, ior_f]
              · simp (disch := omega) only [zlet, obind, zI_lit, zI_neg, zI_add, zI_sub, zI_mul, zI_div, zI_le, zI_lt, zI_eq, zI_cl, irem, ile_t, ile_f, ilt_t, ilt_f, ieq_t, ieq_f, and_true, true_and, and_false, false_and, and_self, not_true_eq_false, not_false_eq_true, ↓reduceIte, Int.toNat_natCast, tqb_z, tqb_t, tqb_f, r_isIn, decide_eq_false_iff_not, decide_eq_true_eq, oel_s, oel_n, Bool.false_eq_true, btf, eq_self, or_self, or_false, false_or, or_true, true_or, iand_f, iandl_f, ior_t, ior_f]
        · unfold FX12_deed FX12_deed_j83
          by_cases q3 : 0 ≤ z ∧ z < n
          · simp (disch := omega) only [ry J M hJ, up_s, zlet, obind, zI_lit, zI_neg, zI_add, zI_sub, zI_mul, zI_div, zI_le, zI_lt, zI_eq, zI_cl, irem, ile_t, ile_f, ilt_t, ilt_f, ieq_t, ieq_f, and_true, true_and, and_false, false_and, and_self, not_true_eq_false, not_false_eq_true, ↓reduceIte, Int.toNat_natCast, tqb_z, tqb_t, tqb_f, r_isIn, decide_eq_false_iff_not, decide_eq_true_eq, oel_s, oel_n, Bool.false_eq_true, btf, eq_self, or_self, or_false, false_or, or_true, true_or, iand_f, iandl_f, ior_t, ior_f, g0, mO J hJ]
          · simp (disch := omega) only [ry J M hJ, up_s, zlet, obind, zI_lit, zI_neg, zI_add, zI_sub, zI_mul, zI_div, zI_le, zI_lt, zI_eq, zI_cl, irem, ile_t, ile_f, ilt_t, ilt_f, ieq_t, ieq_f, and_true, true_and, and_false, false_and, and_self, not_true_eq_false, not_false_eq_true, ↓reduceIte, Int.toNat_natCast, tqb_z, tqb_t, tqb_f, r_isIn, decide_eq_false_iff_not, decide_eq_true_eq, oel_s, oel_n, Bool.false_eq_true, btf, eq_self, or_self, or_false, false_or, or_true, true_or, iand_f, iandl_f, ior_t, ior_f, g0, mO J hJ]
