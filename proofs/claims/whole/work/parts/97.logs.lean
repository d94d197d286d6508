/-! LOGS: the query fits, in both. -/
theorem r_fitsq {J J1 : tq_PI} {M : tq_PL} {x0 : Int32} (eL : FX12_isLog J M 136 x0 = some (true, J1)) {z : Int} (hz : z < 2147483648) (h : (0 ≤ z ∧ z ≤ 3) ∨ 10 ≤ z) {b} (e : tq_it (fun p : Int32 × Int32 × Int32 × Int32 => FX12_fits_s36 J1 M 136 (zI z) p.1 p.2.1 p.2.2.1 p.2.2.2) tq_N ((0 : Int32), (-1 : Int32), (-1 : Int32), (0 : Int32)) = some b) : FX12_fits J M 136 x0 (zI z) = b.elim (fun t20 => (if zI z = 0 then some (t20.1, J1) else (if zI z = 1 then (if 0 ≤ t20.2.1 then some (t20.2.1, J1) else some ((-1 : Int32), J1)) else (if zI z = 2 then (if 0 ≤ t20.2.2 then some (t20.2.2, J1) else some ((-1 : Int32), J1)) else (if zI z = 3 then (if t20.1 = 0 then some ((-1 : Int32), J1) else ((FX12_askOf J1 M 136).bind fun p28 => some (p28.1, p28.2))) else some ((-2 : Int32), J1)))))) (fun t20 => some t20) := by
  have n1 : FX12_isIn J1 M (zI z) 4 9 = false := by
    simp (disch := omega) only [zlet, obind, zI_lit, zI_neg, zI_add, zI_sub, zI_mul, zI_div, zI_le, zI_lt, zI_eq, zI_cl, irem, ile_t, ile_f, ilt_t, ilt_f, ieq_t, ieq_f, and_true, true_and, and_false, false_and, and_self, not_true_eq_false, not_false_eq_true, ↓reduceIte, Int.toNat_natCast, tqb_z, tqb_t, tqb_f, r_isIn, decide_eq_false_iff_not, decide_eq_true_eq, oel_s, oel_n, Bool.false_eq_true, btf, eq_self, or_self, or_false, false_or, or_true, true_or, iand_f, iandl_f, ior_t, ior_f]
  have n2 : ¬ zI z < 0 := by
    rw [show (0 : Int32) = zI 0 from rfl, zI_lt (by omega) (by omega)]
    omega
  unfold FX12_fits
  rw [eL, obind]
  dsimp only
  rw [if_neg tb1, if_neg n2, zlet, n1, if_pos (show tq_b false = 0 from rfl), e, obind]
theorem q_fits {I : tq_PI} {L : tq_PL} (Y : LV I 1 0) (y u : Int32) : ∃ v I2 L2, FX11_fits I L 0 y u = some (v, I2, L2) ∧ FP I I2 ∧ FP L L2 ∧ ∀ J M, J 137 = I 137 → ∃ J2, FX12_fits J M 136 y u = some (v, J2) ∧ FP J J2 := by
  rcases log_case Y y with q | ⟨j, n, lc, lh, hj, rfl, ey, D, ry⟩
  · refine ⟨-2, I, L, by unfold FX11_fits; rw [rg_0_0, (q L).1, obind]; rfl, FP.rf, FP.rf, fun J M hJ => ⟨J, by unfold FX12_fits FX12_fits_j22; rw [(q L).2 J M hJ, obind]; rfl, FP.rf⟩⟩
  · obtain ⟨z, hz, rfl⟩ := zI_of u
    have P : ∀ J : tq_PI, FP J (tq_up2 J 136 33 (zI ((952 + 17 * j : Nat) : Int))) := fun J => (FC.up (b := 136)).fp (by unfold psl; omega)
    obtain ⟨M1, eM, FM, G⟩ := c_gather L hj D
    have PM : FP L M1 := FM.fp (by unfold psl; omega)
    have D' : ∀ J : tq_PI, J 137 = I 137 → LD I (13 + 10 * j) ((tq_up2 J 136 33 (zI ((952 + 17 * j : Nat) : Int))) 137) (952 + 17 * j) n lc lh := fun J hJ => by
      have : (tq_up2 J 136 33 (zI ((952 + 17 * j : Nat) : Int))) 137 = I 137 := by rw [P J 137 (by unfold psl; omega), hJ]
      rw [this]; exact D
    have nn := n432_e
    have hN := fb_ct_le (fit n lc lh) n432
    by_cases q2 : (0 ≤ z ∧ z ≤ 3) ∨ 10 ≤ z
    · by_cases q3 : 10 ≤ z
      · obtain ⟨v, ev, hv⟩ := c_fitAt (I := I) G (z := z - 10) (by omega)
        refine ⟨zI v, I, M1, ?_, FP.rf, PM, fun J M hJ => ?_⟩
        · unfold FX11_fits
          simp only [rg_0_0, rg_0_7, ey L, obind, oel_s, eM]
          simp (disch := omega) only [zlet, obind, zI_lit, zI_neg, zI_add, zI_sub, zI_mul, zI_div, zI_le, zI_lt, zI_eq, zI_cl, irem, ile_t, ile_f, ilt_t, ilt_f, ieq_t, ieq_f, and_true, true_and, and_false, false_and, and_self, not_true_eq_false, not_false_eq_true, ↓reduceIte, Int.toNat_natCast, tqb_z, tqb_t, tqb_f, r_isIn, decide_eq_false_iff_not, decide_eq_true_eq, oel_s, oel_n, Bool.false_eq_true, btf, eq_self, or_self, or_false, false_or, or_true, true_or, iand_f, iandl_f, ior_t, ior_f, ev]
        · obtain ⟨b, e, hb⟩ := r_fits (M := M) (D' J hJ) (up_s _ _ _ _) (by omega) (z := z) (by omega)
          rcases hb with ⟨h, _⟩ | ⟨-, ⟨t, rfl, k⟩ | ⟨c, rfl, k⟩⟩
          · omega
          · refine ⟨_, ?_, P J⟩
            rw [r_fitsq (ry J M hJ) (by omega) q2 e, Kth_one hv k]
            simp (disch := omega) only [Sum.elim_inl, zlet, obind, zI_lit, zI_neg, zI_add, zI_sub, zI_mul, zI_div, zI_le, zI_lt, zI_eq, zI_cl, irem, ile_t, ile_f, ilt_t, ilt_f, ieq_t, ieq_f, and_true, true_and, and_false, false_and, and_self, not_true_eq_false, not_false_eq_true, ↓reduceIte, Int.toNat_natCast, tqb_z, tqb_t, tqb_f, r_isIn, decide_eq_false_iff_not, decide_eq_true_eq, oel_s, oel_n, Bool.false_eq_true, btf, eq_self, or_self, or_false, false_or, or_true, true_or, iand_f, iandl_f, ior_t, ior_f]
          · refine ⟨_, ?_, P J⟩
            rw [r_fitsq (ry J M hJ) (by omega) q2 e, Kth_one hv k]
            rfl
      · have ref : ∀ J M, J 137 = I 137 → ∃ u v : Int, Sur (fun c => c / 9) (fit n lc lh) n432 u ∧ Sur (fun c => c % 9 + 1) (fit n lc lh) n432 v ∧ (-2 ≤ u ∧ u < 48) ∧ (-2 ≤ v ∧ v < 10) ∧ ∃ b, b = .inl (zI ((fb_ct (fit n lc lh) n432 : Nat) : Int), zI u, zI v) ∧ tq_it (fun p : Int32 × Int32 × Int32 × Int32 => FX12_fits_s36 (tq_up2 J 136 33 (zI ((952 + 17 * j : Nat) : Int))) M 136 (zI z) p.1 p.2.1 p.2.2.1 p.2.2.2) tq_N ((0 : Int32), (-1 : Int32), (-1 : Int32), (0 : Int32)) = some b := fun J M hJ => by
          obtain ⟨b, e, hb⟩ := r_fits (M := M) (D' J hJ) (up_s _ _ _ _) (by omega) (z := z) (by omega)
          rcases hb with ⟨-, u, v, h1, h2, h3⟩ | ⟨h, _⟩
          · exact ⟨u, v, h2, h3, Sur_rng h2 (b := 48) (fun d hd => by omega) (by omega), Sur_rng h3 (b := 10) (fun d hd => by omega) (by omega), b, h1, e⟩
          · omega
        rcases (by omega : z = 0 ∨ z = 1 ∨ z = 2 ∨ z = 3) with rfl | rfl | rfl | rfl
        · refine ⟨zI ((fb_ct (fit n lc lh) n432 : Nat) : Int), I, M1, ?_, FP.rf, PM, fun J M hJ => ?_⟩
          · unfold FX11_fits
            simp only [rg_0_0, rg_0_7, ey L, obind, oel_s, eM, c_fitCount (I := I) G]
            simp (disch := omega) only [zlet, obind, zI_lit, zI_neg, zI_add, zI_sub, zI_mul, zI_div, zI_le, zI_lt, zI_eq, zI_cl, irem, ile_t, ile_f, ilt_t, ilt_f, ieq_t, ieq_f, and_true, true_and, and_false, false_and, and_self, not_true_eq_false, not_false_eq_true, ↓reduceIte, Int.toNat_natCast, tqb_z, tqb_t, tqb_f, r_isIn, decide_eq_false_iff_not, decide_eq_true_eq, oel_s, oel_n, Bool.false_eq_true, btf, eq_self, or_self, or_false, false_or, or_true, true_or, iand_f, iandl_f, ior_t, ior_f]
          · obtain ⟨u, v, h1, h2, h3, h4, b, rfl, e⟩ := ref J M hJ
            refine ⟨_, ?_, P J⟩
            rw [r_fitsq (ry J M hJ) (by omega) q2 e]
            simp (disch := omega) only [Sum.elim_inl, zlet, obind, zI_lit, zI_neg, zI_add, zI_sub, zI_mul, zI_div, zI_le, zI_lt, zI_eq, zI_cl, irem, ile_t, ile_f, ilt_t, ilt_f, ieq_t, ieq_f, and_true, true_and, and_false, false_and, and_self, not_true_eq_false, not_false_eq_true, ↓reduceIte, Int.toNat_natCast, tqb_z, tqb_t, tqb_f, r_isIn, decide_eq_false_iff_not, decide_eq_true_eq, oel_s, oel_n, Bool.false_eq_true, btf, eq_self, or_self, or_false, false_or, or_true, true_or, iand_f, iandl_f, ior_t, ior_f]
        · obtain ⟨w, ew, hw⟩ := c_sureCell (I := I) G
          refine ⟨zI w, I, M1, ?_, FP.rf, PM, fun J M hJ => ?_⟩
          · unfold FX11_fits
            simp only [rg_0_0, rg_0_7, ey L, obind, oel_s, eM, ew]
            simp (disch := omega) only [zlet, obind, zI_lit, zI_neg, zI_add, zI_sub, zI_mul, zI_div, zI_le, zI_lt, zI_eq, zI_cl, irem, ile_t, ile_f, ilt_t, ilt_f, ieq_t, ieq_f, and_true, true_and, and_false, false_and, and_self, not_true_eq_false, not_false_eq_true, ↓reduceIte, Int.toNat_natCast, tqb_z, tqb_t, tqb_f, r_isIn, decide_eq_false_iff_not, decide_eq_true_eq, oel_s, oel_n, Bool.false_eq_true, btf, eq_self, or_self, or_false, false_or, or_true, true_or, iand_f, iandl_f, ior_t, ior_f]
          · obtain ⟨u, v, h1, h2, h3, h4, b, rfl, e⟩ := ref J M hJ
            refine ⟨_, ?_, P J⟩
            rw [r_fitsq (ry J M hJ) (by omega) q2 e, Sre_one hw (Sur_sre h1)]
            by_cases g : 0 ≤ u
            · simp (disch := omega) only [Sum.elim_inl, zlet, obind, zI_lit, zI_neg, zI_add, zI_sub, zI_mul, zI_div, zI_le, zI_lt, zI_eq, zI_cl, irem, ile_t, ile_f, ilt_t, ilt_f, ieq_t, ieq_f, and_true, true_and, and_false, false_and, and_self, not_true_eq_false, not_false_eq_true, ↓reduceIte, Int.toNat_natCast, tqb_z, tqb_t, tqb_f, r_isIn, decide_eq_false_iff_not, decide_eq_true_eq, oel_s, oel_n, Bool.false_eq_true, btf, eq_self, or_self, or_false, false_or, or_true, true_or, iand_f, iandl_f, ior_t, ior_f]
            · simp (disch := omega) only [Sum.elim_inl, zlet, obind, zI_lit, zI_neg, zI_add, zI_sub, zI_mul, zI_div, zI_le, zI_lt, zI_eq, zI_cl, irem, ile_t, ile_f, ilt_t, ilt_f, ieq_t, ieq_f, and_true, true_and, and_false, false_and, and_self, not_true_eq_false, not_false_eq_true, ↓reduceIte, Int.toNat_natCast, tqb_z, tqb_t, tqb_f, r_isIn, decide_eq_false_iff_not, decide_eq_true_eq, oel_s, oel_n, Bool.false_eq_true, btf, eq_self, or_self, or_false, false_or, or_true, true_or, iand_f, iandl_f, ior_t, ior_f]
        · obtain ⟨w, ew, hw⟩ := c_sureStrength (I := I) G
          refine ⟨zI w, I, M1, ?_, FP.rf, PM, fun J M hJ => ?_⟩
          · unfold FX11_fits
            simp only [rg_0_0, rg_0_7, ey L, obind, oel_s, eM, ew]
            simp (disch := omega) only [zlet, obind, zI_lit, zI_neg, zI_add, zI_sub, zI_mul, zI_div, zI_le, zI_lt, zI_eq, zI_cl, irem, ile_t, ile_f, ilt_t, ilt_f, ieq_t, ieq_f, and_true, true_and, and_false, false_and, and_self, not_true_eq_false, not_false_eq_true, ↓reduceIte, Int.toNat_natCast, tqb_z, tqb_t, tqb_f, r_isIn, decide_eq_false_iff_not, decide_eq_true_eq, oel_s, oel_n, Bool.false_eq_true, btf, eq_self, or_self, or_false, false_or, or_true, true_or, iand_f, iandl_f, ior_t, ior_f]
          · obtain ⟨u, v, h1, h2, h3, h4, b, rfl, e⟩ := ref J M hJ
            refine ⟨_, ?_, P J⟩
            rw [r_fitsq (ry J M hJ) (by omega) q2 e, Sre_one hw (Sur_sre h2)]
            by_cases g : 0 ≤ v
            · simp (disch := omega) only [Sum.elim_inl, zlet, obind, zI_lit, zI_neg, zI_add, zI_sub, zI_mul, zI_div, zI_le, zI_lt, zI_eq, zI_cl, irem, ile_t, ile_f, ilt_t, ilt_f, ieq_t, ieq_f, and_true, true_and, and_false, false_and, and_self, not_true_eq_false, not_false_eq_true, ↓reduceIte, Int.toNat_natCast, tqb_z, tqb_t, tqb_f, r_isIn, decide_eq_false_iff_not, decide_eq_true_eq, oel_s, oel_n, Bool.false_eq_true, btf, eq_self, or_self, or_false, false_or, or_true, true_or, iand_f, iandl_f, ior_t, ior_f]
            · simp (disch := omega) only [Sum.elim_inl, zlet, obind, zI_lit, zI_neg, zI_add, zI_sub, zI_mul, zI_div, zI_le, zI_lt, zI_eq, zI_cl, irem, ile_t, ile_f, ilt_t, ilt_f, ieq_t, ieq_f, and_true, true_and, and_false, false_and, and_self, not_true_eq_false, not_false_eq_true, ↓reduceIte, Int.toNat_natCast, tqb_z, tqb_t, tqb_f, r_isIn, decide_eq_false_iff_not, decide_eq_true_eq, oel_s, oel_n, Bool.false_eq_true, btf, eq_self, or_self, or_false, false_or, or_true, true_or, iand_f, iandl_f, ior_t, ior_f]
        · obtain ⟨I2, ew, FI⟩ := c_best (I := I) G
          refine ⟨zI (if fb_ct (fit n lc lh) n432 = 0 then -1 else (amin 999 (lmx (fit n lc lh)) 48).1), I2, M1, ?_, FI.fp (by unfold psl; omega), PM, fun J M hJ => ?_⟩
          · unfold FX11_fits
            simp only [rg_0_0, rg_0_7, ey L, obind, oel_s, eM, ew]
            simp (disch := omega) only [zlet, obind, zI_lit, zI_neg, zI_add, zI_sub, zI_mul, zI_div, zI_le, zI_lt, zI_eq, zI_cl, irem, ile_t, ile_f, ilt_t, ilt_f, ieq_t, ieq_f, and_true, true_and, and_false, false_and, and_self, not_true_eq_false, not_false_eq_true, ↓reduceIte, Int.toNat_natCast, tqb_z, tqb_t, tqb_f, r_isIn, decide_eq_false_iff_not, decide_eq_true_eq, oel_s, oel_n, Bool.false_eq_true, btf, eq_self, or_self, or_false, false_or, or_true, true_or, iand_f, iandl_f, ior_t, ior_f]
          · obtain ⟨u, v, h1, h2, h3, h4, b, rfl, e⟩ := ref J M hJ
            obtain ⟨K, ek, fk⟩ := r_ask (M := M) (D' J hJ) (up_s _ _ _ _) (by omega)
            by_cases g : fb_ct (fit n lc lh) n432 = 0
            · refine ⟨_, ?_, P J⟩
              rw [r_fitsq (ry J M hJ) (by omega) q2 e, if_pos g]
              simp (disch := omega) only [Sum.elim_inl, zlet, obind, zI_lit, zI_neg, zI_add, zI_sub, zI_mul, zI_div, zI_le, zI_lt, zI_eq, zI_cl, irem, ile_t, ile_f, ilt_t, ilt_f, ieq_t, ieq_f, and_true, true_and, and_false, false_and, and_self, not_true_eq_false, not_false_eq_true, ↓reduceIte, Int.toNat_natCast, tqb_z, tqb_t, tqb_f, r_isIn, decide_eq_false_iff_not, decide_eq_true_eq, oel_s, oel_n, Bool.false_eq_true, btf, eq_self, or_self, or_false, false_or, or_true, true_or, iand_f, iandl_f, ior_t, ior_f]
            · refine ⟨K, ?_, (P J).tr (fk.fp (by unfold psl; omega))⟩
              rw [r_fitsq (ry J M hJ) (by omega) q2 e, if_neg g, ek]
              simp (disch := omega) only [Sum.elim_inl, zlet, obind, zI_lit, zI_neg, zI_add, zI_sub, zI_mul, zI_div, zI_le, zI_lt, zI_eq, zI_cl, irem, ile_t, ile_f, ilt_t, ilt_f, ieq_t, ieq_f, and_true, true_and, and_false, false_and, and_self, not_true_eq_false, not_false_eq_true, ↓reduceIte, Int.toNat_natCast, tqb_z, tqb_t, tqb_f, r_isIn, decide_eq_false_iff_not, decide_eq_true_eq, oel_s, oel_n, Bool.false_eq_true, btf, eq_self, or_self, or_false, false_or, or_true, true_or, iand_f, iandl_f, ior_t, ior_f]
    · refine ⟨-2, I, M1, ?_, FP.rf, PM, fun J M hJ => ⟨_, ?_, P J⟩⟩
      · unfold FX11_fits
        simp only [rg_0_0, rg_0_7, ey L, obind, oel_s, eM]
        by_cases q3 : z < 0
        · simp (disch := omega) only [zlet, obind, zI_lit, zI_neg, zI_add, zI_sub, zI_mul, zI_div, zI_le, zI_lt, zI_eq, zI_cl, irem, ile_t, ile_f, ilt_t, ilt_f, ieq_t, ieq_f, and_true, true_and, and_false, false_and, and_self, not_true_eq_false, not_false_eq_true, ↓reduceIte, Int.toNat_natCast, tqb_z, tqb_t, tqb_f, r_isIn, decide_eq_false_iff_not, decide_eq_true_eq, oel_s, oel_n, Bool.false_eq_true, btf, eq_self, or_self, or_false, false_or, or_true, true_or, iand_f, iandl_f, ior_t, ior_f]
        · simp (disch := omega) only [zlet, obind, zI_lit, zI_neg, zI_add, zI_sub, zI_mul, zI_div, zI_le, zI_lt, zI_eq, zI_cl, irem, ile_t, ile_f, ilt_t, ilt_f, ieq_t, ieq_f, and_true, true_and, and_false, false_and, and_self, not_true_eq_false, not_false_eq_true, ↓reduceIte, Int.toNat_natCast, tqb_z, tqb_t, tqb_f, r_isIn, decide_eq_false_iff_not, decide_eq_true_eq, oel_s, oel_n, Bool.false_eq_true, btf, eq_self, or_self, or_false, false_or, or_true, true_or, iand_f, iandl_f, ior_t, ior_f]
      · unfold FX12_fits FX12_fits_j22
        rw [ry J M hJ, obind]
        dsimp only
        rw [if_neg tb1]
        by_cases q5 : z < 0
        · rw [if_pos (by rw [show (0 : Int32) = zI 0 from rfl, zI_lt (by omega) (by omega)]; omega)]
        · have n1 : ∀ J1, FX12_isIn J1 M (zI z) 4 9 = true := fun J1 => by
            simp (disch := omega) only [zlet, obind, zI_lit, zI_neg, zI_add, zI_sub, zI_mul, zI_div, zI_le, zI_lt, zI_eq, zI_cl, irem, ile_t, ile_f, ilt_t, ilt_f, ieq_t, ieq_f, and_true, true_and, and_false, false_and, and_self, not_true_eq_false, not_false_eq_true, ↓reduceIte, Int.toNat_natCast, tqb_z, tqb_t, tqb_f, r_isIn, decide_eq_false_iff_not, decide_eq_true_eq, oel_s, oel_n, Bool.false_eq_true, btf, eq_self, or_self, or_false, false_or, or_true, true_or, iand_f, iandl_f, ior_t, ior_f]
          rw [if_neg (by rw [show (0 : Int32) = zI 0 from rfl, zI_lt (by omega) (by omega)]; omega), zlet, n1, if_neg tb1]
