/-! QUERIES: hill, comes, pillars, fell. -/
theorem btf : (true = false) = False := by simp
theorem r_los {I : tq_PI} {w h l : Nat} {K : Nat → Nat} (R : RW I w h) (G : GR I w h l K) (hl : l ≤ 2) (L : tq_PL) {c : Nat} (hc : c < w * h) : ∃ J : tq_PI, FX12_taken I L 136 (zI (l : Int)) (zI (c : Int)) = some (zI (los h K (pl w c) : Nat), J) ∧ GR J w h (l + 1) (kst h (kup K (pl w c) 0)) ∧ FG (l + 1) I J := by
  obtain ⟨n, J, e, G2, F, hn⟩ := r_taken R G hl L hc
  refine ⟨J, ?_, G2, F⟩
  rw [e]
  congr 4
  unfold los
  omega
theorem los_le (h : Nat) (K : Nat → Nat) (p : Nat) : los h K p ≤ 64 := by
  have := fb_ct_le (sol (kup K p 0)) 64
  unfold los
  omega
theorem iand_f {a b c d : Int} (h : ¬ (a ≤ b ∧ c ≤ d)) : (a ≤ b ∧ c ≤ d) = False := eq_false h
theorem iandl_f {a b c d : Int} (h : ¬ (a ≤ b ∧ c < d)) : (a ≤ b ∧ c < d) = False := eq_false h
theorem ior_t {a b c d : Int} (h : a = b ∨ c = d) : (a = b ∨ c = d) = True := eq_true h
theorem ior_f {a b c d : Int} (h : ¬ (a = b ∨ c = d)) : (a = b ∨ c = d) = False := eq_false h
theorem c_isSide (I : tq_PI) (L : tq_PL) {z : Int} (hz : -2147483648 ≤ z ∧ z < 2147483648) : FX11_isSide I L (zI z) = decide (z = 0 ∨ z = 1) := by
  unfold FX11_isSide FX11_isSide_j9
  simp (disch := omega) only [zI_lit, zI_eq]
  by_cases q : z = 0
  · simp [q]
  · by_cases r : z = 1
    · simp [r]
    · simp [q, r]
theorem r_isSide (I : tq_PI) (L : tq_PL) {z : Int} (hz : -2147483648 ≤ z ∧ z < 2147483648) : FX12_isSide I L (zI z) = decide (z = 0 ∨ z = 1) := by
  unfold FX12_isSide
  simp only [zlet, zI_lit]
  rw [r_isIn _ _ hz (by omega) (by omega)]
  congr 1
  apply propext
  omega
theorem q_hill {I : tq_PI} {L : tq_PL} (V : HV I L 1 0) (x y : Int32) : ∃ v, FX11_hill I L 0 x y = some v ∧ ∀ J M, J 137 = I 137 → ∃ J2, FX12_hill J M 136 x y = some (v, J2) ∧ FP J J2 := by
  rcases hill_case V x with ⟨e, r⟩ | ⟨i, w, h, K, hi, rfl, e, H, S, r⟩
  · exact ⟨-1, by unfold FX11_hill; rw [rg_0_0, e, obind]; rfl, fun J M hJ => ⟨J, by unfold FX12_hill; rw [r J M hJ, obind]; rfl, FP.rf⟩⟩
  · obtain ⟨z, hz, rfl⟩ := zI_of y
    have h48 := wh_le H.k
    unfold FX11_hill
    simp only [rg_0_0, e, obind, oel_s, zlet, bc_eq, c_worth H, c_sto H, H.1, H.2.1]
    generalize hn : w * h = n at *
    rcases (by omega : z = 0 ∨ z = 1 ∨ z = 2 ∨ z = 3 ∨ (100 ≤ z ∧ z - 100 < (n : Int)) ∨ (z < 0 ∨ 3 < z) ∧ ¬ (100 ≤ z ∧ z - 100 < (n : Int))) with rfl | rfl | rfl | rfl | q | ⟨q1, q2⟩
    · refine ⟨zI (w : Int), by simp (disch := omega) only [zlet, obind, zI_lit, zI_neg, zI_add, zI_sub, zI_mul, zI_div, zI_le, zI_lt, zI_eq, zI_cl, irem, ile_t, ile_f, ilt_t, ilt_f, ieq_t, ieq_f, and_true, true_and, and_false, false_and, and_self, not_true_eq_false, not_false_eq_true, ↓reduceIte, Int.toNat_natCast, tqb_z, tqb_t, tqb_f, r_isIn, decide_eq_false_iff_not, decide_eq_true_eq, oel_s, oel_n, Bool.false_eq_true, btf, eq_self, or_self, or_false, false_or, or_true, true_or, iand_f, iandl_f, ior_t, ior_f], fun J M hJ => ?_⟩
      obtain ⟨J1, J2, h1, h2, R1, R2, G2, P1, P2, q12, -, qa, -, A⟩ := r J M hJ
      refine ⟨J1, ?_, P1⟩
      unfold FX12_hill
      simp (disch := omega) only [h1, q12, zlet, obind, zI_lit, zI_neg, zI_add, zI_sub, zI_mul, zI_div, zI_le, zI_lt, zI_eq, zI_cl, irem, ile_t, ile_f, ilt_t, ilt_f, ieq_t, ieq_f, and_true, true_and, and_false, false_and, and_self, not_true_eq_false, not_false_eq_true, ↓reduceIte, Int.toNat_natCast, tqb_z, tqb_t, tqb_f, r_isIn, decide_eq_false_iff_not, decide_eq_true_eq, oel_s, oel_n, Bool.false_eq_true, btf, eq_self, or_self, or_false, false_or, or_true, true_or, iand_f, iandl_f, ior_t, ior_f, g0]
      rw [show (((610 + 50 * i : Nat) : Int) + 0).toNat = 610 + 50 * i by omega, qa, A.1]
    · refine ⟨zI (h : Int), by simp (disch := omega) only [zlet, obind, zI_lit, zI_neg, zI_add, zI_sub, zI_mul, zI_div, zI_le, zI_lt, zI_eq, zI_cl, irem, ile_t, ile_f, ilt_t, ilt_f, ieq_t, ieq_f, and_true, true_and, and_false, false_and, and_self, not_true_eq_false, not_false_eq_true, ↓reduceIte, Int.toNat_natCast, tqb_z, tqb_t, tqb_f, r_isIn, decide_eq_false_iff_not, decide_eq_true_eq, oel_s, oel_n, Bool.false_eq_true, btf, eq_self, or_self, or_false, false_or, or_true, true_or, iand_f, iandl_f, ior_t, ior_f], fun J M hJ => ?_⟩
      obtain ⟨J1, J2, h1, h2, R1, R2, G2, P1, P2, q12, -, qa, -, A⟩ := r J M hJ
      refine ⟨J1, ?_, P1⟩
      unfold FX12_hill
      simp (disch := omega) only [h1, q12, zlet, obind, zI_lit, zI_neg, zI_add, zI_sub, zI_mul, zI_div, zI_le, zI_lt, zI_eq, zI_cl, irem, ile_t, ile_f, ilt_t, ilt_f, ieq_t, ieq_f, and_true, true_and, and_false, false_and, and_self, not_true_eq_false, not_false_eq_true, ↓reduceIte, Int.toNat_natCast, tqb_z, tqb_t, tqb_f, r_isIn, decide_eq_false_iff_not, decide_eq_true_eq, oel_s, oel_n, Bool.false_eq_true, btf, eq_self, or_self, or_false, false_or, or_true, true_or, iand_f, iandl_f, ior_t, ior_f, g0]
      rw [show (((610 + 50 * i : Nat) : Int) + 1).toNat = 611 + 50 * i by omega, qa, A.2.1]
    · refine ⟨zI (fb_ct (sto K) 64 : Nat), by simp (disch := omega) only [zlet, obind, zI_lit, zI_neg, zI_add, zI_sub, zI_mul, zI_div, zI_le, zI_lt, zI_eq, zI_cl, irem, ile_t, ile_f, ilt_t, ilt_f, ieq_t, ieq_f, and_true, true_and, and_false, false_and, and_self, not_true_eq_false, not_false_eq_true, ↓reduceIte, Int.toNat_natCast, tqb_z, tqb_t, tqb_f, r_isIn, decide_eq_false_iff_not, decide_eq_true_eq, oel_s, oel_n, Bool.false_eq_true, btf, eq_self, or_self, or_false, false_or, or_true, true_or, iand_f, iandl_f, ior_t, ior_f], fun J M hJ => ?_⟩
      obtain ⟨J1, J2, h1, h2, R1, R2, G2, P1, P2, -⟩ := r J M hJ
      refine ⟨J2, ?_, P2⟩
      have s := r_stones R2 G2 (by omega) M false
      have s' : FX12_stones J2 M 136 (zI 0) (zI 0) = some (zI (fb_ct (sto K) 64 : Nat)) := s
      unfold FX12_hill FX12_hill_j56
      simp (disch := omega) only [h1, h2, zlet, obind, zI_lit, zI_neg, zI_add, zI_sub, zI_mul, zI_div, zI_le, zI_lt, zI_eq, zI_cl, irem, ile_t, ile_f, ilt_t, ilt_f, ieq_t, ieq_f, and_true, true_and, and_false, false_and, and_self, not_true_eq_false, not_false_eq_true, ↓reduceIte, Int.toNat_natCast, tqb_z, tqb_t, tqb_f, r_isIn, decide_eq_false_iff_not, decide_eq_true_eq, oel_s, oel_n, Bool.false_eq_true, btf, eq_self, or_self, or_false, false_or, or_true, true_or, iand_f, iandl_f, ior_t, ior_f, s']
    · refine ⟨zI (ws wor K (sto K) : Nat), by simp (disch := omega) only [zlet, obind, zI_lit, zI_neg, zI_add, zI_sub, zI_mul, zI_div, zI_le, zI_lt, zI_eq, zI_cl, irem, ile_t, ile_f, ilt_t, ilt_f, ieq_t, ieq_f, and_true, true_and, and_false, false_and, and_self, not_true_eq_false, not_false_eq_true, ↓reduceIte, Int.toNat_natCast, tqb_z, tqb_t, tqb_f, r_isIn, decide_eq_false_iff_not, decide_eq_true_eq, oel_s, oel_n, Bool.false_eq_true, btf, eq_self, or_self, or_false, false_or, or_true, true_or, iand_f, iandl_f, ior_t, ior_f], fun J M hJ => ?_⟩
      obtain ⟨J1, J2, h1, h2, R1, R2, G2, P1, P2, -⟩ := r J M hJ
      refine ⟨J2, ?_, P2⟩
      have s := r_stones R2 G2 (by omega) M true
      have s' : FX12_stones J2 M 136 (zI 0) (zI 1) = some (zI (ws wor K (sto K) : Nat)) := s
      unfold FX12_hill FX12_hill_j56
      simp (disch := omega) only [h1, h2, zlet, obind, zI_lit, zI_neg, zI_add, zI_sub, zI_mul, zI_div, zI_le, zI_lt, zI_eq, zI_cl, irem, ile_t, ile_f, ilt_t, ilt_f, ieq_t, ieq_f, and_true, true_and, and_false, false_and, and_self, not_true_eq_false, not_false_eq_true, ↓reduceIte, Int.toNat_natCast, tqb_z, tqb_t, tqb_f, r_isIn, decide_eq_false_iff_not, decide_eq_true_eq, oel_s, oel_n, Bool.false_eq_true, btf, eq_self, or_self, or_false, false_or, or_true, true_or, iand_f, iandl_f, ior_t, ior_f, s']
    · obtain ⟨c, hc⟩ : ∃ c : Nat, z - 100 = c := ⟨(z - 100).toNat, by omega⟩
      subst hn
      have kk := c_kindOf_t H (c := c) (by omega)
      refine ⟨zI (K (pl w c) : Nat), by simp (disch := omega) only [zlet, obind, zI_lit, zI_neg, zI_add, zI_sub, zI_mul, zI_div, zI_le, zI_lt, zI_eq, zI_cl, irem, ile_t, ile_f, ilt_t, ilt_f, ieq_t, ieq_f, and_true, true_and, and_false, false_and, and_self, not_true_eq_false, not_false_eq_true, ↓reduceIte, Int.toNat_natCast, tqb_z, tqb_t, tqb_f, r_isIn, decide_eq_false_iff_not, decide_eq_true_eq, oel_s, oel_n, Bool.false_eq_true, btf, eq_self, or_self, or_false, false_or, or_true, true_or, iand_f, iandl_f, ior_t, ior_f, hc, kk], fun J M hJ => ?_⟩
      obtain ⟨J1, J2, h1, h2, R1, R2, G2, P1, P2, -⟩ := r J M hJ
      refine ⟨J2, ?_, P2⟩
      have s := r_kind R2.2.2 G2 (by omega) M (z := (c : Int)) (by omega)
      have s' : FX12_kindOf J2 M 136 (zI 0) (zI (c : Int)) = some (zI (K (pl w c) : Nat)) := s
      have ic := r_isCell R2 M (z := (c : Int)) (by omega)
      unfold FX12_hill
      simp (disch := omega) only [h1, h2, zlet, obind, zI_lit, zI_neg, zI_add, zI_sub, zI_mul, zI_div, zI_le, zI_lt, zI_eq, zI_cl, irem, ile_t, ile_f, ilt_t, ilt_f, ieq_t, ieq_f, and_true, true_and, and_false, false_and, and_self, not_true_eq_false, not_false_eq_true, ↓reduceIte, Int.toNat_natCast, tqb_z, tqb_t, tqb_f, r_isIn, decide_eq_false_iff_not, decide_eq_true_eq, oel_s, oel_n, Bool.false_eq_true, btf, eq_self, or_self, or_false, false_or, or_true, true_or, iand_f, iandl_f, ior_t, ior_f, hc, ic, s']
    · subst hn
      refine ⟨-1, ?_, fun J M hJ => ?_⟩
      · by_cases q3 : 100 ≤ z
        · have kk := c_kindOf_f H (z := z - 100) (by omega) (by omega)
          simp (disch := omega) only [zlet, obind, zI_lit, zI_neg, zI_add, zI_sub, zI_mul, zI_div, zI_le, zI_lt, zI_eq, zI_cl, irem, ile_t, ile_f, ilt_t, ilt_f, ieq_t, ieq_f, and_true, true_and, and_false, false_and, and_self, not_true_eq_false, not_false_eq_true, ↓reduceIte, Int.toNat_natCast, tqb_z, tqb_t, tqb_f, r_isIn, decide_eq_false_iff_not, decide_eq_true_eq, oel_s, oel_n, Bool.false_eq_true, btf, eq_self, or_self, or_false, false_or, or_true, true_or, iand_f, iandl_f, ior_t, ior_f, kk]
        · simp (disch := omega) only [zlet, obind, zI_lit, zI_neg, zI_add, zI_sub, zI_mul, zI_div, zI_le, zI_lt, zI_eq, zI_cl, irem, ile_t, ile_f, ilt_t, ilt_f, ieq_t, ieq_f, and_true, true_and, and_false, false_and, and_self, not_true_eq_false, not_false_eq_true, ↓reduceIte, Int.toNat_natCast, tqb_z, tqb_t, tqb_f, r_isIn, decide_eq_false_iff_not, decide_eq_true_eq, oel_s, oel_n, Bool.false_eq_true, btf, eq_self, or_self, or_false, false_or, or_true, true_or, iand_f, iandl_f, ior_t, ior_f]
      · obtain ⟨J1, J2, h1, h2, R1, R2, G2, P1, P2, -⟩ := r J M hJ
        refine ⟨J2, ?_, P2⟩
        unfold FX12_hill FX12_hill_j89
        by_cases q3 : 100 ≤ z
        · have ic := r_isCell R2 M (z := z - 100) (by omega)
          simp (disch := omega) only [h1, h2, zlet, obind, zI_lit, zI_neg, zI_add, zI_sub, zI_mul, zI_div, zI_le, zI_lt, zI_eq, zI_cl, irem, ile_t, ile_f, ilt_t, ilt_f, ieq_t, ieq_f, and_true, true_and, and_false, false_and, and_self, not_true_eq_false, not_false_eq_true, ↓reduceIte, Int.toNat_natCast, tqb_z, tqb_t, tqb_f, r_isIn, decide_eq_false_iff_not, decide_eq_true_eq, oel_s, oel_n, Bool.false_eq_true, btf, eq_self, or_self, or_false, false_or, or_true, true_or, iand_f, iandl_f, ior_t, ior_f, ic]
        · simp (disch := omega) only [h1, h2, zlet, obind, zI_lit, zI_neg, zI_add, zI_sub, zI_mul, zI_div, zI_le, zI_lt, zI_eq, zI_cl, irem, ile_t, ile_f, ilt_t, ilt_f, ieq_t, ieq_f, and_true, true_and, and_false, false_and, and_self, not_true_eq_false, not_false_eq_true, ↓reduceIte, Int.toNat_natCast, tqb_z, tqb_t, tqb_f, r_isIn, decide_eq_false_iff_not, decide_eq_true_eq, oel_s, oel_n, Bool.false_eq_true, btf, eq_self, or_self, or_false, false_or, or_true, true_or, iand_f, iandl_f, ior_t, ior_f]
theorem q_comes {I : tq_PI} {L : tq_PL} (V : HV I L 1 0) (x y u : Int32) : ∃ v, FX11_comes I L 0 x y u = some v ∧ ∀ J M, J 137 = I 137 → ∃ J2, FX12_comes J M 136 x y u = some (v, J2) ∧ FP J J2 := by
  rcases hill_case V x with ⟨e, r⟩ | ⟨i, w, h, K, hi, rfl, e, H, S, r⟩
  · exact ⟨-1, by unfold FX11_comes; rw [rg_0_0, e, obind]; rfl, fun J M hJ => ⟨J, by unfold FX12_comes; rw [r J M hJ, obind]; rfl, FP.rf⟩⟩
  · obtain ⟨z, hz, rfl⟩ := zI_of y
    obtain ⟨t, ht, rfl⟩ := zI_of u
    have h48 := wh_le H.k
    by_cases sd : z = 0 ∨ z = 1
    · obtain ⟨s, rfl⟩ : ∃ s : Nat, z = s := ⟨z.toNat, by omega⟩
      have hs : s < 2 := by omega
      by_cases q : 0 ≤ t ∧ t < ((w * h : Nat) : Int)
      · obtain ⟨c, rfl⟩ : ∃ c : Nat, t = c := ⟨t.toNat, by omega⟩
        obtain ⟨y, e1, hy⟩ := c_bitOf_t H (c := c) (by omega)
        obtain ⟨f, e2, hf⟩ := c_few H hs (c_sol H) (sb_rf K) H.z hy
        refine ⟨zI f, ?_, fun J M hJ => ?_⟩
        · unfold FX11_comes
          simp (disch := omega) only [rg_0_0, e, c_isSide, zlet, obind, zI_lit, zI_neg, zI_add, zI_sub, zI_mul, zI_div, zI_le, zI_lt, zI_eq, zI_cl, irem, ile_t, ile_f, ilt_t, ilt_f, ieq_t, ieq_f, and_true, true_and, and_false, false_and, and_self, not_true_eq_false, not_false_eq_true, ↓reduceIte, Int.toNat_natCast, tqb_z, tqb_t, tqb_f, r_isIn, decide_eq_false_iff_not, decide_eq_true_eq, oel_s, oel_n, Bool.false_eq_true, btf, eq_self, or_self, or_false, false_or, or_true, true_or, iand_f, iandl_f, ior_t, ior_f, e1, e2]
        · obtain ⟨J1, J2, h1, h2, R1, R2, G2, P1, P2, -⟩ := r J M hJ
          obtain ⟨J3, D, e3, F3, M3, d3⟩ := r_lays (s := s) R2 G2 (by omega) M hs
          have e3' : FX12_laysWays J2 M 136 (zI 0) (zI (s : Int)) = some J3 := e3
          refine ⟨J3, ?_, P2.tr (F3.fp (by unfold psl; omega))⟩
          have md := M3.1 c (by omega)
          have mle := M3.2.1 (pl w c)
          have ff := Few_of d3 (G := fun q => decide (q = pl w c)) (v := D (pl w c)) (Or.inr ⟨pl w c, by simp, rfl⟩) (fun p hp => by simp only [decide_eq_true_eq] at hp; rw [hp]; exact Nat.le_refl _) mle
          rw [Few_one hf ff]
          unfold FX12_comes
          simp (disch := omega) only [h1, h2, r_isSide, r_isCell R1, e3', g17, md, zlet, obind, zI_lit, zI_neg, zI_add, zI_sub, zI_mul, zI_div, zI_le, zI_lt, zI_eq, zI_cl, irem, ile_t, ile_f, ilt_t, ilt_f, ieq_t, ieq_f, and_true, true_and, and_false, false_and, and_self, not_true_eq_false, not_false_eq_true, ↓reduceIte, Int.toNat_natCast, tqb_z, tqb_t, tqb_f, r_isIn, decide_eq_false_iff_not, decide_eq_true_eq, oel_s, oel_n, Bool.false_eq_true, btf, eq_self, or_self, or_false, false_or, or_true, true_or, iand_f, iandl_f, ior_t, ior_f]
          by_cases q9 : D (pl w c) = 99999
          · simp (disch := omega) only [zlet, obind, zI_lit, zI_neg, zI_add, zI_sub, zI_mul, zI_div, zI_le, zI_lt, zI_eq, zI_cl, irem, ile_t, ile_f, ilt_t, ilt_f, ieq_t, ieq_f, and_true, true_and, and_false, false_and, and_self, not_true_eq_false, not_false_eq_true, ↓reduceIte, Int.toNat_natCast, tqb_z, tqb_t, tqb_f, r_isIn, decide_eq_false_iff_not, decide_eq_true_eq, oel_s, oel_n, Bool.false_eq_true, btf, eq_self, or_self, or_false, false_or, or_true, true_or, iand_f, iandl_f, ior_t, ior_f]
            simp [q9]
          · simp (disch := omega) only [zlet, obind, zI_lit, zI_neg, zI_add, zI_sub, zI_mul, zI_div, zI_le, zI_lt, zI_eq, zI_cl, irem, ile_t, ile_f, ilt_t, ilt_f, ieq_t, ieq_f, and_true, true_and, and_false, false_and, and_self, not_true_eq_false, not_false_eq_true, ↓reduceIte, Int.toNat_natCast, tqb_z, tqb_t, tqb_f, r_isIn, decide_eq_false_iff_not, decide_eq_true_eq, oel_s, oel_n, Bool.false_eq_true, btf, eq_self, or_self, or_false, false_or, or_true, true_or, iand_f, iandl_f, ior_t, ior_f]
            simp [q9]
      · have e1 := c_bitOf_f H ht q
        obtain ⟨f, e2, hf⟩ := c_few H hs (g := 0) (c_sol H) (sb_rf K) H.z rfl
        have f1 : f = -1 := by
          rcases hf with ⟨t2, _, _, ⟨p, n, g, _⟩, _⟩ | ⟨e3, _⟩
          · rw [bb_0] at g; cases g
          · exact e3
        refine ⟨-1, ?_, fun J M hJ => ?_⟩
        · unfold FX11_comes
          simp (disch := omega) only [rg_0_0, e, c_isSide, zlet, obind, zI_lit, zI_neg, zI_add, zI_sub, zI_mul, zI_div, zI_le, zI_lt, zI_eq, zI_cl, irem, ile_t, ile_f, ilt_t, ilt_f, ieq_t, ieq_f, and_true, true_and, and_false, false_and, and_self, not_true_eq_false, not_false_eq_true, ↓reduceIte, Int.toNat_natCast, tqb_z, tqb_t, tqb_f, r_isIn, decide_eq_false_iff_not, decide_eq_true_eq, oel_s, oel_n, Bool.false_eq_true, btf, eq_self, or_self, or_false, false_or, or_true, true_or, iand_f, iandl_f, ior_t, ior_f, e1, e2, f1]
        · obtain ⟨J1, J2, h1, h2, R1, R2, G2, P1, P2, -⟩ := r J M hJ
          refine ⟨J1, ?_, P1⟩
          unfold FX12_comes FX12_comes_j23
          simp (disch := omega) only [h1, r_isSide, r_isCell R1, zlet, obind, zI_lit, zI_neg, zI_add, zI_sub, zI_mul, zI_div, zI_le, zI_lt, zI_eq, zI_cl, irem, ile_t, ile_f, ilt_t, ilt_f, ieq_t, ieq_f, and_true, true_and, and_false, false_and, and_self, not_true_eq_false, not_false_eq_true, ↓reduceIte, Int.toNat_natCast, tqb_z, tqb_t, tqb_f, r_isIn, decide_eq_false_iff_not, decide_eq_true_eq, oel_s, oel_n, Bool.false_eq_true, btf, eq_self, or_self, or_false, false_or, or_true, true_or, iand_f, iandl_f, ior_t, ior_f]
    · refine ⟨-1, ?_, fun J M hJ => ?_⟩
      · unfold FX11_comes FX11_comes_j22
        simp (disch := omega) only [rg_0_0, e, c_isSide, zlet, obind, zI_lit, zI_neg, zI_add, zI_sub, zI_mul, zI_div, zI_le, zI_lt, zI_eq, zI_cl, irem, ile_t, ile_f, ilt_t, ilt_f, ieq_t, ieq_f, and_true, true_and, and_false, false_and, and_self, not_true_eq_false, not_false_eq_true, ↓reduceIte, Int.toNat_natCast, tqb_z, tqb_t, tqb_f, r_isIn, decide_eq_false_iff_not, decide_eq_true_eq, oel_s, oel_n, Bool.false_eq_true, btf, eq_self, or_self, or_false, false_or, or_true, true_or, iand_f, iandl_f, ior_t, ior_f]
      · obtain ⟨J1, J2, h1, h2, R1, R2, G2, P1, P2, -⟩ := r J M hJ
        refine ⟨J1, ?_, P1⟩
        unfold FX12_comes FX12_comes_j23
        simp (disch := omega) only [h1, r_isSide, zlet, obind, zI_lit, zI_neg, zI_add, zI_sub, zI_mul, zI_div, zI_le, zI_lt, zI_eq, zI_cl, irem, ile_t, ile_f, ilt_t, ilt_f, ieq_t, ieq_f, and_true, true_and, and_false, false_and, and_self, not_true_eq_false, not_false_eq_true, ↓reduceIte, Int.toNat_natCast, tqb_z, tqb_t, tqb_f, r_isIn, decide_eq_false_iff_not, decide_eq_true_eq, oel_s, oel_n, Bool.false_eq_true, btf, eq_self, or_self, or_false, false_or, or_true, true_or, iand_f, iandl_f, ior_t, ior_f]
