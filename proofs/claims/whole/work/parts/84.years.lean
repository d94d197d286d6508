/-! YEARS: the query after, by the reference. -/
section AG
variable {w h o m : Nat} {K : Nat → Nat} {yk yf ys : Nat → Nat}
theorem r_afters {J J0 : tq_PI} {M : tq_PL} (P0 : FP J J0) (h19 : J0 136 19 = zI (o : Int)) (ho : o + 121 ≤ 4016) {I : tq_PI} {y : Nat} (D : YD I y (J 137) o m yk yf ys) (S0 : SR J0 w h (K, z6)) (u : Int32) : ∃ J2, tq_it (fun p : Int32 × Int32 × Int32 × Int32 × tq_PI => FX12_after_s56 p.2.2.2.2 M 136 u p.1 p.2.1 p.2.2.1 p.2.2.2.1) tq_N (zI (rve w h yk yf ys (K, z6) 0).1, zI (-1), zI ((0 : Nat) : Int), zI ((0 : Nat) : Int), J0) = some (zI (rve w h yk yf ys (K, z6) m).1, zI (rve w h yk yf ys (K, z6) m).2.1, zI ((rve w h yk yf ys (K, z6) m).2.2 : Nat), J2) ∧ FP J J2 := by
  have hm := D.1
  have hyk : ∀ k, k < m → yk k ≤ 3 := fun k hk => (D.2.2.2 k hk).1
  obtain ⟨⟨v1, v2, v3, v4⟩, e, h1, h2, h3, P⟩ := it_for (f := fun p : Int32 × Int32 × Int32 × Int32 × tq_PI => FX12_after_s56 p.2.2.2.2 M 136 u p.1 p.2.1 p.2.2.1 p.2.2.2.1) (fun k (s : Int32 × Int32 × Int32 × tq_PI) => (s.1, s.2.1, s.2.2.1, zI (k : Int), s.2.2.2)) m (fun k s => s.1 = zI (rve w h yk yf ys (K, z6) k).1 ∧ s.2.1 = zI (rve w h yk yf ys (K, z6) k).2.1 ∧ s.2.2.1 = zI ((rve w h yk yf ys (K, z6) k).2.2 : Nat) ∧ FP J s.2.2.2 ∧ s.2.2.2 136 19 = zI (o : Int) ∧ (drn w h yk yf ys (K, z6) k).1 = k ∧ SR s.2.2.2 w h (drn w h yk yf ys (K, z6) k).2) (Post := fun s => s.1 = zI (rve w h yk yf ys (K, z6) m).1 ∧ s.2.1 = zI (rve w h yk yf ys (K, z6) m).2.1 ∧ s.2.2.1 = zI ((rve w h yk yf ys (K, z6) m).2.2 : Nat) ∧ FP J s.2.2.2) (fun k s hk hs => by
    obtain ⟨a, b, c, J1⟩ := s
    obtain ⟨s1, s2, s3, s4, s5, s6, s7⟩ := hs
    dsimp only at s1 s2 s3 s4 s5 s7 ⊢
    subst s1 s2 s3
    have a137 : J1 137 = J 137 := s4.a
    have hmo : J1 137 o = zI (m : Int) := by rw [a137]; exact D.2.2.1
    have ml := rve_most w h yk yf ys K hyk k (by omega)
    have ll := drn_lost w h yk yf ys K hyk k (by omega)
    have el := rve_eye (w := w) (h := h) (K := K) (yk := yk) (yf := yf) (ys := ys) k
    obtain ⟨J5, e5, F5, S5⟩ := r_told (yk := yk) (yf := yf) (ys := ys) (I := I) (y := y) (m := m) s7 M (by rw [a137]; exact D) s5 ho (k := k) hk
    have h22 : J1 136 22 = zI ((drn w h yk yf ys (K, z6) k).2.2 4 : Nat) := s7.2.2.2.1
    unfold FX12_after_s56
    simp (disch := omega) only [zlet, obind, zI_lit, zI_neg, zI_add, zI_sub, zI_mul, zI_div, zI_le, zI_lt, zI_eq, zI_cl, irem, ile_t, ile_f, ilt_t, ilt_f, ieq_t, ieq_f, and_true, true_and, and_false, false_and, and_self, not_true_eq_false, not_false_eq_true, ↓reduceIte, Int.toNat_natCast, tqb_z, tqb_t, tqb_f, s5, g0, hmo, e5]
    cases qt : tld w h (yk k) (yf k) (ys k) (drn w h yk yf ys (K, z6) k).2 with
    | none =>
      have st := rve_stop s6 qt m (by omega)
      simp only [Option.isSome_none, if_true]
      exact Or.inr ⟨_, rfl, by rw [st], by rw [st], by rw [st], s4.tr F5.fp⟩
    | some x2 =>
      rw [qt] at S5
      have tl := tld_lost (hyk k hk) qt
      simp only [Option.isSome_some, Bool.true_eq_false, if_false]
      have nx : (drn w h yk yf ys (K, z6) (k + 1)).1 = k + 1 ∧ (drn w h yk yf ys (K, z6) (k + 1)).2 = x2 := by rw [drn_s, if_pos s6, qt]; exact ⟨rfl, rfl⟩
      have rv : rve w h yk yf ys (K, z6) (k + 1) = rvs w h k (drn w h yk yf ys (K, z6) k).2 x2 (rve w h yk yf ys (K, z6) k) := by
        rw [rve_s, if_pos ⟨s6, by rw [qt]; rfl⟩, nx.2]
      have S5' : SR J5 w h x2 := S5
      have h19' : J5 136 19 = zI (o : Int) := by rw [F5.2 19 (by omega) (by omega)]; exact s5
      have fin : ∀ (J6 : tq_PI) (y : Int), FP J J6 → J6 136 19 = zI (o : Int) → SR J6 w h x2 → y = (rvs w h k (drn w h yk yf ys (K, z6) k).2 x2 (rve w h yk yf ys (K, z6) k)).1 → (∃ s2 : Int32 × Int32 × Int32 × tq_PI, FX12_after_j108L56 J6 M 136 u (zI y) (zI (rve w h yk yf ys (K, z6) k).2.1) (zI ((rve w h yk yf ys (K, z6) k).2.2 : Nat)) (zI (k : Int)) (J1 136 22) = some (.inl (s2.1, s2.2.1, s2.2.2.1, zI ((k + 1 : Nat) : Int), s2.2.2.2)) ∧ s2.1 = zI (rve w h yk yf ys (K, z6) (k + 1)).1 ∧ s2.2.1 = zI (rve w h yk yf ys (K, z6) (k + 1)).2.1 ∧ s2.2.2.1 = zI ((rve w h yk yf ys (K, z6) (k + 1)).2.2 : Nat) ∧ FP J s2.2.2.2 ∧ s2.2.2.2 136 19 = zI (o : Int) ∧ (drn w h yk yf ys (K, z6) (k + 1)).1 = k + 1 ∧ SR s2.2.2.2 w h (drn w h yk yf ys (K, z6) (k + 1)).2) := fun J6 y p6 q6 S6 hy => by
        have l6 : J6 136 22 = zI (x2.2 4 : Nat) := S6.2.2.2.1
        unfold FX12_after_j108L56 FX12_after_j136L56
        simp (disch := omega) only [zlet, obind, zI_lit, zI_neg, zI_add, zI_sub, zI_mul, zI_div, zI_le, zI_lt, zI_eq, zI_cl, irem, ile_t, ile_f, ilt_t, ilt_f, ieq_t, ieq_f, and_true, true_and, and_false, false_and, and_self, not_true_eq_false, not_false_eq_true, ↓reduceIte, Int.toNat_natCast, tqb_z, tqb_t, tqb_f, l6, h22]
        rw [rv, nx.2]
        by_cases qd : (rve w h yk yf ys (K, z6) k).2.2 < x2.2 4 - (drn w h yk yf ys (K, z6) k).2.2 4
        · rw [if_pos (by omega)]
          refine ⟨(zI y, zI (k : Int), zI ((x2.2 4 : Nat) - ((drn w h yk yf ys (K, z6) k).2.2 4 : Nat)), J6), rfl, by rw [hy], ?_, ?_, p6, q6, nx.1, S6⟩
          · unfold rvs; dsimp only; rw [if_pos qd]
          · unfold rvs; dsimp only; rw [if_pos qd]; congr 1; omega
        · rw [if_neg (by omega)]
          refine ⟨(zI y, zI (rve w h yk yf ys (K, z6) k).2.1, zI ((rve w h yk yf ys (K, z6) k).2.2 : Nat), J6), rfl, by rw [hy], ?_, ?_, p6, q6, nx.1, S6⟩
          · unfold rvs; dsimp only; rw [if_neg qd]
          · unfold rvs; dsimp only; rw [if_neg qd]
      by_cases qe : (rve w h yk yf ys (K, z6) k).1 = -1
      · rw [if_pos qe]
        obtain ⟨J6, r2, e6, F6, fr2⟩ := r_thick S5'.1 S5'.2.1 (by omega) M
        have e6' : FX12_thickOf J5 M 136 (zI 0) = some (zI r2, J6) := e6
        have th2 := thk_eq fr2
        have rr := Few_rng fr2
        have S6 := S5'.fc F6 (by omega)
        have q6 : J6 136 19 = zI (o : Int) := by rw [F6 136 (by omega)]; exact h19'
        have p6 : FP J J6 := (s4.tr F5.fp).tr (F6.fp (by unfold psl; omega))
        simp (disch := omega) only [e6', obind, zI_eq]
        by_cases q0 : r2 = 0
        · rw [if_pos q0]
          refine Or.inl (fin J6 ((k : Int) + 1) p6 q6 S6 ?_)
          unfold rvs
          dsimp only
          rw [if_pos ⟨qe, by rw [th2, q0]⟩]
        · rw [if_neg q0]
          refine Or.inl (fin J6 _ p6 q6 S6 ?_)
          unfold rvs
          dsimp only
          rw [if_neg (by rw [th2]; omega)]
      · rw [if_neg qe]
        refine Or.inl (fin J5 _ (s4.tr F5.fp) h19' S5' ?_)
        unfold rvs
        dsimp only
        rw [if_neg (by omega)]) (fun s hs => by
    obtain ⟨s1, s2, s3, s4, s5, s6, s7⟩ := hs
    have hmo : s.2.2.2 137 o = zI (m : Int) := by rw [s4.a]; exact D.2.2.1
    unfold FX12_after_s56
    simp (disch := omega) only [zlet, obind, zI_lit, zI_neg, zI_add, zI_sub, zI_mul, zI_div, zI_le, zI_lt, zI_eq, zI_cl, irem, ile_t, ile_f, ilt_t, ilt_f, ieq_t, ieq_f, and_true, true_and, and_false, false_and, and_self, not_true_eq_false, not_false_eq_true, ↓reduceIte, Int.toNat_natCast, tqb_z, tqb_t, tqb_f, s5, g0, hmo]
    exact ⟨_, rfl, s1, s2, s3, s4⟩) 0 (zI (rve w h yk yf ys (K, z6) 0).1, zI (-1), zI ((0 : Nat) : Int), J0) (by omega) (by omega) ⟨rfl, rfl, rfl, P0, h19, rfl, S0⟩
  dsimp only at h1 h2 h3 P
  subst h1 h2 h3
  exact ⟨v4, e, P⟩
end AG
theorem q_after {I : tq_PI} {L : tq_PL} (V : HV I L 1 0) (Y : YV I 1 0) (x y u : Int32) : ∃ v I2 L2, FX11_after I L 0 x y u = some (v, I2, L2) ∧ FP I I2 ∧ FP L L2 ∧ ∀ J M, J 137 = I 137 → ∃ J2, FX12_after J M 136 x y u = some (v, J2) ∧ FP J J2 := by
  rcases hill_case V x with ⟨e, r⟩ | ⟨i, w, h, K, hi, rfl, e, H, S, r⟩
  · refine ⟨-2, I, L, ?_, FP.rf, FP.rf, fun J M hJ => ⟨J, by unfold FX12_after; rw [r J M hJ, obind]; rfl, FP.rf⟩⟩
    unfold FX11_after FX11_after_j39
    simp only [rg_0_0, e, obind, oel_n]
    rcases year_case Y y with q | ⟨j, n, yk, yf, ys, hj, rfl, ey, D, ry⟩
    · rw [(q L).1, obind, oel_n]
    · rw [ey L, obind, oel_s]
  · rcases year_case Y y with q | ⟨j, n, yk, yf, ys, hj, rfl, ey, D, ry⟩
    · refine ⟨-2, I, L, ?_, FP.rf, FP.rf, fun J M hJ => ?_⟩
      · unfold FX11_after FX11_after_j39
        simp only [rg_0_0, e, obind, oel_s, (q L).1, oel_n]
      · obtain ⟨J1, J2, h1, h2, R1, R2, G2, P1, P2, -, -, qa, -⟩ := r J M hJ
        refine ⟨J1, ?_, P1⟩
        unfold FX12_after FX12_after_j25
        simp (disch := omega) only [h1, (q L).2 J1 M (by rw [qa]; exact hJ), zlet, obind, zI_lit, zI_neg, zI_add, zI_sub, zI_mul, zI_div, zI_le, zI_lt, zI_eq, zI_cl, irem, ile_t, ile_f, ilt_t, ilt_f, ieq_t, ieq_f, and_true, true_and, and_false, false_and, and_self, not_true_eq_false, not_false_eq_true, ↓reduceIte, Int.toNat_natCast, tqb_z, tqb_t, tqb_f, r_isIn, decide_eq_false_iff_not, decide_eq_true_eq, oel_s, oel_n, Bool.false_eq_true, btf, eq_self, or_self, or_false, false_or, or_true, true_or, iand_f, iandl_f, ior_t, ior_f]
    · obtain ⟨z, hz, rfl⟩ := zI_of u
      by_cases q1 : 0 ≤ z ∧ z ≤ 2
      · obtain ⟨I2, L2, e2, p1, p2, c7, c8, c9⟩ := c_review H (by omega) (by omega) hj D
        have run : ∀ J M, J 137 = I 137 → ∃ J5, FP J J5 ∧ FX12_after J M 136 (zI (i : Int)) (zI (j : Int)) (zI z) = (if zI z = zI 0 then some (zI (rve w h yk yf ys (K, z6) n).1, J5) else if zI z = zI 1 then some (zI (rve w h yk yf ys (K, z6) n).2.1, J5) else some (zI ((rve w h yk yf ys (K, z6) n).2.2 : Nat), J5)) := fun J M hJ => by
          obtain ⟨J1, J2, J3, h1, h2, h3, R3, G3, P1, P2, P3, h19, R1, q2⟩ := r_hy (o := 710 + 121 * j) hi H.le H.z (r J M hJ) (fun J1 q => ry J1 M (by rw [q]; exact hJ))
          obtain ⟨J4, e4, R4, G4, P4, z4, l4, k4, n4, f4⟩ := r_begins h3 R3 G3
          have S4 : SR J4 w h (K, z6) := ⟨R4, G4, fun s hs => z4 s hs, l4, k4⟩
          obtain ⟨J6, r2, e6, F6, fr2⟩ := r_thick R4 G4 (by omega) M
          have e6' : FX12_thickOf J4 M 136 (zI 0) = some (zI r2, J6) := e6
          have th2 := thk_eq fr2
          have rr := Few_rng fr2
          have S6 := S4.fc F6 (by omega)
          obtain ⟨J5, e5, P5⟩ := r_afters (M := M) ((P3.tr P4).tr (F6.fp (by unfold psl; omega))) (by rw [F6 136 (by omega), f4 19 (by omega)]; exact h19) (by omega) (by rw [hJ]; exact D) S6 (zI z)
          have e0 : (rve w h yk yf ys (K, z6) 0).1 = if r2 = 0 then 0 else -1 := by
            show (if thk w h (K, z6).1 = 0 then (0 : Int) else -1) = _
            rw [th2]
          refine ⟨J5, P5, ?_⟩
          have jj : ∀ b0 : Int, b0 = (rve w h yk yf ys (K, z6) 0).1 → FX12_after_j45 J6 M 136 (zI z) (zI b0) = (if zI z = zI 0 then some (zI (rve w h yk yf ys (K, z6) n).1, J5) else if zI z = zI 1 then some (zI (rve w h yk yf ys (K, z6) n).2.1, J5) else some (zI ((rve w h yk yf ys (K, z6) n).2.2 : Nat), J5)) := fun b0 hb => by
            subst hb
            unfold FX12_after_j45
            simp only [zI_lit, zI_neg]
            exact (congrArg (fun o => Option.bind o _) e5).trans (obind _ _)
          unfold FX12_after
          simp (disch := omega) only [h1, h2, e4, e6', zlet, obind, zI_lit, zI_neg, zI_add, zI_sub, zI_mul, zI_div, zI_le, zI_lt, zI_eq, zI_cl, irem, ile_t, ile_f, ilt_t, ilt_f, ieq_t, ieq_f, and_true, true_and, and_false, false_and, and_self, not_true_eq_false, not_false_eq_true, ↓reduceIte, Int.toNat_natCast, tqb_z, tqb_t, tqb_f, r_isIn, decide_eq_false_iff_not, decide_eq_true_eq, oel_s, oel_n, Bool.false_eq_true, btf, eq_self, or_self, or_false, false_or, or_true, true_or, iand_f, iandl_f, ior_t, ior_f]
          by_cases q0 : r2 = 0
          · rw [if_pos q0]
            have := jj 0 (by rw [e0, if_pos q0])
            simpa (disch := omega) only [zI_eq] using this
          · rw [if_neg q0]
            have := jj (-1) (by rw [e0, if_neg q0])
            simpa (disch := omega) only [zI_eq] using this
        rcases (by omega : z = 0 ∨ z = 1 ∨ z = 2) with rfl | rfl | rfl
        · refine ⟨zI (rve w h yk yf ys (K, z6) n).1, I2, L2, ?_, p1, p2, fun J M hJ => ?_⟩
          · unfold FX11_after
            simp (disch := omega) only [rg_0_0, rg_0_4, e, ey L, e2, c7, zlet, obind, zI_lit, zI_neg, zI_add, zI_sub, zI_mul, zI_div, zI_le, zI_lt, zI_eq, zI_cl, irem, ile_t, ile_f, ilt_t, ilt_f, ieq_t, ieq_f, and_true, true_and, and_false, false_and, and_self, not_true_eq_false, not_false_eq_true, ↓reduceIte, Int.toNat_natCast, tqb_z, tqb_t, tqb_f, r_isIn, decide_eq_false_iff_not, decide_eq_true_eq, oel_s, oel_n, Bool.false_eq_true, btf, eq_self, or_self, or_false, false_or, or_true, true_or, iand_f, iandl_f, ior_t, ior_f]
          · obtain ⟨J5, P5, e5⟩ := run J M hJ
            exact ⟨J5, by rw [e5, if_pos rfl], P5⟩
        · refine ⟨zI (rve w h yk yf ys (K, z6) n).2.1, I2, L2, ?_, p1, p2, fun J M hJ => ?_⟩
          · unfold FX11_after
            simp (disch := omega) only [rg_0_0, rg_0_4, e, ey L, e2, c8, zlet, obind, zI_lit, zI_neg, zI_add, zI_sub, zI_mul, zI_div, zI_le, zI_lt, zI_eq, zI_cl, irem, ile_t, ile_f, ilt_t, ilt_f, ieq_t, ieq_f, and_true, true_and, and_false, false_and, and_self, not_true_eq_false, not_false_eq_true, ↓reduceIte, Int.toNat_natCast, tqb_z, tqb_t, tqb_f, r_isIn, decide_eq_false_iff_not, decide_eq_true_eq, oel_s, oel_n, Bool.false_eq_true, btf, eq_self, or_self, or_false, false_or, or_true, true_or, iand_f, iandl_f, ior_t, ior_f]
          · obtain ⟨J5, P5, e5⟩ := run J M hJ
            exact ⟨J5, by rw [e5, if_neg (by decide), if_pos rfl], P5⟩
        · refine ⟨zI ((rve w h yk yf ys (K, z6) n).2.2 : Nat), I2, L2, ?_, p1, p2, fun J M hJ => ?_⟩
          · unfold FX11_after
            simp (disch := omega) only [rg_0_0, rg_0_4, e, ey L, e2, c9, zlet, obind, zI_lit, zI_neg, zI_add, zI_sub, zI_mul, zI_div, zI_le, zI_lt, zI_eq, zI_cl, irem, ile_t, ile_f, ilt_t, ilt_f, ieq_t, ieq_f, and_true, true_and, and_false, false_and, and_self, not_true_eq_false, not_false_eq_true, ↓reduceIte, Int.toNat_natCast, tqb_z, tqb_t, tqb_f, r_isIn, decide_eq_false_iff_not, decide_eq_true_eq, oel_s, oel_n, Bool.false_eq_true, btf, eq_self, or_self, or_false, false_or, or_true, true_or, iand_f, iandl_f, ior_t, ior_f]
          · obtain ⟨J5, P5, e5⟩ := run J M hJ
            exact ⟨J5, by rw [e5, if_neg (by decide), if_neg (by decide)], P5⟩
      · refine ⟨-2, I, L, ?_, FP.rf, FP.rf, fun J M hJ => ?_⟩
        · unfold FX11_after FX11_after_j39
          by_cases q2 : z < 0
          · simp (disch := omega) only [rg_0_0, e, ey L, zlet, obind, zI_lit, zI_neg, zI_add, zI_sub, zI_mul, zI_div, zI_le, zI_lt, zI_eq, zI_cl, irem, ile_t, ile_f, ilt_t, ilt_f, ieq_t, ieq_f, and_true, true_and, and_false, false_and, and_self, not_true_eq_false, not_false_eq_true, ↓reduceIte, Int.toNat_natCast, tqb_z, tqb_t, tqb_f, r_isIn, decide_eq_false_iff_not, decide_eq_true_eq, oel_s, oel_n, Bool.false_eq_true, btf, eq_self, or_self, or_false, false_or, or_true, true_or, iand_f, iandl_f, ior_t, ior_f]
          · simp (disch := omega) only [rg_0_0, e, ey L, zlet, obind, zI_lit, zI_neg, zI_add, zI_sub, zI_mul, zI_div, zI_le, zI_lt, zI_eq, zI_cl, irem, ile_t, ile_f, ilt_t, ilt_f, ieq_t, ieq_f, and_true, true_and, and_false, false_and, and_self, not_true_eq_false, not_false_eq_true, ↓reduceIte, Int.toNat_natCast, tqb_z, tqb_t, tqb_f, r_isIn, decide_eq_false_iff_not, decide_eq_true_eq, oel_s, oel_n, Bool.false_eq_true, btf, eq_self, or_self, or_false, false_or, or_true, true_or, iand_f, iandl_f, ior_t, ior_f]
        · obtain ⟨J1, J2, J3, h1, h2, h3, R3, G3, P1, P2, P3, h19, R1, q2⟩ := r_hy (o := 710 + 121 * j) hi H.le H.z (r J M hJ) (fun J1 q => ry J1 M (by rw [q]; exact hJ))
          refine ⟨J2, ?_, P2⟩
          unfold FX12_after FX12_after_j25
          simp (disch := omega) only [h1, h2, zlet, obind, zI_lit, zI_neg, zI_add, zI_sub, zI_mul, zI_div, zI_le, zI_lt, zI_eq, zI_cl, irem, ile_t, ile_f, ilt_t, ilt_f, ieq_t, ieq_f, and_true, true_and, and_false, false_and, and_self, not_true_eq_false, not_false_eq_true, ↓reduceIte, Int.toNat_natCast, tqb_z, tqb_t, tqb_f, r_isIn, decide_eq_false_iff_not, decide_eq_true_eq, oel_s, oel_n, Bool.false_eq_true, btf, eq_self, or_self, or_false, false_or, or_true, true_or, iand_f, iandl_f, ior_t, ior_f]
