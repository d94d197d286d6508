/-! QUERIES: fell, cuts. -/
theorem q_fell {I : tq_PI} {L : tq_PL} (V : HV I L 1 0) (x y : Int32) : ∃ v, FX11_fell I L 0 x y = some v ∧ ∀ J M, J 137 = I 137 → ∃ J2, FX12_fell J M 136 x y = some (v, J2) ∧ FP J J2 := by
  rcases hill_case V x with ⟨e, r⟩ | ⟨i, w, h, K, hi, rfl, e, H, S, r⟩
  · exact ⟨-1, by unfold FX11_fell; rw [rg_0_0, e, obind]; rfl, fun J M hJ => ⟨J, by unfold FX12_fell; rw [r J M hJ, obind]; rfl, FP.rf⟩⟩
  · obtain ⟨z, hz, rfl⟩ := zI_of y
    have h48 := wh_le H.k
    obtain ⟨wk, ew, hw⟩ := c_weak H
    by_cases q1 : z = -1 ∨ z = -2
    · rcases hw with ⟨w0, ns⟩ | ⟨p, p48, wa, hb⟩
      · refine ⟨-1, ?_, fun J M hJ => ?_⟩
        · unfold FX11_fell FX11_fell_j26
          rcases q1 with rfl | rfl <;> simp (disch := omega) only [rg_0_0, e, zlet, obind, zI_lit, zI_neg, zI_add, zI_sub, zI_mul, zI_div, zI_le, zI_lt, zI_eq, zI_cl, irem, ile_t, ile_f, ilt_t, ilt_f, ieq_t, ieq_f, and_true, true_and, and_false, false_and, and_self, not_true_eq_false, not_false_eq_true, ↓reduceIte, Int.toNat_natCast, tqb_z, tqb_t, tqb_f, r_isIn, decide_eq_false_iff_not, decide_eq_true_eq, oel_s, oel_n, Bool.false_eq_true, btf, eq_self, or_self, or_false, false_or, or_true, true_or, iand_f, iandl_f, ior_t, ior_f, ew, w0, lgz]
        · obtain ⟨J1, J2, h1, h2, R1, R2, G2, P1, P2, -⟩ := r J M hJ
          obtain ⟨b, J3, e3, F3, hb⟩ := r_weak R2 G2 M
          have R3 := R2.fg F3
          have b1 : b = zI (-1) := by
            rcases hb with ⟨hb, _⟩ | ⟨p, wa, _⟩
            · exact hb
            · have x9 := wa.1; rw [ns p] at x9; cases x9
          refine ⟨J3, ?_, P2.tr F3.fp⟩
          unfold FX12_fell FX12_fell_j44 FX12_fell_j74
          rcases q1 with rfl | rfl <;> simp (disch := omega) only [h1, h2, e3, b1, r_isCell R3, zlet, obind, zI_lit, zI_neg, zI_add, zI_sub, zI_mul, zI_div, zI_le, zI_lt, zI_eq, zI_cl, irem, ile_t, ile_f, ilt_t, ilt_f, ieq_t, ieq_f, and_true, true_and, and_false, false_and, and_self, not_true_eq_false, not_false_eq_true, ↓reduceIte, Int.toNat_natCast, tqb_z, tqb_t, tqb_f, r_isIn, decide_eq_false_iff_not, decide_eq_true_eq, oel_s, oel_n, Bool.false_eq_true, btf, eq_self, or_self, or_false, false_or, or_true, true_or, iand_f, iandl_f, ior_t, ior_f]
      · have ha : ar w h p = true := sto_ar H.z wa.1
        have nz : ¬ wk = 0 := fun q => by rw [q] at hb; have := congrFun hb p; rw [bb_0] at this; simp at this
        rcases q1 with rfl | rfl
        · have hl := c_lost H hb
          refine ⟨zI (los h K p : Nat), ?_, fun J M hJ => ?_⟩
          · unfold FX11_fell FX11_fell_j26
            simp (disch := omega) only [rg_0_0, e, zlet, obind, zI_lit, zI_neg, zI_add, zI_sub, zI_mul, zI_div, zI_le, zI_lt, zI_eq, zI_cl, irem, ile_t, ile_f, ilt_t, ilt_f, ieq_t, ieq_f, and_true, true_and, and_false, false_and, and_self, not_true_eq_false, not_false_eq_true, ↓reduceIte, Int.toNat_natCast, tqb_z, tqb_t, tqb_f, r_isIn, decide_eq_false_iff_not, decide_eq_true_eq, oel_s, oel_n, Bool.false_eq_true, btf, eq_self, or_self, or_false, false_or, or_true, true_or, iand_f, iandl_f, ior_t, ior_f, ew, lgz, nz, hl]
          · obtain ⟨J1, J2, h1, h2, R1, R2, G2, P1, P2, -⟩ := r J M hJ
            obtain ⟨b, J3, e3, F3, hb3⟩ := r_weak R2 G2 M
            have R3 := R2.fg F3
            have G3 := G2.fg H.k F3 (by omega)
            have b1 : b = zI (cl w p : Nat) := by
              rcases hb3 with ⟨_, hb3⟩ | ⟨p2, wa2, _, hb3⟩
              · have x9 := wa.1; rw [hb3 p] at x9; cases x9
              · rw [hb3, WA_one wa wa2]
            have hc := cl_lt H.k ha
            obtain ⟨J4, e4, _, F4⟩ := r_los R3 G3 (by omega) M hc
            rw [pl_cl H.k ha] at e4
            have e4' : FX12_taken J3 M 136 (zI 0) (zI (cl w p : Nat)) = some (zI (los h K p : Nat), J4) := e4
            have kd := r_kind H.k G3 (by omega) M (z := (cl w p : Nat)) (by omega)
            rw [Int.toNat_natCast, pl_cl H.k ha] at kd
            have kd' : FX12_kindOf J3 M 136 (zI 0) (zI (cl w p : Nat)) = some (zI (K p : Nat)) := kd
            have st : decide (1 ≤ K p ∧ K p ≤ 3) = true := wa.1
            refine ⟨J4, ?_, (P2.tr F3.fp).tr F4.fp⟩
            unfold FX12_fell FX12_fell_j44 FX12_fell_j74
            simp (disch := omega) only [h1, h2, e3, b1, r_isCell R3, zlet, obind, zI_lit, zI_neg, zI_add, zI_sub, zI_mul, zI_div, zI_le, zI_lt, zI_eq, zI_cl, irem, ile_t, ile_f, ilt_t, ilt_f, ieq_t, ieq_f, and_true, true_and, and_false, false_and, and_self, not_true_eq_false, not_false_eq_true, ↓reduceIte, Int.toNat_natCast, tqb_z, tqb_t, tqb_f, r_isIn, decide_eq_false_iff_not, decide_eq_true_eq, oel_s, oel_n, Bool.false_eq_true, btf, eq_self, or_self, or_false, false_or, or_true, true_or, iand_f, iandl_f, ior_t, ior_f, kd', r_stone _ _ (H.le _), e4']
            simp only [decide_eq_true_eq] at st
            simp [st]
        · have hp : FX3_pick I L (8 + 10 * i) wk (zI 0) = some (zI (cl w p : Nat)) := by
            have := c_pick_t H hb (p := p) (by simp) (by omega)
            have z0 : fb_ct (fun q => decide (q = p)) p = 0 := fb_ct_zero.2 fun q hq => by simp; omega
            rw [z0] at this
            exact this
          refine ⟨zI (cl w p : Nat), ?_, fun J M hJ => ?_⟩
          · unfold FX11_fell FX11_fell_j26
            simp (disch := omega) only [rg_0_0, e, zlet, obind, zI_lit, zI_neg, zI_add, zI_sub, zI_mul, zI_div, zI_le, zI_lt, zI_eq, zI_cl, irem, ile_t, ile_f, ilt_t, ilt_f, ieq_t, ieq_f, and_true, true_and, and_false, false_and, and_self, not_true_eq_false, not_false_eq_true, ↓reduceIte, Int.toNat_natCast, tqb_z, tqb_t, tqb_f, r_isIn, decide_eq_false_iff_not, decide_eq_true_eq, oel_s, oel_n, Bool.false_eq_true, btf, eq_self, or_self, or_false, false_or, or_true, true_or, iand_f, iandl_f, ior_t, ior_f, ew, lgz, nz, hp]
          · obtain ⟨J1, J2, h1, h2, R1, R2, G2, P1, P2, -⟩ := r J M hJ
            obtain ⟨b, J3, e3, F3, hb3⟩ := r_weak R2 G2 M
            have b1 : b = zI (cl w p : Nat) := by
              rcases hb3 with ⟨_, hb3⟩ | ⟨p2, wa2, _, hb3⟩
              · have x9 := wa.1; rw [hb3 p] at x9; cases x9
              · rw [hb3, WA_one wa wa2]
            refine ⟨J3, ?_, P2.tr F3.fp⟩
            unfold FX12_fell
            simp (disch := omega) only [h1, h2, e3, b1, zlet, obind, zI_lit, zI_neg, zI_add, zI_sub, zI_mul, zI_div, zI_le, zI_lt, zI_eq, zI_cl, irem, ile_t, ile_f, ilt_t, ilt_f, ieq_t, ieq_f, and_true, true_and, and_false, false_and, and_self, not_true_eq_false, not_false_eq_true, ↓reduceIte, Int.toNat_natCast, tqb_z, tqb_t, tqb_f, r_isIn, decide_eq_false_iff_not, decide_eq_true_eq, oel_s, oel_n, Bool.false_eq_true, btf, eq_self, or_self, or_false, false_or, or_true, true_or, iand_f, iandl_f, ior_t, ior_f]
    · by_cases q2 : 0 ≤ z ∧ z < ((w * h : Nat) : Int)
      · obtain ⟨c, rfl⟩ : ∃ c : Nat, z = c := ⟨z.toNat, by omega⟩
        obtain ⟨y, e1, hy⟩ := c_bitOf_t H (c := c) (by omega)
        by_cases st : sto K (pl w c) = true
        · have hl := c_lost H (bb_and_one (x := FX3_stones I L (8 + 10 * i)) hy (by rw [c_sto H]; exact st))
          have nz : ¬ (FX3_stones I L (8 + 10 * i) &&& y) = 0 := fun q => by rw [bb_hit hy, c_sto H, st] at q; cases q
          refine ⟨zI (los h K (pl w c) : Nat), ?_, fun J M hJ => ?_⟩
          · unfold FX11_fell
            simp (disch := omega) only [rg_0_0, e, zlet, obind, zI_lit, zI_neg, zI_add, zI_sub, zI_mul, zI_div, zI_le, zI_lt, zI_eq, zI_cl, irem, ile_t, ile_f, ilt_t, ilt_f, ieq_t, ieq_f, and_true, true_and, and_false, false_and, and_self, not_true_eq_false, not_false_eq_true, ↓reduceIte, Int.toNat_natCast, tqb_z, tqb_t, tqb_f, r_isIn, decide_eq_false_iff_not, decide_eq_true_eq, oel_s, oel_n, Bool.false_eq_true, btf, eq_self, or_self, or_false, false_or, or_true, true_or, iand_f, iandl_f, ior_t, ior_f, e1, lgz, nz, hl]
          · obtain ⟨J1, J2, h1, h2, R1, R2, G2, P1, P2, -⟩ := r J M hJ
            obtain ⟨J4, e4, _, F4⟩ := r_los R2 G2 (by omega) M (c := c) (by omega)
            have e4' : FX12_taken J2 M 136 (zI 0) (zI (c : Int)) = some (zI (los h K (pl w c) : Nat), J4) := e4
            have kd := r_kind H.k G2 (by omega) M (z := (c : Int)) (by omega)
            have kd' : FX12_kindOf J2 M 136 (zI 0) (zI (c : Int)) = some (zI (K (pl w c) : Nat)) := kd
            simp only [sto, decide_eq_true_eq] at st
            refine ⟨J4, ?_, P2.tr F4.fp⟩
            unfold FX12_fell FX12_fell_j44 FX12_fell_j74
            simp (disch := omega) only [h1, h2, r_isCell R2, zlet, obind, zI_lit, zI_neg, zI_add, zI_sub, zI_mul, zI_div, zI_le, zI_lt, zI_eq, zI_cl, irem, ile_t, ile_f, ilt_t, ilt_f, ieq_t, ieq_f, and_true, true_and, and_false, false_and, and_self, not_true_eq_false, not_false_eq_true, ↓reduceIte, Int.toNat_natCast, tqb_z, tqb_t, tqb_f, r_isIn, decide_eq_false_iff_not, decide_eq_true_eq, oel_s, oel_n, Bool.false_eq_true, btf, eq_self, or_self, or_false, false_or, or_true, true_or, iand_f, iandl_f, ior_t, ior_f, kd', r_stone _ _ (H.le _), e4']
            simp [st]
        · have zz : (FX3_stones I L (8 + 10 * i) &&& y) = 0 := by rw [bb_hit hy, c_sto H]; simpa using st
          refine ⟨-1, ?_, fun J M hJ => ?_⟩
          · unfold FX11_fell
            simp (disch := omega) only [rg_0_0, e, zlet, obind, zI_lit, zI_neg, zI_add, zI_sub, zI_mul, zI_div, zI_le, zI_lt, zI_eq, zI_cl, irem, ile_t, ile_f, ilt_t, ilt_f, ieq_t, ieq_f, and_true, true_and, and_false, false_and, and_self, not_true_eq_false, not_false_eq_true, ↓reduceIte, Int.toNat_natCast, tqb_z, tqb_t, tqb_f, r_isIn, decide_eq_false_iff_not, decide_eq_true_eq, oel_s, oel_n, Bool.false_eq_true, btf, eq_self, or_self, or_false, false_or, or_true, true_or, iand_f, iandl_f, ior_t, ior_f, e1, lgz, zz]
          · obtain ⟨J1, J2, h1, h2, R1, R2, G2, P1, P2, -⟩ := r J M hJ
            have kd := r_kind H.k G2 (by omega) M (z := (c : Int)) (by omega)
            have kd' : FX12_kindOf J2 M 136 (zI 0) (zI (c : Int)) = some (zI (K (pl w c) : Nat)) := kd
            simp only [sto, decide_eq_true_eq] at st
            refine ⟨J2, ?_, P2⟩
            unfold FX12_fell FX12_fell_j44 FX12_fell_j74
            simp (disch := omega) only [h1, h2, r_isCell R2, zlet, obind, zI_lit, zI_neg, zI_add, zI_sub, zI_mul, zI_div, zI_le, zI_lt, zI_eq, zI_cl, irem, ile_t, ile_f, ilt_t, ilt_f, ieq_t, ieq_f, and_true, true_and, and_false, false_and, and_self, not_true_eq_false, not_false_eq_true, ↓reduceIte, Int.toNat_natCast, tqb_z, tqb_t, tqb_f, r_isIn, decide_eq_false_iff_not, decide_eq_true_eq, oel_s, oel_n, Bool.false_eq_true, btf, eq_self, or_self, or_false, false_or, or_true, true_or, iand_f, iandl_f, ior_t, ior_f, kd', r_stone _ _ (H.le _)]
            simp [st]
      · have e1 := c_bitOf_f H hz q2
        have zz : (FX3_stones I L (8 + 10 * i) &&& (0 : Int64)) = 0 := by simp
        refine ⟨-1, ?_, fun J M hJ => ?_⟩
        · unfold FX11_fell
          simp (disch := omega) only [rg_0_0, e, zlet, obind, zI_lit, zI_neg, zI_add, zI_sub, zI_mul, zI_div, zI_le, zI_lt, zI_eq, zI_cl, irem, ile_t, ile_f, ilt_t, ilt_f, ieq_t, ieq_f, and_true, true_and, and_false, false_and, and_self, not_true_eq_false, not_false_eq_true, ↓reduceIte, Int.toNat_natCast, tqb_z, tqb_t, tqb_f, r_isIn, decide_eq_false_iff_not, decide_eq_true_eq, oel_s, oel_n, Bool.false_eq_true, btf, eq_self, or_self, or_false, false_or, or_true, true_or, iand_f, iandl_f, ior_t, ior_f, e1, lgz, zz]
        · obtain ⟨J1, J2, h1, h2, R1, R2, G2, P1, P2, -⟩ := r J M hJ
          by_cases q3 : -2 ≤ z
          · refine ⟨J2, ?_, P2⟩
            unfold FX12_fell FX12_fell_j44 FX12_fell_j74
            simp (disch := omega) only [h1, h2, r_isCell R2, zlet, obind, zI_lit, zI_neg, zI_add, zI_sub, zI_mul, zI_div, zI_le, zI_lt, zI_eq, zI_cl, irem, ile_t, ile_f, ilt_t, ilt_f, ieq_t, ieq_f, and_true, true_and, and_false, false_and, and_self, not_true_eq_false, not_false_eq_true, ↓reduceIte, Int.toNat_natCast, tqb_z, tqb_t, tqb_f, r_isIn, decide_eq_false_iff_not, decide_eq_true_eq, oel_s, oel_n, Bool.false_eq_true, btf, eq_self, or_self, or_false, false_or, or_true, true_or, iand_f, iandl_f, ior_t, ior_f]
          · refine ⟨J1, ?_, P1⟩
            unfold FX12_fell FX12_fell_j14
            simp (disch := omega) only [h1, zlet, obind, zI_lit, zI_neg, zI_add, zI_sub, zI_mul, zI_div, zI_le, zI_lt, zI_eq, zI_cl, irem, ile_t, ile_f, ilt_t, ilt_f, ieq_t, ieq_f, and_true, true_and, and_false, false_and, and_self, not_true_eq_false, not_false_eq_true, ↓reduceIte, Int.toNat_natCast, tqb_z, tqb_t, tqb_f, r_isIn, decide_eq_false_iff_not, decide_eq_true_eq, oel_s, oel_n, Bool.false_eq_true, btf, eq_self, or_self, or_false, false_or, or_true, true_or, iand_f, iandl_f, ior_t, ior_f]
/-! cuts -/
def csf (w h : Nat) (K : Nat → Nat) (s : Nat) (f : Bool) (p : Nat) : Bool := if f then saf w h K s p else cut w h K s p
theorem cut_ar {w h : Nat} {K : Nat → Nat} (z : ∀ p, ar w h p = false → K p = 0) {s p : Nat} (q : cut w h K s p = true) : ar w h p = true := by
  simp only [cut, Bool.and_eq_true] at q
  exact sto_ar z q.1
theorem csf_ar {w h : Nat} {K : Nat → Nat} (z : ∀ p, ar w h p = false → K p = 0) {s p : Nat} {f : Bool} (q : csf w h K s f p = true) : ar w h p = true := by
  unfold csf at q
  cases f
  · exact cut_ar z (by simpa using q)
  · simp only [if_true, saf, Bool.and_eq_true] at q
    exact cut_ar z q.1
theorem MT.fg {I J : tq_PI} {w h l : Nat} {P : Nat → Bool} (M : MT I w h P) (F : FG l I J) : MT J w h P := ⟨fun c hc => by rw [F _ _ (Or.inl (by omega))]; exact M.1 c hc, M.2⟩
theorem r_cuts {J : tq_PI} {w h s : Nat} {K : Nat → Nat} (R : RW J w h) (G : GR J w h 0 K) (M : tq_PL) (hs : s < 2) (T : MT J w h (rea w h K s)) (f : Bool) {k : Int} (hk : -1 ≤ k ∧ k < 2147483648) : ∃ o, tq_it (fun p : Int32 × Int32 × tq_PI => FX12_cuts_s39 p.2.2 M 136 (zI (s : Int)) (zB f) (zI k) p.1 p.2.1) tq_N (zI ((0 : Nat) : Int), zI ((0 : Nat) : Int), J) = some o ∧ ((∃ J2, o = .inl (zI (fb_ct (csf w h K s f) 64 : Nat), J2) ∧ FP J J2 ∧ (k = -1 ∨ (fb_ct (csf w h K s f) 64 : Nat) ≤ k)) ∨ ∃ p J2, o = .inr (zI (cl w p : Nat), J2) ∧ FP J J2 ∧ csf w h K s f p = true ∧ p < 64 ∧ k = (fb_ct (csf w h K s f) p : Nat)) := by
  have kk := R.2.2
  have h48 := wh_le kk
  have cc : ∀ c, c ≤ w * h → fb_ct (fun i => csf w h K s f (pl w i)) c = fb_ct (csf w h K s f) (pl w c) := fun c hc => ct_cell kk _ (fun p q => csf_ar G.2.2 q) hc
  obtain ⟨o, e, ho⟩ := it_for (f := fun p : Int32 × Int32 × tq_PI => FX12_cuts_s39 p.2.2 M 136 (zI (s : Int)) (zB f) (zI k) p.1 p.2.1) (fun i (x : Int32 × tq_PI) => (x.1, zI (i : Int), x.2)) (w * h) (fun i x => x.1 = zI (fb_ct (fun i => csf w h K s f (pl w i)) i : Nat) ∧ FG 1 J x.2 ∧ (k = -1 ∨ (fb_ct (fun i => csf w h K s f (pl w i)) i : Nat) ≤ k)) (Post := fun o => (∃ J2, o = .inl (zI (fb_ct (fun i => csf w h K s f (pl w i)) (w * h) : Nat), J2) ∧ FG 1 J J2 ∧ (k = -1 ∨ (fb_ct (fun i => csf w h K s f (pl w i)) (w * h) : Nat) ≤ k)) ∨ ∃ c J2, c < w * h ∧ o = .inr (zI (c : Nat), J2) ∧ FG 1 J J2 ∧ csf w h K s f (pl w c) = true ∧ k = (fb_ct (fun i => csf w h K s f (pl w i)) c : Nat)) (fun i x hi hx => by
    obtain ⟨n, J1⟩ := x
    obtain ⟨h1, F, h3⟩ := hx
    dsimp only at h1 F ⊢
    subst h1
    have R1 := R.fg F
    have G1 := G.fg kk F (by omega)
    have T1 := T.fg F
    have ic := r_isCut R1 G1 (by omega) M hs T1 hi
    have ic' : FX12_isCut J1 M 136 (zI 0) (zI (s : Int)) (zI (i : Int)) = some (cut w h K s (pl w i)) := ic
    obtain ⟨J3, e3, _, F3⟩ := r_los R1 G1 (by omega) M hi
    have e3' : FX12_taken J1 M 136 (zI 0) (zI (i : Int)) = some (zI (los h K (pl w i) : Nat), J3) := e3
    have l1 := los_le h K (pl w i)
    have l2 := fb_ct_le (fun i => csf w h K s f (pl w i)) i
    have hsu := fb_ct_succ (fun i => csf w h K s f (pl w i)) i
    have go : ∀ (b : Bool) (J4 : tq_PI), FG 1 J J4 → csf w h K s f (pl w i) = b → ∀ o : Option ((Int32 × Int32 × tq_PI) ⊕ ((Int32 × tq_PI) ⊕ (Int32 × tq_PI))), o = (if b = true then (if zI (fb_ct (fun i => csf w h K s f (pl w i)) i : Nat) = zI k then some (.inr (.inr (zI (i : Int), J4))) else some (.inl (zI ((fb_ct (fun i => csf w h K s f (pl w i)) i : Nat) + 1), zI ((i : Int) + 1), J4))) else some (.inl (zI (fb_ct (fun i => csf w h K s f (pl w i)) i : Nat), zI ((i : Int) + 1), J4))) → (∃ s2 : Int32 × tq_PI, o = some (.inl (s2.1, zI ((i + 1 : Nat) : Int), s2.2)) ∧ s2.1 = zI (fb_ct (fun i => csf w h K s f (pl w i)) (i + 1) : Nat) ∧ FG 1 J s2.2 ∧ (k = -1 ∨ (fb_ct (fun i => csf w h K s f (pl w i)) (i + 1) : Nat) ≤ k)) ∨ ∃ b2, o = some (.inr b2) ∧ ((∃ J2, b2 = .inl (zI (fb_ct (fun i => csf w h K s f (pl w i)) (w * h) : Nat), J2) ∧ FG 1 J J2 ∧ (k = -1 ∨ (fb_ct (fun i => csf w h K s f (pl w i)) (w * h) : Nat) ≤ k)) ∨ ∃ c J2, c < w * h ∧ b2 = .inr (zI (c : Nat), J2) ∧ FG 1 J J2 ∧ csf w h K s f (pl w c) = true ∧ k = (fb_ct (fun i => csf w h K s f (pl w i)) c : Nat)) := fun b J4 F4 hb o ho => by
      rw [hb] at hsu
      cases b
      · simp only [Bool.false_eq_true, if_false, Nat.add_zero] at hsu ho
        exact Or.inl ⟨(_, J4), ho, by rw [hsu]; rfl, F4, by rw [hsu]; exact h3⟩
      · simp only [if_true] at hsu ho
        simp (disch := omega) only [zI_eq] at ho
        by_cases q : ((fb_ct (fun i => csf w h K s f (pl w i)) i : Nat) : Int) = k
        · rw [if_pos q] at ho
          exact Or.inr ⟨_, ho, Or.inr ⟨i, J4, hi, rfl, F4, hb, q.symm⟩⟩
        · rw [if_neg q] at ho
          exact Or.inl ⟨(_, J4), ho, by rw [hsu]; rfl, F4, by rw [hsu]; omega⟩
    unfold FX12_cuts_s39 FX12_cuts_j76L39 FX12_cuts_j89L39
    simp (disch := omega) only [zlet, obind, zI_lit, r_many R1, zI_le, ic', zB_0, tqb_z, e3', zI_add]
    rw [if_neg (by omega)]
    have hcf : csf w h K s f (pl w i) = (cut w h K s (pl w i) && (!f || decide (los h K (pl w i) = 0))) := by
      unfold csf saf
      cases f <;> simp
    cases qc : cut w h K s (pl w i)
    · rw [if_pos rfl]
      exact go false J1 F (by rw [hcf, qc]; rfl) _ (by simp)
    · rw [if_neg (by simp)]
      cases f
      · rw [if_pos rfl]
        exact go true J1 F (by rw [hcf, qc]; rfl) _ (by simp)
      · rw [if_neg (by simp)]
        by_cases q0 : los h K (pl w i) = 0
        · rw [if_pos (by omega)]
          exact go true J3 (F.tr F3) (by rw [hcf, qc]; simp [q0]) _ (by simp)
        · rw [if_neg (by omega)]
          exact go false J3 (F.tr F3) (by rw [hcf, qc]; simp [q0]) _ (by simp)) (fun x hx => by
    have R1 := R.fg hx.2.1
    unfold FX12_cuts_s39
    simp (disch := omega) only [zlet, obind, zI_lit, zI_neg, zI_add, zI_sub, zI_mul, zI_div, zI_le, zI_lt, zI_eq, zI_cl, irem, ile_t, ile_f, ilt_t, ilt_f, ieq_t, ieq_f, and_true, true_and, and_false, false_and, and_self, not_true_eq_false, not_false_eq_true, ↓reduceIte, Int.toNat_natCast, tqb_z, tqb_t, tqb_f, r_many R1]
    refine ⟨_, rfl, Or.inl ⟨x.2, ?_, hx.2⟩⟩
    rw [hx.1]) 0 (zI ((0 : Nat) : Int), J) (by omega) (by omega) ⟨rfl, FG.rf, by
      by_cases q : k = -1
      · exact Or.inl q
      · refine Or.inr ?_
        have : fb_ct (fun i => csf w h K s f (pl w i)) 0 = 0 := rfl
        omega⟩
  refine ⟨o, e, ?_⟩
  have call := ct_all kk (csf w h K s f) (fun p q => csf_ar G.2.2 q)
  rcases ho with ⟨J2, h1, h2, h3⟩ | ⟨c, J2, h1, h2, h3, h4, h5⟩
  · rw [call] at h1 h3
    exact Or.inl ⟨J2, h1, h2.fp, h3⟩
  · refine Or.inr ⟨pl w c, J2, ?_, h3.fp, h4, by have := pl_48 kk h1; omega, ?_⟩
    · rw [cl_pl kk]; exact h2
    · rw [← cc c (by omega)]; exact h5
theorem c_csf {I : tq_PI} {L : tq_PL} {a w h s : Nat} {K : Nat → Nat} (H : HC I L a w h K) (S : Stn h K) (hs : s < 2) : (∃ y, FX3_cuttable I L a (zI (s : Int)) (FX3_solid I L a) = some y ∧ bb y = csf w h K s false) ∧ ∃ y, FX3_safeFor I L a (zI (s : Int)) (FX3_solid I L a) = some y ∧ bb y = csf w h K s true := by
  refine ⟨?_, ?_⟩
  · obtain ⟨y, e, hy⟩ := c_cut H hs (c_sol H) (sb_rf K) H.z
    exact ⟨y, e, by rw [hy]; funext p; simp [csf]⟩
  · obtain ⟨y, e, hy⟩ := c_safe H hs (c_sol H) (sb_rf K) H.z S
    exact ⟨y, e, by rw [hy]; funext p; simp [csf]⟩
theorem q_cuts {I : tq_PI} {L : tq_PL} (V : HV I L 1 0) (x y : Int32) (f : Bool) (u : Int32) : ∃ v, FX11_cuts I L 0 x y (zB f) u = some v ∧ ∀ J M, J 137 = I 137 → ∃ J2, FX12_cuts J M 136 x y (zB f) u = some (v, J2) ∧ FP J J2 := by
  rcases hill_case V x with ⟨e, r⟩ | ⟨i, w, h, K, hi, rfl, e, H, S, r⟩
  · exact ⟨-1, by unfold FX11_cuts; rw [rg_0_0, e, obind]; rfl, fun J M hJ => ⟨J, by unfold FX12_cuts; rw [r J M hJ, obind]; rfl, FP.rf⟩⟩
  · obtain ⟨z, hz, rfl⟩ := zI_of y
    obtain ⟨t, ht, rfl⟩ := zI_of u
    have h48 := wh_le H.k
    by_cases sd : z = 0 ∨ z = 1
    · obtain ⟨s, rfl⟩ : ∃ s : Nat, z = s := ⟨z.toNat, by omega⟩
      have hs : s < 2 := by omega
      obtain ⟨y, ey, hy⟩ : ∃ y, (∀ o : Option Int32, FX11_cuts I L 0 (zI (i : Int)) (zI (s : Int)) (zB f) (zI t) = FX11_cuts_j53 I L (zI t) (8 + 10 * i) y) ∧ bb y = csf w h K s f := by
        obtain ⟨⟨y1, e1, h1⟩, ⟨y2, e2, h2⟩⟩ := c_csf H S hs
        cases f
        · refine ⟨y1, fun _ => ?_, h1⟩
          unfold FX11_cuts
          simp (disch := omega) only [rg_0_0, e, c_isSide, zlet, obind, zI_lit, zI_neg, zI_add, zI_sub, zI_mul, zI_div, zI_le, zI_lt, zI_eq, zI_cl, irem, ile_t, ile_f, ilt_t, ilt_f, ieq_t, ieq_f, and_true, true_and, and_false, false_and, and_self, not_true_eq_false, not_false_eq_true, ↓reduceIte, Int.toNat_natCast, tqb_z, tqb_t, tqb_f, r_isIn, decide_eq_false_iff_not, decide_eq_true_eq, oel_s, oel_n, Bool.false_eq_true, btf, eq_self, or_self, or_false, false_or, or_true, true_or, iand_f, iandl_f, ior_t, ior_f, zB_0, e1]
        · refine ⟨y2, fun _ => ?_, h2⟩
          unfold FX11_cuts
          simp (disch := omega) only [rg_0_0, e, c_isSide, zlet, obind, zI_lit, zI_neg, zI_add, zI_sub, zI_mul, zI_div, zI_le, zI_lt, zI_eq, zI_cl, irem, ile_t, ile_f, ilt_t, ilt_f, ieq_t, ieq_f, and_true, true_and, and_false, false_and, and_self, not_true_eq_false, not_false_eq_true, ↓reduceIte, Int.toNat_natCast, tqb_z, tqb_t, tqb_f, r_isIn, decide_eq_false_iff_not, decide_eq_true_eq, oel_s, oel_n, Bool.false_eq_true, btf, eq_self, or_self, or_false, false_or, or_true, true_or, iand_f, iandl_f, ior_t, ior_f, zB_0, e2]
      have hfall : ∀ J M, J 137 = I 137 → ∃ J2, FP J J2 ∧ RW J2 w h ∧ GR J2 w h 0 K ∧ MT J2 w h (rea w h K s) ∧ (-1 ≤ t → FX12_cuts J M 136 (zI (i : Int)) (zI (s : Int)) (zB f) (zI t) = ((tq_it (fun p : Int32 × Int32 × tq_PI => FX12_cuts_s39 p.2.2 M 136 (zI (s : Int)) (zB f) (zI t) p.1 p.2.1) tq_N (zI ((0 : Nat) : Int), zI ((0 : Nat) : Int), J2)).bind fun p16 => p16.elim (fun t17 => (if zI t = (-1 : Int32) then some (t17.1, t17.2) else some ((-1 : Int32), t17.2))) (fun t17 => some t17))) := fun J M hJ => by
        obtain ⟨J1, J2, h1, h2, R1, R2, G2, P1, P2, -⟩ := r J M hJ
        obtain ⟨J3, e3, F3, M3⟩ := r_reaches R2 G2 (by omega) M hs
        have e3' : FX12_reaches J2 M 136 (zI 0) (zI (s : Int)) = some J3 := e3
        refine ⟨J3, P2.tr (F3.fp (by unfold psl; omega)), R2.fc F3 (by omega), G2.fc F3 (by omega), M3, fun ht1 => ?_⟩
        unfold FX12_cuts
        simp (disch := omega) only [h1, h2, r_isSide, e3', zlet, obind, zI_lit, zI_neg, zI_add, zI_sub, zI_mul, zI_div, zI_le, zI_lt, zI_eq, zI_cl, irem, ile_t, ile_f, ilt_t, ilt_f, ieq_t, ieq_f, and_true, true_and, and_false, false_and, and_self, not_true_eq_false, not_false_eq_true, ↓reduceIte, Int.toNat_natCast, tqb_z, tqb_t, tqb_f, r_isIn, decide_eq_false_iff_not, decide_eq_true_eq, oel_s, oel_n, Bool.false_eq_true, btf, eq_self, or_self, or_false, false_or, or_true, true_or, iand_f, iandl_f, ior_t, ior_f]
        rfl
      by_cases q1 : t = -1
      · subst q1
        refine ⟨zI (fb_ct (csf w h K s f) 64 : Nat), ?_, fun J M hJ => ?_⟩
        · rw [ey none]
          unfold FX11_cuts_j53
          simp (disch := omega) only [zlet, obind, zI_lit, zI_neg, zI_add, zI_sub, zI_mul, zI_div, zI_le, zI_lt, zI_eq, zI_cl, irem, ile_t, ile_f, ilt_t, ilt_f, ieq_t, ieq_f, and_true, true_and, and_false, false_and, and_self, not_true_eq_false, not_false_eq_true, ↓reduceIte, Int.toNat_natCast, tqb_z, tqb_t, tqb_f, r_isIn, decide_eq_false_iff_not, decide_eq_true_eq, oel_s, oel_n, Bool.false_eq_true, btf, eq_self, or_self, or_false, false_or, or_true, true_or, iand_f, iandl_f, ior_t, ior_f, bc_eq, hy]
        · obtain ⟨J2, P2, R2, G2, M2, e2⟩ := hfall J M hJ
          obtain ⟨o, eo, ho⟩ := r_cuts R2 G2 M hs M2 f (k := -1) (by omega)
          rw [e2 (by omega), eo]
          rcases ho with ⟨J3, rfl, P3, -⟩ | ⟨p, J3, -, -, -, -, hk⟩
          · exact ⟨J3, rfl, P2.tr P3⟩
          · omega
      · by_cases q2 : 0 ≤ t ∧ t < ((fb_ct (csf w h K s f) 64 : Nat) : Int)
        · obtain ⟨p, hp64, hp, hpk⟩ := fb_ct_kth (p := csf w h K s f) (k := t.toNat) (n := 64) (by omega)
          have et : t = ((fb_ct (csf w h K s f) p : Nat) : Int) := by omega
          have pk := c_pick_t H hy hp hp64
          rw [← et] at pk
          refine ⟨zI (cl w p : Nat), ?_, fun J M hJ => ?_⟩
          · rw [ey none]
            unfold FX11_cuts_j53
            simp (disch := omega) only [zlet, obind, zI_lit, zI_neg, zI_add, zI_sub, zI_mul, zI_div, zI_le, zI_lt, zI_eq, zI_cl, irem, ile_t, ile_f, ilt_t, ilt_f, ieq_t, ieq_f, and_true, true_and, and_false, false_and, and_self, not_true_eq_false, not_false_eq_true, ↓reduceIte, Int.toNat_natCast, tqb_z, tqb_t, tqb_f, r_isIn, decide_eq_false_iff_not, decide_eq_true_eq, oel_s, oel_n, Bool.false_eq_true, btf, eq_self, or_self, or_false, false_or, or_true, true_or, iand_f, iandl_f, ior_t, ior_f, pk]
          · obtain ⟨J2, P2, R2, G2, M2, e2⟩ := hfall J M hJ
            obtain ⟨o, eo, ho⟩ := r_cuts R2 G2 M hs M2 f (k := t) (by omega)
            rw [e2 (by omega), eo]
            rcases ho with ⟨J3, rfl, P3, hk⟩ | ⟨p2, J3, rfl, P3, hp2, hp3, hk⟩
            · omega
            · have : p2 = p := fb_ct_kth_one hp2 hp (by omega)
              rw [this]
              exact ⟨J3, rfl, P2.tr P3⟩
        · have pk := c_pick_f (I := I) (L := L) (a := 8 + 10 * i) y ht (by rw [hy]; exact q2)
          refine ⟨-1, ?_, fun J M hJ => ?_⟩
          · rw [ey none]
            unfold FX11_cuts_j53
            simp (disch := omega) only [zlet, obind, zI_lit, zI_neg, zI_add, zI_sub, zI_mul, zI_div, zI_le, zI_lt, zI_eq, zI_cl, irem, ile_t, ile_f, ilt_t, ilt_f, ieq_t, ieq_f, and_true, true_and, and_false, false_and, and_self, not_true_eq_false, not_false_eq_true, ↓reduceIte, Int.toNat_natCast, tqb_z, tqb_t, tqb_f, r_isIn, decide_eq_false_iff_not, decide_eq_true_eq, oel_s, oel_n, Bool.false_eq_true, btf, eq_self, or_self, or_false, false_or, or_true, true_or, iand_f, iandl_f, ior_t, ior_f, pk]
          · by_cases q3 : -1 ≤ t
            · obtain ⟨J2, P2, R2, G2, M2, e2⟩ := hfall J M hJ
              obtain ⟨o, eo, ho⟩ := r_cuts R2 G2 M hs M2 f (k := t) (by omega)
              rw [e2 (by omega), eo]
              rcases ho with ⟨J3, rfl, P3, hk⟩ | ⟨p2, J3, rfl, P3, hp2, hp3, hk⟩
              · refine ⟨J3, ?_, P2.tr P3⟩
                rw [obind]
                show (if zI t = (-1 : Int32) then _ else _) = _
                rw [if_neg]
                rw [zI_lit, zI_neg, zI_eq (by omega) (by omega)]
                exact q1
              · have := fb_ct_mono (csf w h K s f) (m := p2 + 1) (n := 64) (by omega)
                rw [fb_ct_yes hp2] at this
                omega
            · obtain ⟨J1, J2, h1, h2, R1, R2, G2, P1, P2, -⟩ := r J M hJ
              refine ⟨J1, ?_, P1⟩
              unfold FX12_cuts FX12_cuts_j21
              simp (disch := omega) only [h1, r_isSide, zlet, obind, zI_lit, zI_neg, zI_add, zI_sub, zI_mul, zI_div, zI_le, zI_lt, zI_eq, zI_cl, irem, ile_t, ile_f, ilt_t, ilt_f, ieq_t, ieq_f, and_true, true_and, and_false, false_and, and_self, not_true_eq_false, not_false_eq_true, ↓reduceIte, Int.toNat_natCast, tqb_z, tqb_t, tqb_f, r_isIn, decide_eq_false_iff_not, decide_eq_true_eq, oel_s, oel_n, Bool.false_eq_true, btf, eq_self, or_self, or_false, false_or, or_true, true_or, iand_f, iandl_f, ior_t, ior_f]
    · refine ⟨-1, ?_, fun J M hJ => ?_⟩
      · unfold FX11_cuts FX11_cuts_j22
        simp (disch := omega) only [rg_0_0, e, c_isSide, zlet, obind, zI_lit, zI_neg, zI_add, zI_sub, zI_mul, zI_div, zI_le, zI_lt, zI_eq, zI_cl, irem, ile_t, ile_f, ilt_t, ilt_f, ieq_t, ieq_f, and_true, true_and, and_false, false_and, and_self, not_true_eq_false, not_false_eq_true, ↓reduceIte, Int.toNat_natCast, tqb_z, tqb_t, tqb_f, r_isIn, decide_eq_false_iff_not, decide_eq_true_eq, oel_s, oel_n, Bool.false_eq_true, btf, eq_self, or_self, or_false, false_or, or_true, true_or, iand_f, iandl_f, ior_t, ior_f]
      · obtain ⟨J1, J2, h1, h2, R1, R2, G2, P1, P2, -⟩ := r J M hJ
        refine ⟨J1, ?_, P1⟩
        unfold FX12_cuts FX12_cuts_j21
        simp (disch := omega) only [h1, r_isSide, zlet, obind, zI_lit, zI_neg, zI_add, zI_sub, zI_mul, zI_div, zI_le, zI_lt, zI_eq, zI_cl, irem, ile_t, ile_f, ilt_t, ilt_f, ieq_t, ieq_f, and_true, true_and, and_false, false_and, and_self, not_true_eq_false, not_false_eq_true, ↓reduceIte, Int.toNat_natCast, tqb_z, tqb_t, tqb_f, r_isIn, decide_eq_false_iff_not, decide_eq_true_eq, oel_s, oel_n, Bool.false_eq_true, btf, eq_self, or_self, or_false, false_or, or_true, true_or, iand_f, iandl_f, ior_t, ior_f]
