/-! LOGS: what fits, counted; the query within. -/
noncomputable def n432 : Nat := Classical.choose (⟨432, rfl⟩ : ∃ n : Nat, n = 432)
theorem n432_e : n432 = 432 := Classical.choose_spec (⟨432, rfl⟩ : ∃ n : Nat, n = 432)
def GA (M : tq_PL) (F : Nat → Bool) : Prop := ∀ s, s < 9 → ∀ p, bb (M 50 (s + 1)) p = (decide (p < 48) && F (9 * p + s))
theorem c_gather {I : tq_PI} (L : tq_PL) {i o m : Nat} {lc lh : Nat → Nat} {A : Nat → Int32} (hi : i < 2) (D : LD I (13 + 10 * i) A o m lc lh) : ∃ M, FX2_gather I L 49 (13 + 10 * i) = some M ∧ FL 50 L M ∧ GA M (fit m lc lh) := by
  have hm := D.1
  have inner : ∀ (L1 : tq_PL) (s : Nat), s < 9 → ∃ y, tq_it (fun p : Int64 × Int32 => FX2_gather_s18 I L1 49 (13 + 10 * i) (zI ((s + 1 : Nat) : Int)) p.1 p.2) tq_N ((281474976710655 : Int64), (0 : Int32)) = some y ∧ ∀ p, bb y p = (decide (p < 48) && fit m lc lh (9 * p + s)) := fun L1 s hs => by
    obtain ⟨y, e, hy⟩ := it_for (f := fun p : Int64 × Int32 => FX2_gather_s18 I L1 49 (13 + 10 * i) (zI ((s + 1 : Nat) : Int)) p.1 p.2) (fun k (x : Int64) => (x, zI (k : Int))) m (fun k x => ∀ p, bb x p = (decide (p < 48) && fit k lc lh (9 * p + s))) (Post := fun y => ∀ p, bb y p = (decide (p < 48) && fit m lc lh (9 * p + s))) (fun k x hk hx => by
      obtain ⟨a1, a2⟩ := c_lAt hi D hk L1
      obtain ⟨d1, d2, -⟩ := D.2.2.2 k hk
      obtain ⟨y, e, hy⟩ := c_hfrom I L1 (s := s) d1 d2 hs
      refine Or.inl ⟨x &&& y, ?_, fun p => ?_⟩
      · unfold FX2_gather_s18
        simp (disch := omega) only [D.2.1, a1, a2, e, zlet, obind, zI_lit, zI_neg, zI_add, zI_sub, zI_mul, zI_div, zI_le, zI_lt, zI_eq, zI_cl, irem, ile_t, ile_f, ilt_t, ilt_f, ieq_t, ieq_f, and_true, true_and, and_false, false_and, and_self, not_true_eq_false, not_false_eq_true, ↓reduceIte, Int.toNat_natCast, tqb_z, tqb_t, tqb_f]
        rfl
      · rw [bb_and, hx p, hy p, fit_s]
        cases decide (p < 48) <;> simp) (fun x hx => ⟨x, by
      unfold FX2_gather_s18
      simp (disch := omega) only [D.2.1, zlet, obind, zI_lit, zI_neg, zI_add, zI_sub, zI_mul, zI_div, zI_le, zI_lt, zI_eq, zI_cl, irem, ile_t, ile_f, ilt_t, ilt_f, ieq_t, ieq_f, and_true, true_and, and_false, false_and, and_self, not_true_eq_false, not_false_eq_true, ↓reduceIte, Int.toNat_natCast, tqb_z, tqb_t, tqb_f], hx⟩) 0 (281474976710655 : Int64) (by omega) (by omega) (fun p => by rw [bb_widest]; simp [fit])
    exact ⟨y, e, hy⟩
  obtain ⟨M, e, F, G⟩ := it_for (f := fun p : Int32 × tq_PL => FX2_gather_s2 I p.2 49 (13 + 10 * i) p.1) (fun k (s : tq_PL) => (zI (k : Int), s)) 10 (fun k M => 1 ≤ k ∧ FL 50 L M ∧ ∀ s, s < 9 → s + 1 < k → ∀ p, bb (M 50 (s + 1)) p = (decide (p < 48) && fit m lc lh (9 * p + s))) (Post := fun M => FL 50 L M ∧ GA M (fit m lc lh)) (fun k M hk hM => by
    obtain ⟨h1, h2, h3⟩ := hM
    obtain ⟨s, rfl⟩ : ∃ s, k = s + 1 := ⟨k - 1, by omega⟩
    obtain ⟨y, e, hy⟩ := inner M s (by omega)
    refine Or.inl ⟨tq_up2 M 50 (s + 1) y, ?_, by omega, h2.tr FL.up, fun s1 hs1 hs2 p => ?_⟩
    · unfold FX2_gather_s2
      rw [e]
      simp (disch := omega) only [zlet, obind, zI_lit, zI_neg, zI_add, zI_sub, zI_mul, zI_div, zI_le, zI_lt, zI_eq, zI_cl, irem, ile_t, ile_f, ilt_t, ilt_f, ieq_t, ieq_f, and_true, true_and, and_false, false_and, and_self, not_true_eq_false, not_false_eq_true, ↓reduceIte, Int.toNat_natCast, tqb_z, tqb_t, tqb_f, rg_49_0]
      rfl
    · by_cases q : s1 = s
      · subst q
        rw [up_s]
        exact hy p
      · rw [up_n _ _ (by omega)]
        exact h3 s1 hs1 (by omega) p) (fun M hM => ⟨M, by
    unfold FX2_gather_s2
    simp (disch := omega) only [zlet, obind, zI_lit, zI_neg, zI_add, zI_sub, zI_mul, zI_div, zI_le, zI_lt, zI_eq, zI_cl, irem, ile_t, ile_f, ilt_t, ilt_f, ieq_t, ieq_f, and_true, true_and, and_false, false_and, and_self, not_true_eq_false, not_false_eq_true, ↓reduceIte, Int.toNat_natCast, tqb_z, tqb_t, tqb_f], hM.2.1, fun s hs p => hM.2.2 s hs (by omega) p⟩) 1 L (by omega) (by omega) ⟨by omega, FL.rf, fun s _ h => by omega⟩
  refine ⟨M, ?_, F, G⟩
  unfold FX2_gather
  exact congrArg (fun o => Option.bind o _) e
theorem ct_cut {P Q : Nat → Bool} (h : ∀ p, P p = (decide (p < 48) && Q p)) : fb_ct P 64 = fb_ct Q 48 := by
  have e : fb_ct (fun k => P (48 + k)) 16 = 0 := fb_ct_zero.2 (fun k hk => by rw [h, decide_eq_false (by omega)]; rfl)
  rw [show 64 = 48 + 16 from rfl, fb_ct_split, e, Nat.add_zero]
  exact fb_ct_cong fun k hk => by rw [h]; simp [hk]
def rsm (g : Nat → Nat) : Nat → Nat
  | 0 => 0
  | n + 1 => rsm g n + g n
theorem rsm_s (g : Nat → Nat) (n : Nat) : rsm g (n + 1) = rsm g n + g n := rfl
theorem ct9 (G : Nat → Bool) : ∀ n, rsm (fun s => fb_ct (fun p => G (9 * p + s)) n) 9 = fb_ct G (9 * n)
  | 0 => rfl
  | n + 1 => by
    have ih := ct9 G n
    rw [show 9 * (n + 1) = 9 * n + 1 + 1 + 1 + 1 + 1 + 1 + 1 + 1 + 1 by omega]
    simp only [fb_ct_succ, rsm, Nat.add_assoc, Nat.add_zero, Nat.reduceAdd] at ih ⊢
    omega
theorem rsm_le {g : Nat → Nat} {b : Nat} (h : ∀ n, g n ≤ b) : ∀ n, rsm g n ≤ n * b
  | 0 => by simp [rsm]
  | n + 1 => by have := rsm_le h n; have := h n; rw [rsm_s, Nat.succ_mul]; omega
theorem c_countIn (I : tq_PI) {M : tq_PL} {F : Nat → Bool} (G : GA M F) (x : Int64) : FX2_countIn I M 49 x = some (zI ((fb_ct (fun c => F c && bb x (c / 9)) n432 : Nat) : Int)) := by
  have key : ∀ s, s < 9 → fb_ct (bb (M 50 (s + 1) &&& x)) 64 = fb_ct (fun p => (fun c => F c && bb x (c / 9)) (9 * p + s)) 48 := fun s hs => ct_cut fun p => by
    rw [bb_and, G s hs p]
    dsimp only
    rw [show (9 * p + s) / 9 = p by omega, Bool.and_assoc]
  obtain ⟨b, e, rfl⟩ := it_for (f := fun p : Int32 × Int32 => FX2_countIn_s5 I M 49 x p.1 p.2) (fun k (s : Int32) => (s, zI (k : Int))) 10 (fun k s => 1 ≤ k ∧ s = zI ((rsm (fun s => fb_ct (fun p => (fun c => F c && bb x (c / 9)) (9 * p + s)) 48) (k - 1) : Nat) : Int)) (Post := fun b => b = zI ((fb_ct (fun c => F c && bb x (c / 9)) n432 : Nat) : Int)) (fun k s hk hs => by
    obtain ⟨h1, rfl⟩ := hs
    obtain ⟨t, rfl⟩ : ∃ t, k = t + 1 := ⟨k - 1, by omega⟩
    refine Or.inl ⟨zI ((rsm (fun s => fb_ct (fun p => (fun c => F c && bb x (c / 9)) (9 * p + s)) 48) (t + 1) : Nat) : Int), ?_, by omega, rfl⟩
    unfold FX2_countIn_s5
    simp (disch := omega) only [zlet, obind, zI_lit, zI_neg, zI_add, zI_sub, zI_mul, zI_div, zI_le, zI_lt, zI_eq, zI_cl, irem, ile_t, ile_f, ilt_t, ilt_f, ieq_t, ieq_f, and_true, true_and, and_false, false_and, and_self, not_true_eq_false, not_false_eq_true, ↓reduceIte, Int.toNat_natCast, tqb_z, tqb_t, tqb_f, rg_49_0, bc_eq]
    rw [key t (by omega), rsm_s, Nat.add_sub_cancel]
    rfl) (fun s hs => by
    obtain ⟨-, rfl⟩ := hs
    refine ⟨_, ?_, rfl⟩
    unfold FX2_countIn_s5
    simp (disch := omega) only [zlet, obind, zI_lit, zI_neg, zI_add, zI_sub, zI_mul, zI_div, zI_le, zI_lt, zI_eq, zI_cl, irem, ile_t, ile_f, ilt_t, ilt_f, ieq_t, ieq_f, and_true, true_and, and_false, false_and, and_self, not_true_eq_false, not_false_eq_true, ↓reduceIte, Int.toNat_natCast, tqb_z, tqb_t, tqb_f]
    exact congrArg (fun v : Nat => some (Sum.inr (zI (v : Int)))) ((ct9 (fun c => F c && bb x (c / 9)) 48).trans (by rw [n432_e]))) 1 0 (by omega) (by omega) ⟨by omega, rfl⟩
  unfold FX2_countIn
  exact congrArg (fun o => Option.bind o _) e
theorem r_within {I J : tq_PI} {M : tq_PL} {y o m : Nat} {lc lh : Nat → Nat} (D : LD I y (J 137) o m lc lh) (h33 : J 136 33 = zI (o : Int)) (ho : o + 17 ≤ 4016) {k : Nat} (hk : k < 48) {a : Int} (ha : 0 ≤ a ∧ a ≤ 12) {x : Int64} (hx : ∀ p, bb x p = decide (p < 48 ∧ (dis p k : Int) ≤ a)) : tq_it (fun p : Int32 × Int32 => FX12_within_s36 J M 136 (zI (k : Int)) (zI a) p.1 p.2) tq_N ((0 : Int32), (0 : Int32)) = some (zI ((fb_ct (fun c => fit m lc lh c && bb x (c / 9)) n432 : Nat) : Int)) := by
  have nn := n432_e
  generalize n432 = N at *
  obtain ⟨b, e, hb⟩ := it_for (f := fun p : Int32 × Int32 => FX12_within_s36 J M 136 (zI (k : Int)) (zI a) p.1 p.2) (fun c (s : Int32) => (s, zI (c : Int))) N (fun c s => s = zI ((fb_ct (fun c => fit m lc lh c && bb x (c / 9)) c : Nat) : Int)) (Post := fun b => b = zI ((fb_ct (fun c => fit m lc lh c && bb x (c / 9)) N : Nat) : Int)) (fun c s hc hs => by
    subst hs
    refine Or.inl ⟨zI ((fb_ct (fun c => fit m lc lh c && bb x (c / 9)) (c + 1) : Nat) : Int), ?_, rfl⟩
    have e1 : zI (c : Int) / zI 9 = zI ((c / 9 : Nat) : Int) := by rw [zI_div (by omega) (by omega)]; congr 1
    have so := r_isSo (M := M) D h33 (by omega) (c := c) (by omega)
    have fr := r_far J M (p := c / 9) (q := k) (by omega) (by omega)
    have hd := dis_le (p := c / 9) (q := k) (by omega) (by omega)
    have hxx := hx (c / 9)
    have h9 : (9 : Int32) = zI 9 := rfl
    have n9 : ¬ zI 9 = 0 := by decide
    unfold FX12_within_s36 FX12_within_j72L36 FX12_within_j73L36
    simp only [h9, n9, not_false_eq_true, if_true, e1, fr, obind, so]
    simp (disch := omega) only [zlet, obind, zI_lit, zI_neg, zI_add, zI_sub, zI_mul, zI_div, zI_le, zI_lt, zI_eq, zI_cl, irem, ile_t, ile_f, ilt_t, ilt_f, ieq_t, ieq_f, and_true, true_and, and_false, false_and, and_self, not_true_eq_false, not_false_eq_true, ↓reduceIte, Int.toNat_natCast, tqb_z, tqb_t, tqb_f]
    rw [fb_ct_succ]
    by_cases r : a < (dis (c / 9) k : Nat)
    · rw [if_pos r, hxx, decide_eq_false (by omega)]
      simp
    · rw [if_neg r, hxx, decide_eq_true (by omega)]
      cases fit m lc lh c <;> simp) (fun s hs => by
    subst hs
    refine ⟨_, ?_, rfl⟩
    unfold FX12_within_s36
    simp (disch := omega) only [zlet, obind, zI_lit, zI_neg, zI_add, zI_sub, zI_mul, zI_div, zI_le, zI_lt, zI_eq, zI_cl, irem, ile_t, ile_f, ilt_t, ilt_f, ieq_t, ieq_f, and_true, true_and, and_false, false_and, and_self, not_true_eq_false, not_false_eq_true, ↓reduceIte, Int.toNat_natCast, tqb_z, tqb_t, tqb_f]) 0 0 (by omega) (by omega) rfl
  subst hb
  exact e
theorem tb1 : ¬ tq_b true = 0 := by decide
theorem r_withinq {J J1 : tq_PI} {M : tq_PL} {x0 : Int32} (eL : FX12_isLog J M 136 x0 = some (true, J1)) {k : Nat} (hk : k < 48) {a : Int} (ha : 0 ≤ a ∧ a ≤ 12) {v : Int32} (e : tq_it (fun p : Int32 × Int32 => FX12_within_s36 J1 M 136 (zI (k : Int)) (zI a) p.1 p.2) tq_N ((0 : Int32), (0 : Int32)) = some v) : FX12_within J M 136 x0 (zI (k : Int)) (zI a) = some (v, J1) := by
  have n1 : FX12_isIn J1 M (zI (k : Int)) 0 47 = true := by
    simp (disch := omega) only [zlet, obind, zI_lit, zI_neg, zI_add, zI_sub, zI_mul, zI_div, zI_le, zI_lt, zI_eq, zI_cl, irem, ile_t, ile_f, ilt_t, ilt_f, ieq_t, ieq_f, and_true, true_and, and_false, false_and, and_self, not_true_eq_false, not_false_eq_true, ↓reduceIte, Int.toNat_natCast, tqb_z, tqb_t, tqb_f, r_isIn, decide_eq_false_iff_not, decide_eq_true_eq, oel_s, oel_n, Bool.false_eq_true, btf, eq_self, or_self, or_false, false_or, or_true, true_or, iand_f, iandl_f, ior_t, ior_f]
  have n2 : FX12_isIn J1 M (zI a) 0 12 = true := by
    simp (disch := omega) only [zlet, obind, zI_lit, zI_neg, zI_add, zI_sub, zI_mul, zI_div, zI_le, zI_lt, zI_eq, zI_cl, irem, ile_t, ile_f, ilt_t, ilt_f, ieq_t, ieq_f, and_true, true_and, and_false, false_and, and_self, not_true_eq_false, not_false_eq_true, ↓reduceIte, Int.toNat_natCast, tqb_z, tqb_t, tqb_f, r_isIn, decide_eq_false_iff_not, decide_eq_true_eq, oel_s, oel_n, Bool.false_eq_true, btf, eq_self, or_self, or_false, false_or, or_true, true_or, iand_f, iandl_f, ior_t, ior_f]
  unfold FX12_within
  rw [eL, obind]
  dsimp only
  rw [if_neg tb1, zlet, n1, if_neg tb1, zlet, n2, if_neg tb1]
  rw [e, obind]
theorem q_within {I : tq_PI} {L : tq_PL} (Y : LV I 1 0) (y u t : Int32) : ∃ v L2, FX11_within I L 0 y u t = some (v, L2) ∧ FP L L2 ∧ ∀ J M, J 137 = I 137 → ∃ J2, FX12_within J M 136 y u t = some (v, J2) ∧ FP J J2 := by
  rcases log_case Y y with q | ⟨j, n, lc, lh, hj, rfl, ey, D, ry⟩
  · refine ⟨-1, L, by unfold FX11_within FX11_within_j35; rw [rg_0_0, (q L).1, obind]; rfl, FP.rf, fun J M hJ => ⟨J, by unfold FX12_within FX12_within_j28; rw [(q L).2 J M hJ, obind]; rfl, FP.rf⟩⟩
  · obtain ⟨z, hz, rfl⟩ := zI_of u
    obtain ⟨a, ha, rfl⟩ := zI_of t
    have P : ∀ J : tq_PI, FP J (tq_up2 J 136 33 (zI ((952 + 17 * j : Nat) : Int))) := fun J => (FC.up (b := 136)).fp (by unfold psl; omega)
    by_cases q2 : (0 ≤ z ∧ z < 48) ∧ (0 ≤ a ∧ a ≤ 12)
    · obtain ⟨k, rfl⟩ : ∃ k : Nat, z = k := ⟨z.toNat, by omega⟩
      obtain ⟨M1, eM, FM, G⟩ := c_gather L hj D
      obtain ⟨x, ex, hx⟩ := c_near I M1 (q := k) (by omega) (z := a) (by omega)
      have ec := c_countIn I G x
      have nn := n432_e
      refine ⟨zI ((fb_ct (fun c => fit n lc lh c && bb x (c / 9)) n432 : Nat) : Int), M1, ?_, FM.fp (by unfold psl; omega), fun J M hJ => ⟨_, ?_, P J⟩⟩
      · unfold FX11_within FX2_countNear
        simp only [rg_0_0, rg_0_7, ey L, obind, oel_s, eM, ex, ec]
        simp (disch := omega) only [zlet, obind, zI_lit, zI_neg, zI_add, zI_sub, zI_mul, zI_div, zI_le, zI_lt, zI_eq, zI_cl, irem, ile_t, ile_f, ilt_t, ilt_f, ieq_t, ieq_f, and_true, true_and, and_false, false_and, and_self, not_true_eq_false, not_false_eq_true, ↓reduceIte, Int.toNat_natCast, tqb_z, tqb_t, tqb_f, r_isIn, decide_eq_false_iff_not, decide_eq_true_eq, oel_s, oel_n, Bool.false_eq_true, btf, eq_self, or_self, or_false, false_or, or_true, true_or, iand_f, iandl_f, ior_t, ior_f]
      · have D' : LD I (13 + 10 * j) ((tq_up2 J 136 33 (zI ((952 + 17 * j : Nat) : Int))) 137) (952 + 17 * j) n lc lh := by
          have : (tq_up2 J 136 33 (zI ((952 + 17 * j : Nat) : Int))) 137 = I 137 := by rw [P J 137 (by unfold psl; omega), hJ]
          rw [this]; exact D
        have e' := r_within (M := M) (x := x) D' (up_s _ _ _ _) (by omega) (k := k) (by omega) (a := a) (by omega) hx
        exact r_withinq (ry J M hJ) (by omega) (by omega) e'
    · refine ⟨-1, L, ?_, FP.rf, fun J M hJ => ⟨_, ?_, P J⟩⟩
      · unfold FX11_within FX11_within_j35
        simp only [rg_0_0, ey L, obind, oel_s]
        by_cases q3 : z < 0
        · simp (disch := omega) only [zlet, obind, zI_lit, zI_neg, zI_add, zI_sub, zI_mul, zI_div, zI_le, zI_lt, zI_eq, zI_cl, irem, ile_t, ile_f, ilt_t, ilt_f, ieq_t, ieq_f, and_true, true_and, and_false, false_and, and_self, not_true_eq_false, not_false_eq_true, ↓reduceIte, Int.toNat_natCast, tqb_z, tqb_t, tqb_f, r_isIn, decide_eq_false_iff_not, decide_eq_true_eq, oel_s, oel_n, Bool.false_eq_true, btf, eq_self, or_self, or_false, false_or, or_true, true_or, iand_f, iandl_f, ior_t, ior_f]
        · by_cases q4 : z < 48
          · by_cases q5 : a < 0
            · simp (disch := omega) only [zlet, obind, zI_lit, zI_neg, zI_add, zI_sub, zI_mul, zI_div, zI_le, zI_lt, zI_eq, zI_cl, irem, ile_t, ile_f, ilt_t, ilt_f, ieq_t, ieq_f, and_true, true_and, and_false, false_and, and_self, not_true_eq_false, not_false_eq_true, ↓reduceIte, Int.toNat_natCast, tqb_z, tqb_t, tqb_f, r_isIn, decide_eq_false_iff_not, decide_eq_true_eq, oel_s, oel_n, Bool.false_eq_true, btf, eq_self, or_self, or_false, false_or, or_true, true_or, iand_f, iandl_f, ior_t, ior_f]
            · simp (disch := omega) only [zlet, obind, zI_lit, zI_neg, zI_add, zI_sub, zI_mul, zI_div, zI_le, zI_lt, zI_eq, zI_cl, irem, ile_t, ile_f, ilt_t, ilt_f, ieq_t, ieq_f, and_true, true_and, and_false, false_and, and_self, not_true_eq_false, not_false_eq_true, ↓reduceIte, Int.toNat_natCast, tqb_z, tqb_t, tqb_f, r_isIn, decide_eq_false_iff_not, decide_eq_true_eq, oel_s, oel_n, Bool.false_eq_true, btf, eq_self, or_self, or_false, false_or, or_true, true_or, iand_f, iandl_f, ior_t, ior_f]
          · simp (disch := omega) only [zlet, obind, zI_lit, zI_neg, zI_add, zI_sub, zI_mul, zI_div, zI_le, zI_lt, zI_eq, zI_cl, irem, ile_t, ile_f, ilt_t, ilt_f, ieq_t, ieq_f, and_true, true_and, and_false, false_and, and_self, not_true_eq_false, not_false_eq_true, ↓reduceIte, Int.toNat_natCast, tqb_z, tqb_t, tqb_f, r_isIn, decide_eq_false_iff_not, decide_eq_true_eq, oel_s, oel_n, Bool.false_eq_true, btf, eq_self, or_self, or_false, false_or, or_true, true_or, iand_f, iandl_f, ior_t, ior_f]
      · unfold FX12_within FX12_within_j28
        by_cases q3 : 0 ≤ z ∧ z < 48
        · by_cases q5 : a < 0
          · simp (disch := omega) only [ry J M hJ, zlet, obind, zI_lit, zI_neg, zI_add, zI_sub, zI_mul, zI_div, zI_le, zI_lt, zI_eq, zI_cl, irem, ile_t, ile_f, ilt_t, ilt_f, ieq_t, ieq_f, and_true, true_and, and_false, false_and, and_self, not_true_eq_false, not_false_eq_true, ↓reduceIte, Int.toNat_natCast, tqb_z, tqb_t, tqb_f, r_isIn, decide_eq_false_iff_not, decide_eq_true_eq, oel_s, oel_n, Bool.false_eq_true, btf, eq_self, or_self, or_false, false_or, or_true, true_or, iand_f, iandl_f, ior_t, ior_f]
          · simp (disch := omega) only [ry J M hJ, zlet, obind, zI_lit, zI_neg, zI_add, zI_sub, zI_mul, zI_div, zI_le, zI_lt, zI_eq, zI_cl, irem, ile_t, ile_f, ilt_t, ilt_f, ieq_t, ieq_f, and_true, true_and, and_false, false_and, and_self, not_true_eq_false, not_false_eq_true, ↓reduceIte, Int.toNat_natCast, tqb_z, tqb_t, tqb_f, r_isIn, decide_eq_false_iff_not, decide_eq_true_eq, oel_s, oel_n, Bool.false_eq_true, btf, eq_self, or_self, or_false, false_or, or_true, true_or, iand_f, iandl_f, ior_t, ior_f]
        · by_cases q5 : z < 0
          · simp (disch := omega) only [ry J M hJ, zlet, obind, zI_lit, zI_neg, zI_add, zI_sub, zI_mul, zI_div, zI_le, zI_lt, zI_eq, zI_cl, irem, ile_t, ile_f, ilt_t, ilt_f, ieq_t, ieq_f, and_true, true_and, and_false, false_and, and_self, not_true_eq_false, not_false_eq_true, ↓reduceIte, Int.toNat_natCast, tqb_z, tqb_t, tqb_f, r_isIn, decide_eq_false_iff_not, decide_eq_true_eq, oel_s, oel_n, Bool.false_eq_true, btf, eq_self, or_self, or_false, false_or, or_true, true_or, iand_f, iandl_f, ior_t, ior_f]
          · simp (disch := omega) only [ry J M hJ, zlet, obind, zI_lit, zI_neg, zI_add, zI_sub, zI_mul, zI_div, zI_le, zI_lt, zI_eq, zI_cl, irem, ile_t, ile_f, ilt_t, ilt_f, ieq_t, ieq_f, and_true, true_and, and_false, false_and, and_self, not_true_eq_false, not_false_eq_true, ↓reduceIte, Int.toNat_natCast, tqb_z, tqb_t, tqb_f, r_isIn, decide_eq_false_iff_not, decide_eq_true_eq, oel_s, oel_n, Bool.false_eq_true, btf, eq_self, or_self, or_false, false_or, or_true, true_or, iand_f, iandl_f, ior_t, ior_f]
