/-! LOGS: how loud it is at a cell, by the class; the query range. -/
theorem ct_col (G : Nat → Bool) {s : Nat} (hs : s < 9) : ∀ n, fb_ct (fun c => decide (c % 9 = s) && G c) (9 * n) = fb_ct (fun p => G (9 * p + s)) n
  | 0 => rfl
  | n + 1 => by
    rw [show 9 * (n + 1) = 9 * n + 9 by omega, fb_ct_split, ct_col G hs n, fb_ct_succ (fun p => G (9 * p + s)) n]
    congr 1
    have e : fb_ct (fun k => decide ((9 * n + k) % 9 = s) && G (9 * n + k)) 9 = fb_ct (fun k => decide (k = s) && G (9 * n + k)) 9 := fb_ct_cong fun k hk => by rw [show (9 * n + k) % 9 = k by omega]
    rw [e]
    rcases (by omega : s = 0 ∨ s = 1 ∨ s = 2 ∨ s = 3 ∨ s = 4 ∨ s = 5 ∨ s = 6 ∨ s = 7 ∨ s = 8) with rfl | rfl | rfl | rfl | rfl | rfl | rfl | rfl | rfl <;> simp [fb_ct]
/-- the codes that are heard so loud, of those that are nearer than d, or at d and fainter than s -/
def lsd (F : Nat → Bool) (q d s h c : Nat) : Bool := F c && decide (hrs c q = h) && decide (dis (c / 9) q < d ∨ (dis (c / 9) q = d ∧ c % 9 < s))
def TM (I : tq_PI) (F : Nat → Bool) (q d s : Nat) : Prop := ∀ h, h < 10 → I 51 h = zI ((fb_ct (lsd F q d s h) n432 : Nat) : Int)
theorem TM_next {I : tq_PI} {F : Nat → Bool} {q d : Nat} (T : TM I F q d 9) : TM I F q (d + 1) 0 := fun h hh => by
  rw [T h hh]
  have e : lsd F q d 9 h = lsd F q (d + 1) 0 h := funext fun c => by
    unfold lsd
    congr 1
    rw [decide_eq_decide]
    omega
  rw [e]
theorem TM_step {I : tq_PI} {F : Nat → Bool} {q d s : Nat} (T : TM I F q d s) (hs : s < 9) : TM (tq_up2 I 51 (s + 1 - d) (I 51 (s + 1 - d) + zI ((fb_ct (fun p => F (9 * p + s) && decide (dis p q = d)) 48 : Nat) : Int))) F q d (s + 1) := fun h hh => by
  by_cases e : h = s + 1 - d
  · subst e
    rw [up_s, T _ hh, zI_add]
    congr 1
    have e1 := ct_col (fun c => F c && decide (dis (c / 9) q = d)) hs 48
    have e2 : fb_ct (fun p => (fun c => F c && decide (dis (c / 9) q = d)) (9 * p + s)) 48 = fb_ct (fun p => F (9 * p + s) && decide (dis p q = d)) 48 := fb_ct_cong fun p _ => by
      dsimp only
      rw [show (9 * p + s) / 9 = p by omega]
    rw [← e2, ← e1, show 9 * 48 = n432 from n432_e.symm]
    generalize n432 = N
    rw [← Int.natCast_add, ← fb_ct_or (fun k _ h => by
      simp only [lsd, Bool.and_eq_true, decide_eq_true_eq] at h
      omega)]
    congr 1
    refine fb_ct_cong fun c _ => ?_
    rw [Bool.eq_iff_iff]
    simp only [lsd, Bool.and_eq_true, Bool.or_eq_true, decide_eq_true_eq]
    unfold hrs
    constructor
    · rintro (⟨⟨h1, h2⟩, h3⟩ | ⟨h1, h2, h3⟩)
      · exact ⟨⟨h1, h2⟩, by omega⟩
      · exact ⟨⟨h2, by omega⟩, by omega⟩
    · rintro ⟨⟨h1, h2⟩, h3⟩
      by_cases h4 : dis (c / 9) q < d ∨ (dis (c / 9) q = d ∧ c % 9 < s)
      · exact Or.inl ⟨⟨h1, h2⟩, h4⟩
      · exact Or.inr ⟨by omega, h1, by omega⟩
  · rw [up_n _ _ (by omega), T h hh]
    congr 2
    refine fb_ct_cong fun c _ => ?_
    rw [Bool.eq_iff_iff]
    simp only [lsd, Bool.and_eq_true, decide_eq_true_eq]
    unfold hrs
    constructor
    · rintro ⟨⟨h1, h2⟩, h3⟩
      exact ⟨⟨h1, h2⟩, by omega⟩
    · rintro ⟨⟨h1, h2⟩, h3⟩
      exact ⟨⟨h1, h2⟩, by omega⟩
theorem c_listens {I : tq_PI} {M : tq_PL} {F : Nat → Bool} (G : GA M F) {q d : Nat} (hd : d ≤ 12) {x y : Int64} (hx : ∀ p, bb x p = decide (p < 48 ∧ dis p q < d)) (hy : ∀ p, bb y p = decide (p < 48 ∧ dis p q ≤ d)) (T : TM I F q d 0) : ∃ J, tq_it (fun p : Int32 × tq_PI => FX2_listenAt_s46 p.2 M 49 x y (zI (d : Int)) p.1) tq_N ((1 : Int32), I) = some J ∧ FC 51 I J ∧ TM J F q d 9 := by
  obtain ⟨J, e, h1, h2⟩ := it_for (f := fun p : Int32 × tq_PI => FX2_listenAt_s46 p.2 M 49 x y (zI (d : Int)) p.1) (fun k (s : tq_PI) => (zI (k : Int), s)) 10 (fun k J => 1 ≤ k ∧ FC 51 I J ∧ TM J F q d (k - 1)) (Post := fun J => FC 51 I J ∧ TM J F q d 9) (fun k J hk hJ => by
    obtain ⟨h1, h2, h3⟩ := hJ
    obtain ⟨s, rfl⟩ : ∃ s, k = s + 1 := ⟨k - 1, by omega⟩
    rw [Nat.add_sub_cancel] at h3
    have ct : fb_ct (bb ((M 50 (s + 1) &&& y) &&& (x ^^^ (-1 : Int64)))) 64 = fb_ct (fun p => F (9 * p + s) && decide (dis p q = d)) 48 := ct_cut fun p => by
      rw [bb_and, bb_and, bb_not, G s (by omega) p, hx p, hy p]
      by_cases hp : p < 48
      · rw [decide_eq_true hp, decide_eq_true (by omega : p < 64), Bool.true_and, Bool.true_and, Bool.true_and, Bool.and_assoc]
        congr 1
        by_cases a : dis p q = d
        · rw [decide_eq_true (by omega), decide_eq_false (by omega), decide_eq_true a]; rfl
        · by_cases b : dis p q < d
          · rw [decide_eq_true (⟨hp, b⟩ : p < 48 ∧ dis p q < d), decide_eq_false a]; simp
          · rw [decide_eq_false (by omega : ¬ (p < 48 ∧ dis p q ≤ d)), decide_eq_false a]; rfl
      · rw [decide_eq_false hp]; rfl
    refine Or.inl ⟨tq_up2 J 51 (s + 1 - d) (J 51 (s + 1 - d) + zI ((fb_ct (fun p => F (9 * p + s) && decide (dis p q = d)) 48 : Nat) : Int)), ?_, by omega, h2.tr FC.up, TM_step h3 (by omega)⟩
    have em : (if (0 : Int32) < (zI ((s + 1 : Nat) : Int) - zI (d : Int)) then (zI ((s + 1 : Nat) : Int) - zI (d : Int)) else (0 : Int32)) = zI ((s + 1 - d : Nat) : Int) := by
      simp (disch := omega) only [zlet, obind, zI_lit, zI_neg, zI_add, zI_sub, zI_mul, zI_div, zI_le, zI_lt, zI_eq, zI_cl, irem, ile_t, ile_f, ilt_t, ilt_f, ieq_t, ieq_f, and_true, true_and, and_false, false_and, and_self, not_true_eq_false, not_false_eq_true, ↓reduceIte, Int.toNat_natCast, tqb_z, tqb_t, tqb_f]
      by_cases a : (0 : Int) < ((s + 1 : Nat) : Int) - d
      · rw [if_pos a]; congr 1; omega
      · rw [if_neg a]; congr 1; omega
    unfold FX2_listenAt_s46 FX2_listenAt_j106L46
    rw [em]
    simp (disch := omega) only [zlet, obind, zI_lit, zI_neg, zI_add, zI_sub, zI_mul, zI_div, zI_le, zI_lt, zI_eq, zI_cl, irem, ile_t, ile_f, ilt_t, ilt_f, ieq_t, ieq_f, and_true, true_and, and_false, false_and, and_self, not_true_eq_false, not_false_eq_true, ↓reduceIte, Int.toNat_natCast, tqb_z, tqb_t, tqb_f, rg_49_0, rg_49_1, bc_eq, ct]
    rfl) (fun J hJ => ⟨J, by
    unfold FX2_listenAt_s46
    simp (disch := omega) only [zlet, obind, zI_lit, zI_neg, zI_add, zI_sub, zI_mul, zI_div, zI_le, zI_lt, zI_eq, zI_cl, irem, ile_t, ile_f, ilt_t, ilt_f, ieq_t, ieq_f, and_true, true_and, and_false, false_and, and_self, not_true_eq_false, not_false_eq_true, ↓reduceIte, Int.toNat_natCast, tqb_z, tqb_t, tqb_f], hJ.2⟩) 1 I (by omega) (by omega) ⟨by omega, FC.rf, T⟩
  exact ⟨J, e, h1, h2⟩
theorem c_listen {I : tq_PI} {M : tq_PL} {F : Nat → Bool} (G : GA M F) {q : Nat} (hq : q < 48) : ∃ J, FX2_listenAt I M 49 (zI (q : Int)) = some J ∧ FC 51 I J ∧ ∀ h, h < 10 → J 51 h = zI ((fb_ct (fun c => F c && decide (hrs c q = h)) n432 : Nat) : Int) := by
  obtain ⟨I0, e0, F0, T0⟩ := it_for (f := fun p : Int32 × tq_PI => FX2_listenAt_s2 p.2 M 49 (zI (q : Int)) p.1) (fun k (s : tq_PI) => (zI (k : Int), s)) 10 (fun k J => FC 51 I J ∧ ∀ h, h < k → J 51 h = zI 0) (Post := fun J => FC 51 I J ∧ TM J F q 0 0) (fun k J hk hJ => by
    refine Or.inl ⟨tq_up2 J 51 k (zI 0), ?_, hJ.1.tr FC.up, fun h hh => ?_⟩
    · unfold FX2_listenAt_s2
      simp (disch := omega) only [zlet, obind, zI_lit, zI_neg, zI_add, zI_sub, zI_mul, zI_div, zI_le, zI_lt, zI_eq, zI_cl, irem, ile_t, ile_f, ilt_t, ilt_f, ieq_t, ieq_f, and_true, true_and, and_false, false_and, and_self, not_true_eq_false, not_false_eq_true, ↓reduceIte, Int.toNat_natCast, tqb_z, tqb_t, tqb_f, rg_49_1]
      rfl
    · by_cases e : h = k
      · subst e; rw [up_s]
      · rw [up_n _ _ (by omega)]; exact hJ.2 h (by omega)) (fun J hJ => ⟨J, by
    unfold FX2_listenAt_s2
    simp (disch := omega) only [zlet, obind, zI_lit, zI_neg, zI_add, zI_sub, zI_mul, zI_div, zI_le, zI_lt, zI_eq, zI_cl, irem, ile_t, ile_f, ilt_t, ilt_f, ieq_t, ieq_f, and_true, true_and, and_false, false_and, and_self, not_true_eq_false, not_false_eq_true, ↓reduceIte, Int.toNat_natCast, tqb_z, tqb_t, tqb_f], hJ.1, fun h hh => by
      rw [hJ.2 h hh, fb_ct_zero.2 (fun k _ => by
        unfold lsd
        rw [decide_eq_false (by omega : ¬ (dis (k / 9) q < 0 ∨ (dis (k / 9) q = 0 ∧ k % 9 < 0))), Bool.and_false])]
      rfl⟩) 0 I (by omega) (by omega) ⟨FC.rf, fun h hh => by omega⟩
  obtain ⟨y0, ey, hy⟩ := c_near I0 M hq (z := 0) (by omega)
  obtain ⟨J, e, h1, h2⟩ := it_for (f := fun p : Int64 × Int64 × Int32 × tq_PI => FX2_listenAt_s36 p.2.2.2 M 49 p.1 p.2.1 p.2.2.1) (fun k (s : Int64 × Int64 × tq_PI) => (s.1, s.2.1, zI (k : Int), s.2.2)) 13 (fun k s => (∀ p, bb s.1 p = decide (p < 48 ∧ dis p q < k)) ∧ (∀ p, bb s.2.1 p = decide (p < 48 ∧ dis p q ≤ k)) ∧ FC 51 I s.2.2 ∧ TM s.2.2 F q k 0) (Post := fun J => FC 51 I J ∧ TM J F q 13 0) (fun k s hk hs => by
    obtain ⟨x, y, I1⟩ := s
    obtain ⟨s1, s2, s3, s4⟩ := hs
    dsimp only at s1 s2 s3 s4 ⊢
    obtain ⟨J, e, f, t⟩ := c_listens G (by omega) s1 s2 s4
    refine Or.inl ⟨(y, y ||| (FX11_nextTo J M y &&& (281474976710655 : Int64)), J), ?_, fun p => ?_, fun p => c_ring J M hq s2 p, s3.tr f, TM_next t⟩
    · unfold FX2_listenAt_s36
      rw [e]
      simp (disch := omega) only [zlet, obind, zI_lit, zI_neg, zI_add, zI_sub, zI_mul, zI_div, zI_le, zI_lt, zI_eq, zI_cl, irem, ile_t, ile_f, ilt_t, ilt_f, ieq_t, ieq_f, and_true, true_and, and_false, false_and, and_self, not_true_eq_false, not_false_eq_true, ↓reduceIte, Int.toNat_natCast, tqb_z, tqb_t, tqb_f]
      rfl
    · rw [s2 p, decide_eq_decide]; omega) (fun s hs => ⟨s.2.2, by
    unfold FX2_listenAt_s36
    simp (disch := omega) only [zlet, obind, zI_lit, zI_neg, zI_add, zI_sub, zI_mul, zI_div, zI_le, zI_lt, zI_eq, zI_cl, irem, ile_t, ile_f, ilt_t, ilt_f, ieq_t, ieq_f, and_true, true_and, and_false, false_and, and_self, not_true_eq_false, not_false_eq_true, ↓reduceIte, Int.toNat_natCast, tqb_z, tqb_t, tqb_f], hs.2.2⟩) 0 (0, y0, I0) (by omega) (by omega) ⟨fun p => by rw [bb_0]; symm; rw [decide_eq_false_iff_not]; omega, fun p => by rw [hy p, decide_eq_decide]; omega, F0, T0⟩
  refine ⟨J, ?_, h1, fun h hh => ?_⟩
  · unfold FX2_listenAt
    refine (congrArg (fun o => Option.bind o _) e0).trans ?_
    rw [obind]
    refine (congrArg (fun o => Option.bind o _) ey).trans ?_
    rw [obind]
    exact congrArg (fun o => Option.bind o _) e
  · rw [h2 h hh]
    have nn := n432_e
    generalize n432 = N at *
    congr 2
    refine fb_ct_cong fun c hc => ?_
    unfold lsd
    rw [decide_eq_true (Or.inl (by have := dis_le (p := c / 9) (q := q) (by omega) hq; omega)), Bool.and_true]
