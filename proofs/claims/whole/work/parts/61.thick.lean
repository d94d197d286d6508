/-! THICK: the reference's ways done, their least. -/
theorem isD_st {w h s : Nat} {K D : Nat → Nat} (d : isD w h K s D) : ∀ n t p, Wk w h K s n t p → D p < 100 * (t + 1) := by
  intro n
  induction n with
  | zero => intro t p q; exact q.elim
  | succ n ih =>
    intro t p q
    match n, q with
    | 0, q =>
      have := (d.2 1 t p q).1
      omega
    | n + 1, ⟨q, u, q1, a, b, c, e⟩ =>
      have i1 := ih u q q1
      have i0 := (d.2 _ _ _ q1).2
      rcases d.1 q with i2 | ⟨m, v, hm, i2, i3⟩
      · omega
      · have i4 := (d.2 _ _ _ (Wk_s i2 a b c)).1
        have := cst_le K p
        have : v ≤ u := by omega
        omega
theorem Few_of {w h s : Nat} {K D : Nat → Nat} (d : isD w h K s D) {G : Nat → Bool} {v : Nat} (h1 : v = 99999 ∨ ∃ p, G p = true ∧ v = D p) (h2 : ∀ p, G p = true → v ≤ D p) (hv : v ≤ 99999) : Few w h K s G (if v = 99999 then -1 else ((v / 100 : Nat) : Int)) := by
  by_cases e : v = 99999
  · rw [if_pos e]
    refine Or.inr ⟨rfl, fun t p n g q => ?_⟩
    have := h2 p g
    have := (d.2 _ _ _ q).2
    omega
  · rw [if_neg e]
    rcases h1 with e2 | ⟨p, g, e2⟩
    · exact absurd e2 e
    · rcases d.1 p with e3 | ⟨n, t, hn, q, e3⟩
      · omega
      · have := Wk_le q
        refine Or.inl ⟨t, by omega, by omega, ⟨p, n, g, q⟩, fun u hu p2 n2 g2 q2 => ?_⟩
        have i1 := isD_st d _ _ _ q2
        have i2 := h2 p2 g2
        omega
theorem r_lays {I : tq_PI} {w h l s : Nat} {K : Nat → Nat} (R : RW I w h) (G : GR I w h l K) (hl : l ≤ 3) (L : tq_PL) (hs : s < 2) : ∃ (J : tq_PI) (D : Nat → Nat), FX12_laysWays I L 136 (zI (l : Int)) (zI (s : Int)) = some J ∧ FC 142 I J ∧ FD J w h D ∧ isD w h K s D := by
  have k := R.2.2
  have h48 := wh_le k
  have k4 : ∀ p, (zI ((K p : Nat) : Int) = zI 4) = (K p = 4) := fun p => by
    have := G.2.1 p
    rw [zI_eq (by omega) (by omega)]
    apply propext
    omega
  have hD0 : ∃ D0 : Nat → Nat, D0 = fun p => if edg w h s p = true ∧ K p ≠ 4 then 100 * cst K p + 1 else 99999 := ⟨_, rfl⟩
  obtain ⟨D0, hD0⟩ := hD0
  obtain ⟨J1, e1, F1, M1⟩ := it_for (f := fun p : Int32 × tq_PI => FX12_laysWays_s2 p.2 L 136 (zI (l : Int)) (zI (s : Int)) p.1) (fun i (J : tq_PI) => (zI (i : Int), J)) (w * h) (fun i J => FC 142 I J ∧ ∀ c, c < i → J 142 c = zI (D0 (pl w c) : Nat)) (Post := fun J => FC 142 I J ∧ ∀ c, c < w * h → J 142 c = zI (D0 (pl w c) : Nat)) (fun i J hi hs2 => by
    obtain ⟨F, hM⟩ := hs2
    have RJ := R.fc F (by omega)
    have GJ := G.fc F (by omega)
    obtain ⟨q1, q2, q3, q4⟩ := k
    have kk : wh w h := ⟨q1, q2, q3, q4⟩
    have hml : i % w < w := Nat.mod_lt _ (by omega)
    have hm := pl_mod kk i
    have e3 : ((i : Int) % (w : Int)) = ((i % w : Nat) : Int) := rfl
    have fin : ∀ v : Nat, v = D0 (pl w i) → ∀ c, c < i + 1 → tq_up2 J 142 i (zI (v : Int)) 142 c = zI (D0 (pl w c) : Nat) := fun b hb c hc => by
      by_cases q : c = i
      · rw [q, up_s, hb]
      · rw [up_n _ _ (Or.inr q)]
        exact hM c (by omega)
    have hed : edg w h s (pl w i) = decide (i % w = if s = 0 then 0 else w - 1) := by simp [edg, pl_ar kk hi, hm]
    unfold FX12_laysWays_s2 FX12_laysWays_j53L2 FX12_laysWays_j55L2 FX12_outermost
    simp (disch := omega) only [zlet, obind, zI_lit, zI_neg, zI_add, zI_sub, zI_mul, zI_div, zI_le, zI_lt, zI_eq, zI_cl, irem, ile_t, ile_f, ilt_t, ilt_f, ieq_t, ieq_f, and_true, true_and, and_false, false_and, and_self, not_true_eq_false, not_false_eq_true, ↓reduceIte, Int.toNat_natCast, tqb_z, tqb_t, tqb_f, r_many RJ, r_kind kk GJ hl, r_cost kk GJ hl, k4, RJ.1, g17, e3]
    have yes : i % w = (if s = 0 then 0 else w - 1) → ∀ c, c < i + 1 → tq_up2 J 142 i (if K (pl w i) = 4 then zI 99999 else zI (100 * (cst K (pl w i) : Int) + 1)) 142 c = zI (D0 (pl w c) : Nat) := fun hy => by
      by_cases ke : K (pl w i) = 4
      · rw [if_pos ke]
        refine fin 99999 ?_
        rw [hD0]
        simp [ke]
      · rw [if_neg ke]
        refine fin (100 * cst K (pl w i) + 1) ?_
        rw [hD0]
        simp [ke, hed, hy]
    have no : ¬ i % w = (if s = 0 then 0 else w - 1) → ∀ c, c < i + 1 → tq_up2 J 142 i (zI 99999) 142 c = zI (D0 (pl w c) : Nat) := fun hy => fin 99999 (by
      rw [hD0]
      simp [hed, hy])
    by_cases ke : K (pl w i) = 4
    · simp only [if_pos ke] at yes ⊢
      rcases (by omega : s = 0 ∨ s = 1) with rfl | rfl
      · simp (disch := omega) only [zlet, obind, zI_lit, zI_neg, zI_add, zI_sub, zI_mul, zI_div, zI_le, zI_lt, zI_eq, zI_cl, irem, ile_t, ile_f, ilt_t, ilt_f, ieq_t, ieq_f, and_true, true_and, and_false, false_and, and_self, not_true_eq_false, not_false_eq_true, ↓reduceIte, Int.toNat_natCast, tqb_z, tqb_t, tqb_f]
        by_cases q : i % w = 0
        · rw [if_pos (by omega)]
          exact Or.inl ⟨_, rfl, F.tr FC.up, yes (by simp [q])⟩
        · rw [if_neg (by omega)]
          exact Or.inl ⟨_, rfl, F.tr FC.up, no (by simp [q])⟩
      · simp (disch := omega) only [zlet, obind, zI_lit, zI_neg, zI_add, zI_sub, zI_mul, zI_div, zI_le, zI_lt, zI_eq, zI_cl, irem, ile_t, ile_f, ilt_t, ilt_f, ieq_t, ieq_f, and_true, true_and, and_false, false_and, and_self, not_true_eq_false, not_false_eq_true, ↓reduceIte, Int.toNat_natCast, tqb_z, tqb_t, tqb_f]
        by_cases q : i % w = w - 1
        · rw [if_pos (by omega)]
          exact Or.inl ⟨_, rfl, F.tr FC.up, yes (by simp [q])⟩
        · rw [if_neg (by omega)]
          exact Or.inl ⟨_, rfl, F.tr FC.up, no (by simp [q])⟩
    · simp only [if_neg ke] at yes ⊢
      rcases (by omega : s = 0 ∨ s = 1) with rfl | rfl
      · simp (disch := omega) only [zlet, obind, zI_lit, zI_neg, zI_add, zI_sub, zI_mul, zI_div, zI_le, zI_lt, zI_eq, zI_cl, irem, ile_t, ile_f, ilt_t, ilt_f, ieq_t, ieq_f, and_true, true_and, and_false, false_and, and_self, not_true_eq_false, not_false_eq_true, ↓reduceIte, Int.toNat_natCast, tqb_z, tqb_t, tqb_f]
        by_cases q : i % w = 0
        · rw [if_pos (by omega)]
          exact Or.inl ⟨_, rfl, F.tr FC.up, yes (by simp [q])⟩
        · rw [if_neg (by omega)]
          exact Or.inl ⟨_, rfl, F.tr FC.up, no (by simp [q])⟩
      · simp (disch := omega) only [zlet, obind, zI_lit, zI_neg, zI_add, zI_sub, zI_mul, zI_div, zI_le, zI_lt, zI_eq, zI_cl, irem, ile_t, ile_f, ilt_t, ilt_f, ieq_t, ieq_f, and_true, true_and, and_false, false_and, and_self, not_true_eq_false, not_false_eq_true, ↓reduceIte, Int.toNat_natCast, tqb_z, tqb_t, tqb_f]
        by_cases q : i % w = w - 1
        · rw [if_pos (by omega)]
          exact Or.inl ⟨_, rfl, F.tr FC.up, yes (by simp [q])⟩
        · rw [if_neg (by omega)]
          exact Or.inl ⟨_, rfl, F.tr FC.up, no (by simp [q])⟩) (fun J hs2 => by
    have RJ := R.fc hs2.1 (by omega)
    unfold FX12_laysWays_s2
    simp (disch := omega) only [zlet, obind, zI_lit, zI_neg, zI_add, zI_sub, zI_mul, zI_div, zI_le, zI_lt, zI_eq, zI_cl, irem, ile_t, ile_f, ilt_t, ilt_f, ieq_t, ieq_f, and_true, true_and, and_false, false_and, and_self, not_true_eq_false, not_false_eq_true, ↓reduceIte, Int.toNat_natCast, tqb_z, tqb_t, tqb_f, r_many RJ]
    exact ⟨_, rfl, hs2⟩) 0 I (by omega) (by omega) ⟨FC.rf, fun c hc => absurd hc (Nat.not_lt_zero c)⟩
  have FD0 : FD J1 w h D0 := ⟨M1, fun p => by
    have := cst_le K p
    rw [hD0]
    dsimp only
    split <;> omega, fun p hp => by
    rw [hD0]
    simp [edg, hp]⟩
  have S0 : sndD w h K s D0 := fun p => by
    rw [hD0]
    by_cases q : edg w h s p = true ∧ K p ≠ 4
    · refine Or.inr ⟨1, cst K p, ⟨q.1, q.2, rfl⟩, by simp only [if_pos q]⟩
    · exact Or.inl (by simp only [if_neg q])
  obtain ⟨J2, e2, F2, D2, M2, d2⟩ := it_m (f := fun p : Int32 × tq_PI => FX12_laysWays_s64 p.2 L 136 (zI (l : Int)) p.1) (Inv := fun m a => ∃ (b : Bool) (J : tq_PI) (D : Nat → Nat), a = (zB b, J) ∧ FC 142 I J ∧ FD J w h D ∧ sndD w h K s D ∧ (∀ p, D p ≤ D0 p) ∧ (b = false → (∀ q p, ar w h q = true → ar w h p = true → adj q p → K p ≠ 4 → D p ≤ D q + 100 * cst K p + 1)) ∧ m = 2 * fb_sm D 48 + if b then 1 else 0) (Post := fun J => FC 142 I J ∧ ∃ D, FD J w h D ∧ isD w h K s D) (fun m a ha => by
    obtain ⟨b, J, D, rfl, F, M, S, l0, h1, h2⟩ := ha
    unfold FX12_laysWays_s64
    simp only [zI_lit, zB_0]
    cases b
    · rw [if_pos rfl]
      refine Or.inr ⟨_, rfl, F, D, M, isD_of k S (fun p q1 q2 => ?_) (h1 rfl)⟩
      have := l0 p
      rw [hD0] at this
      simp only [if_pos (And.intro q1 q2)] at this
      exact this
    · rw [if_neg (by simp)]
      obtain ⟨m2, J2, D2, e2, F2, M2, S2, l2, h3, h4⟩ := r_lays_c (R.fc F (by omega)) (G.fc F (by omega)) hl L M S
      refine Or.inl ⟨(zB m2, J2), _, (congrArg (fun o => Option.bind o _) e2).trans (obind _ _), ?_, m2, J2, D2, rfl, F.tr F2, M2, S2, fun p => Nat.le_trans (l2 p) (l0 p), fun q => ?_, rfl⟩
      · rw [h2]
        cases m2
        · have := (h3 rfl).1
          rw [this]
          simp
        · have h5 := h4 rfl
          simp
          omega
      · obtain ⟨q1, q2⟩ := h3 q
        rw [q1]
        exact q2) tq_N _ (zB true, J1) (by
      rw [tq_N_eq]
      have := fb_sm_le (f := D0) (g := fun _ => 99999) (n := 48) (fun p _ => FD0.2.1 p)
      rw [fb_sm_const] at this
      simp
      omega) ⟨true, J1, D0, rfl, F1, FD0, S0, fun _ => Nat.le_refl _, fun q => (by cases q), rfl⟩
  refine ⟨J2, D2, ?_, F2, M2, d2⟩
  unfold FX12_laysWays
  refine (congrArg (fun o => Option.bind o _) e1).trans ((obind _ _).trans ?_)
  exact (congrArg (fun o => Option.bind o _) e2).trans (obind _ _)
theorem r_through {I : tq_PI} {w h l : Nat} {K : Nat → Nat} (R : RW I w h) (G : GR I w h l K) (hl : l ≤ 3) (L : tq_PL) : ∃ (J : tq_PI) (D : Nat → Nat) (v : Nat), FX12_throughOf I L 136 (zI (l : Int)) = some (zI (v : Int), J) ∧ FC 142 I J ∧ isD w h K 0 D ∧ v ≤ 99999 ∧ (v = 99999 ∨ ∃ p, edg w h 1 p = true ∧ v = D p) ∧ ∀ p, edg w h 1 p = true → v ≤ D p := by
  have k := R.2.2
  have h48 := wh_le k
  obtain ⟨J, D, e, F, M, d⟩ := r_lays (s := 0) R G hl L (by omega)
  have RJ := R.fc F (by omega)
  have hi2 : ∀ i, i < h → w - 1 + w * i < w * h := fun i hi => by
    have : w * (i + 1) ≤ w * h := Nat.mul_le_mul (Nat.le_refl _) hi
    rw [Nat.mul_add] at this
    have := k.1
    omega
  have hpl : ∀ i, pl w (w - 1 + w * i) = 8 * i + (w - 1) := fun i => by
    have := k.1
    unfold pl
    rw [Nat.add_mul_div_left _ _ (by omega), Nat.add_mul_mod_self_left, Nat.div_eq_of_lt (by omega), Nat.mod_eq_of_lt (by omega)]
    omega
  obtain ⟨b, e2, v, hb1, hb2, hb3, hb4⟩ := it_for (f := fun p : Int32 × Int32 => FX12_throughOf_s16 J L 136 p.1 p.2) (fun i (x : Int32) => (x, zI ((w - 1 + w * i : Nat) : Int))) h (fun i x => ∃ v : Nat, x = zI (v : Int) ∧ v ≤ 99999 ∧ (v = 99999 ∨ ∃ j, j < h ∧ v = D (8 * j + (w - 1))) ∧ ∀ j, j < i → v ≤ D (8 * j + (w - 1))) (Post := fun x => ∃ v : Nat, x = zI (v : Int) ∧ v ≤ 99999 ∧ (v = 99999 ∨ ∃ j, j < h ∧ v = D (8 * j + (w - 1))) ∧ ∀ j, j < h → v ≤ D (8 * j + (w - 1))) (fun i x hi hx => by
    obtain ⟨v, rfl, h1, h2, h3⟩ := hx
    have hc := hi2 i hi
    have hM := M.1 _ hc
    rw [hpl] at hM
    have hle := M.2.1 (8 * i + (w - 1))
    unfold FX12_throughOf_s16 FX12_throughOf_j44L16
    have ec : ((w - 1 + w * i : Nat) : Int) + (w : Int) = ((w - 1 + w * (i + 1) : Nat) : Int) := by rw [Nat.mul_add]; omega
    generalize w - 1 + w * i = c at *
    simp (disch := omega) only [zlet, obind, zI_lit, zI_neg, zI_add, zI_sub, zI_mul, zI_div, zI_le, zI_lt, zI_eq, zI_cl, irem, ile_t, ile_f, ilt_t, ilt_f, ieq_t, ieq_f, and_true, true_and, and_false, false_and, and_self, not_true_eq_false, not_false_eq_true, ↓reduceIte, Int.toNat_natCast, tqb_z, tqb_t, tqb_f, r_many RJ, g17, hM, RJ.1, ec]
    by_cases q : v ≤ D (8 * i + (w - 1))
    · rw [if_pos (by omega)]
      refine Or.inl ⟨_, rfl, v, rfl, h1, h2, fun j hj => ?_⟩
      by_cases q2 : j = i
      · rw [q2]; exact q
      · exact h3 j (by omega)
    · rw [if_neg (by omega)]
      refine Or.inl ⟨_, rfl, _, rfl, hle, Or.inr ⟨i, hi, rfl⟩, fun j hj => ?_⟩
      by_cases q2 : j = i
      · rw [q2]; exact Nat.le_refl _
      · have := h3 j (by omega); omega) (fun x hx => by
    unfold FX12_throughOf_s16
    have : w * h ≤ w - 1 + w * h := by omega
    have h8 := k.2.1
    generalize hcc : w - 1 + w * h = c at *
    simp (disch := omega) only [zlet, obind, zI_lit, zI_neg, zI_add, zI_sub, zI_mul, zI_div, zI_le, zI_lt, zI_eq, zI_cl, irem, ile_t, ile_f, ilt_t, ilt_f, ieq_t, ieq_f, and_true, true_and, and_false, false_and, and_self, not_true_eq_false, not_false_eq_true, ↓reduceIte, Int.toNat_natCast, tqb_z, tqb_t, tqb_f, r_many RJ]
    exact ⟨_, rfl, hx⟩) 0 (zI ((99999 : Nat) : Int)) (by omega) (by have := k.2.2.2; omega) ⟨99999, rfl, by omega, Or.inl rfl, fun j hj => absurd hj (Nat.not_lt_zero j)⟩
  have hed : ∀ j, j < h → edg w h 1 (8 * j + (w - 1)) = true := fun j hj => by
    have h1 := k.1
    have h2 := k.2.1
    unfold edg
    rw [Bool.and_eq_true, ar_iff, decide_eq_true_eq]
    simp
    omega
  refine ⟨J, D, v, ?_, F, d, hb2, ?_, fun p hp => ?_⟩
  · unfold FX12_throughOf
    rw [show ((0 : Int32)) = zI ((0 : Nat) : Int) from rfl, e, obind, RJ.1]
    have ez : (zI (w : Int) - 1) = zI ((w - 1 + w * 0 : Nat) : Int) := by
      have := k.1
      simp only [zlet, obind, zI_lit, zI_neg, zI_add, zI_sub, zI_mul, zI_div, zI_le, zI_lt, zI_eq, zI_cl, irem, ile_t, ile_f, ilt_t, ilt_f, ieq_t, ieq_f, and_true, true_and, and_false, false_and, and_self, not_true_eq_false, not_false_eq_true, ↓reduceIte, Int.toNat_natCast, tqb_z, tqb_t, tqb_f]
      congr 1
      omega
    rw [ez]
    rw [hb1] at e2
    exact (congrArg (fun o => Option.bind o _) e2).trans (obind _ _)
  · rcases hb3 with q | ⟨j, hj, q⟩
    · exact Or.inl q
    · exact Or.inr ⟨_, hed j hj, q⟩
  · unfold edg at hp
    rw [Bool.and_eq_true, ar_iff, decide_eq_true_eq] at hp
    simp only [show ¬ (1 : Nat) = 0 by omega, if_false] at hp
    have := hb4 (p / 8) hp.1.2
    rw [show 8 * (p / 8) + (w - 1) = p by omega] at this
    exact this
theorem r_thick {I : tq_PI} {w h l : Nat} {K : Nat → Nat} (R : RW I w h) (G : GR I w h l K) (hl : l ≤ 3) (L : tq_PL) : ∃ (J : tq_PI) (r : Int), FX12_thickOf I L 136 (zI (l : Int)) = some (zI r, J) ∧ FC 142 I J ∧ Few w h K 0 (edg w h 1) r := by
  obtain ⟨J, D, v, e, F, d, hv, h1, h2⟩ := r_through R G hl L
  refine ⟨J, _, ?_, F, Few_of d h1 h2 hv⟩
  unfold FX12_thickOf
  rw [e, obind]
  by_cases q : v = 99999
  · simp (disch := omega) only [zlet, obind, zI_lit, zI_neg, zI_add, zI_sub, zI_mul, zI_div, zI_le, zI_lt, zI_eq, zI_cl, irem, ile_t, ile_f, ilt_t, ilt_f, ieq_t, ieq_f, and_true, true_and, and_false, false_and, and_self, not_true_eq_false, not_false_eq_true, ↓reduceIte, Int.toNat_natCast, tqb_z, tqb_t, tqb_f]
    simp [q]
  · simp (disch := omega) only [zlet, obind, zI_lit, zI_neg, zI_add, zI_sub, zI_mul, zI_div, zI_le, zI_lt, zI_eq, zI_cl, irem, ile_t, ile_f, ilt_t, ilt_f, ieq_t, ieq_f, and_true, true_and, and_false, false_and, and_self, not_true_eq_false, not_false_eq_true, ↓reduceIte, Int.toNat_natCast, tqb_z, tqb_t, tqb_f]
    simp [q]
