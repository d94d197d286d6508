/-! QUERIES: MIRRORED; the query caves. -/
section MI
variable {w h : Nat} {K : Nat → Nat}
def mir (w h : Nat) (K : Nat → Nat) : Prop := ∀ y x, y < h → x < w → K (8 * y + x) = K (8 * y + (w - 1 - x))
theorem c_bitAt {I : tq_PI} {L : tq_PL} {a : Nat} (H : HC I L a w h K) {x y : Nat} (hx : x < w) (hy : y < h) : bb (FX3_bitAt I L a (zI (x : Int)) (zI (y : Int))) = fun q => decide (q = 8 * y + x) := by
  have h8 := H.k.2.1
  have h6 := H.k.2.2.2
  unfold FX3_bitAt FX3_bitAt_j24
  rw [H.1, H.2.1]
  simp (disch := omega) only [zlet, obind, zI_lit, zI_neg, zI_add, zI_sub, zI_mul, zI_div, zI_le, zI_lt, zI_eq, zI_cl, irem, ile_t, ile_f, ilt_t, ilt_f, ieq_t, ieq_f, and_true, true_and, and_false, false_and, and_self, not_true_eq_false, not_false_eq_true, ↓reduceIte, Int.toNat_natCast, tqb_z, tqb_t, tqb_f]
  funext q
  rw [bb_one (by omega)]
  congr 1
theorem c_mirror {I : tq_PI} {L : tq_PL} {a : Nat} (H : HC I L a w h K) : ∃ b : Bool, FX3_isMirrored I L a = some b ∧ (b = true ↔ mir w h K) := by
  have h8 := H.k.2.1
  have h6 := H.k.2.2.2
  have inner : ∀ y, y < h → ∃ o, tq_it (fun p : Int32 => FX3_isMirrored_s12 I L a (zI (y : Int)) p) tq_N (zI ((0 : Nat) : Int)) = some o ∧ ((o = .inl () ∧ ∀ x, x < w → K (8 * y + x) = K (8 * y + (w - 1 - x))) ∨ (o = .inr false ∧ ∃ x, x < w ∧ ¬ K (8 * y + x) = K (8 * y + (w - 1 - x)))) := fun y hy => by
    exact it_for (f := fun p : Int32 => FX3_isMirrored_s12 I L a (zI (y : Int)) p) (fun i (_ : Unit) => zI (i : Int)) w (fun i _ => ∀ x, x < i → K (8 * y + x) = K (8 * y + (w - 1 - x))) (Post := fun o => (o = .inl () ∧ ∀ x, x < w → K (8 * y + x) = K (8 * y + (w - 1 - x))) ∨ (o = .inr false ∧ ∃ x, x < w ∧ ¬ K (8 * y + x) = K (8 * y + (w - 1 - x)))) (fun i s hi hs => by
      have e1 := c_kindOfBit H (c_bitAt H hi hy)
      have e2 := c_kindOfBit H (c_bitAt H (x := w - 1 - i) (by omega) hy)
      have ei : zI (w : Int) - (1 : Int32) - zI (i : Int) = zI ((w - 1 - i : Nat) : Int) := by
        simp only [zI_lit, zI_sub]
        congr 1
        omega
      have k1 := H.le (8 * y + i)
      have k2 := H.le (8 * y + (w - 1 - i))
      unfold FX3_isMirrored_s12
      simp only [zlet, H.1, ei, e1, e2]
      simp (disch := omega) only [zI_le, zI_eq]
      rw [if_neg (by omega)]
      by_cases q : K (8 * y + i) = K (8 * y + (w - 1 - i))
      · rw [if_pos (by omega)]
        refine Or.inl ⟨(), by simp only [zI_lit, zI_add]; rfl, fun x hx => ?_⟩
        by_cases xi : x = i
        · rw [xi]; exact q
        · exact hs x (by omega)
      · rw [if_neg (by omega)]
        exact Or.inr ⟨_, rfl, Or.inr ⟨rfl, i, hi, q⟩⟩) (fun s hs => by
      unfold FX3_isMirrored_s12
      rw [H.1]
      simp (disch := omega) only [zlet, obind, zI_lit, zI_neg, zI_add, zI_sub, zI_mul, zI_div, zI_le, zI_lt, zI_eq, zI_cl, irem, ile_t, ile_f, ilt_t, ilt_f, ieq_t, ieq_f, and_true, true_and, and_false, false_and, and_self, not_true_eq_false, not_false_eq_true, ↓reduceIte, Int.toNat_natCast, tqb_z, tqb_t, tqb_f]
      exact ⟨_, rfl, Or.inl ⟨rfl, hs⟩⟩) 0 () (by omega) (by omega) (fun x hx => absurd hx (Nat.not_lt_zero x))
  obtain ⟨o, e, ho⟩ := it_for (f := fun p : Int32 => FX3_isMirrored_s2 I L a p) (fun i (_ : Unit) => zI (i : Int)) h (fun i _ => ∀ y, y < i → ∀ x, x < w → K (8 * y + x) = K (8 * y + (w - 1 - x))) (Post := fun o => (o = .inl () ∧ mir w h K) ∨ (o = .inr false ∧ ¬ mir w h K)) (fun i s hi hs => by
    obtain ⟨o, e, ho⟩ := inner i hi
    have e' : tq_it (fun p : Int32 => FX3_isMirrored_s12 I L a (zI (i : Int)) p) tq_N (0 : Int32) = some o := e
    unfold FX3_isMirrored_s2
    rw [H.2.1, if_neg (by rw [zI_le (by omega) (by omega)]; omega), e', obind]
    rcases ho with ⟨rfl, ho⟩ | ⟨rfl, x, hx, ho⟩
    · refine Or.inl ⟨(), by simp only [zI_lit, zI_add]; rfl, fun y hy => ?_⟩
      by_cases yi : y = i
      · rw [yi]; exact ho
      · exact hs y (by omega)
    · exact Or.inr ⟨_, rfl, Or.inr ⟨rfl, fun q => ho (q i x hi hx)⟩⟩) (fun s hs => by
    unfold FX3_isMirrored_s2
    rw [H.2.1, if_pos (by rw [zI_le (by omega) (by omega)]; omega)]
    exact ⟨_, rfl, Or.inl ⟨rfl, fun y x hy hx => hs y hy x hx⟩⟩) 0 () (by omega) (by omega) (fun x hx => absurd hx (Nat.not_lt_zero x))
  have e2 : FX3_isMirrored I L a = o.elim (fun t11 => some true) (fun t11 => some t11) := by
    unfold FX3_isMirrored
    exact (congrArg (fun o => Option.bind o _) e).trans (obind _ _)
  rcases ho with ⟨rfl, ho⟩ | ⟨rfl, ho⟩
  · exact ⟨true, e2, ⟨fun _ => ho, fun _ => rfl⟩⟩
  · exact ⟨false, e2, ⟨fun q => (by cases q), fun q => absurd q ho⟩⟩
theorem r_mirror {J : tq_PI} (R : RW J w h) (G : GR J w h 0 K) (M : tq_PL) : ∃ b : Bool, FX12_isMirrored J M 136 = some b ∧ (b = true ↔ mir w h K) := by
  have k := R.2.2
  have h48 := wh_le k
  have h2 := k.1
  have h8 := k.2.1
  have h6 := k.2.2.2
  have hm : ∀ c, c < w * h → c - c % w + w - 1 - c % w < w * h ∧ pl w (c - c % w + w - 1 - c % w) = 8 * (c / w) + (w - 1 - c % w) ∧ c % w ≤ c ∧ c % w < w := fun c hc => by
    have hml : c % w < w := Nat.mod_lt _ (by omega)
    have hd := (pl_row k (c := c)).1 hc
    have a : ar w h (8 * (c / w) + (w - 1 - c % w)) = true := by rw [ar_iff]; omega
    have he := Nat.div_add_mod c w
    have e : cl w (8 * (c / w) + (w - 1 - c % w)) = c - c % w + w - 1 - c % w := by
      unfold cl
      rw [show (8 * (c / w) + (w - 1 - c % w)) / 8 = c / w by omega, show (8 * (c / w) + (w - 1 - c % w)) % 8 = w - 1 - c % w by omega]
      omega
    exact ⟨by rw [← e]; exact cl_lt k a, by rw [← e]; exact pl_cl k a, Nat.mod_le _ _, hml⟩
  have kq : ∀ p q, (zI ((K p : Nat) : Int) = zI ((K q : Nat) : Int)) = (K p = K q) := fun p q => by
    have := G.2.1 p
    have := G.2.1 q
    rw [zI_eq (by omega) (by omega)]
    apply propext
    omega
  obtain ⟨x, e, b, rfl, hb⟩ := it_for (f := fun p : Int32 × Int32 => FX12_isMirrored_s4 J M 136 p.1 p.2) (fun i (x : Int32) => (x, zI (i : Int))) (w * h) (fun i x => ∃ b : Bool, x = zB b ∧ (b = true ↔ ∀ c, c < i → K (pl w c) = K (8 * (c / w) + (w - 1 - c % w)))) (Post := fun x => ∃ b : Bool, x = zB b ∧ (b = true ↔ ∀ c, c < w * h → K (pl w c) = K (8 * (c / w) + (w - 1 - c % w)))) (fun i x hi hx => by
    obtain ⟨b, rfl, hb⟩ := hx
    obtain ⟨i1, i2, i3, i4⟩ := hm i hi
    have e3 : ((i : Int) % (w : Int)) = ((i % w : Nat) : Int) := rfl
    have kd := r_kind0 k G M (z := ((i - i % w + w - 1 - i % w : Nat) : Int)) (by omega)
    rw [Int.toNat_natCast, i2] at kd
    have ei : ((i : Int) - ((i % w : Nat) : Int) + (w : Int) - 1 - ((i % w : Nat) : Int)) = ((i - i % w + w - 1 - i % w : Nat) : Int) := by omega
    unfold FX12_isMirrored_s4 FX12_isMirrored_j56L4 FX12_isMirrored_j57L4
    simp (disch := omega) only [zlet, obind, zI_lit, zI_neg, zI_add, zI_sub, zI_mul, zI_div, zI_le, zI_lt, zI_eq, zI_cl, irem, ile_t, ile_f, ilt_t, ilt_f, ieq_t, ieq_f, and_true, true_and, and_false, false_and, and_self, not_true_eq_false, not_false_eq_true, ↓reduceIte, Int.toNat_natCast, tqb_z, tqb_t, tqb_f, r_many R, R.1, zB_0, r_kind0 k G, e3, ei, kq, i2]
    cases b
    · rw [if_pos rfl]
      refine Or.inl ⟨zB false, rfl, false, rfl, ⟨fun q => (by cases q), fun q => ?_⟩⟩
      exact hb.2 fun d hd => q d (by omega)
    · rw [if_neg (by simp)]
      by_cases q : K (pl w i) = K (8 * (i / w) + (w - 1 - i % w))
      · rw [if_pos q]
        refine Or.inl ⟨zB true, rfl, true, rfl, ⟨fun _ d hd => ?_, fun _ => rfl⟩⟩
        by_cases di : d = i
        · rw [di]; exact q
        · exact hb.1 rfl d (by omega)
      · rw [if_neg q]
        refine Or.inl ⟨zB false, rfl, false, rfl, ⟨fun q => (by cases q), fun q2 => ?_⟩⟩
        exact absurd (q2 i (by omega)) q) (fun x hx => by
    unfold FX12_isMirrored_s4
    simp (disch := omega) only [zlet, obind, zI_lit, zI_neg, zI_add, zI_sub, zI_mul, zI_div, zI_le, zI_lt, zI_eq, zI_cl, irem, ile_t, ile_f, ilt_t, ilt_f, ieq_t, ieq_f, and_true, true_and, and_false, false_and, and_self, not_true_eq_false, not_false_eq_true, ↓reduceIte, Int.toNat_natCast, tqb_z, tqb_t, tqb_f, r_many R]
    exact ⟨_, rfl, hx⟩) 0 (zB true) (by omega) (by omega) ⟨true, rfl, ⟨fun _ d hd => absurd hd (Nat.not_lt_zero d), fun _ => rfl⟩⟩
  refine ⟨b, ?_, hb.trans ⟨fun q y x hy hx => ?_, fun q c hc => ?_⟩⟩
  · unfold FX12_isMirrored
    refine (congrArg (fun o => Option.bind o _) e).trans ((obind _ _).trans ?_)
    cases b
    · rfl
    · rfl
  · have a : ar w h (8 * y + x) = true := by rw [ar_iff]; omega
    have := q (cl w (8 * y + x)) (cl_lt k a)
    rw [pl_cl k a, ← pl_div k, ← pl_mod k (cl w (8 * y + x)), pl_cl k a, show (8 * y + x) / 8 = y by omega, show (8 * y + x) % 8 = x by omega] at this
    exact this
  · have hml : c % w < w := Nat.mod_lt _ (by omega)
    have := q (c / w) (c % w) ((pl_row k).1 hc) hml
    exact this
end MI
theorem q_caves {I : tq_PI} {L : tq_PL} (V : HV I L 1 0) (x y : Int32) : ∃ v, FX11_caves I L 0 x y = some v ∧ ∀ J M, J 137 = I 137 → ∃ J2, FX12_caves J M 136 x y = some (v, J2) ∧ FP J J2 := by
  rcases hill_case V x with ⟨e, r⟩ | ⟨i, w, h, K, hi, rfl, e, H, S, r⟩
  · exact ⟨-1, by unfold FX11_caves; rw [rg_0_0, e, obind]; rfl, fun J M hJ => ⟨J, by unfold FX12_caves; rw [r J M hJ, obind]; rfl, FP.rf⟩⟩
  · obtain ⟨z, hz, rfl⟩ := zI_of y
    rcases (by omega : z = 0 ∨ z = 1 ∨ z = 2 ∨ z = 3 ∨ (z < 0 ∨ 3 < z)) with rfl | rfl | rfl | rfl | q
    · have e1 := c_caveCount H
      refine ⟨zI (fb_ct (hd w h K) 64 : Nat), by unfold FX11_caves; simp (disch := omega) only [rg_0_0, e, zlet, obind, zI_lit, zI_neg, zI_add, zI_sub, zI_mul, zI_div, zI_le, zI_lt, zI_eq, zI_cl, irem, ile_t, ile_f, ilt_t, ilt_f, ieq_t, ieq_f, and_true, true_and, and_false, false_and, and_self, not_true_eq_false, not_false_eq_true, ↓reduceIte, Int.toNat_natCast, tqb_z, tqb_t, tqb_f, r_isIn, decide_eq_false_iff_not, decide_eq_true_eq, oel_s, oel_n, Bool.false_eq_true, btf, eq_self, or_self, or_false, false_or, or_true, true_or, iand_f, iandl_f, ior_t, ior_f, e1], fun J M hJ => ?_⟩
      obtain ⟨J1, J2, h1, h2, R1, R2, G2, P1, P2, -⟩ := r J M hJ
      obtain ⟨m, J3, e3, hm, P3⟩ := r_caves R2 G2 M (zI 0)
      refine ⟨J3, ?_, P2.tr P3⟩
      unfold FX12_caves
      simp (disch := omega) only [h1, h2, zlet, obind, zI_lit, zI_neg, zI_add, zI_sub, zI_mul, zI_div, zI_le, zI_lt, zI_eq, zI_cl, irem, ile_t, ile_f, ilt_t, ilt_f, ieq_t, ieq_f, and_true, true_and, and_false, false_and, and_self, not_true_eq_false, not_false_eq_true, ↓reduceIte, Int.toNat_natCast, tqb_z, tqb_t, tqb_f, r_isIn, decide_eq_false_iff_not, decide_eq_true_eq, oel_s, oel_n, Bool.false_eq_true, btf, eq_self, or_self, or_false, false_or, or_true, true_or, iand_f, iandl_f, ior_t, ior_f]
      exact (congrArg (fun o => Option.bind o _) e3).trans (obind _ _)
    · obtain ⟨m1, e1, hm1⟩ := c_largest H
      refine ⟨zI (m1 : Int), by unfold FX11_caves; simp (disch := omega) only [rg_0_0, e, zlet, obind, zI_lit, zI_neg, zI_add, zI_sub, zI_mul, zI_div, zI_le, zI_lt, zI_eq, zI_cl, irem, ile_t, ile_f, ilt_t, ilt_f, ieq_t, ieq_f, and_true, true_and, and_false, false_and, and_self, not_true_eq_false, not_false_eq_true, ↓reduceIte, Int.toNat_natCast, tqb_z, tqb_t, tqb_f, r_isIn, decide_eq_false_iff_not, decide_eq_true_eq, oel_s, oel_n, Bool.false_eq_true, btf, eq_self, or_self, or_false, false_or, or_true, true_or, iand_f, iandl_f, ior_t, ior_f, e1], fun J M hJ => ?_⟩
      obtain ⟨J1, J2, h1, h2, R1, R2, G2, P1, P2, -⟩ := r J M hJ
      obtain ⟨m, J3, e3, hm, P3⟩ := r_caves R2 G2 M (zI 1)
      refine ⟨J3, ?_, P2.tr P3⟩
      rw [IsM_one hm1 hm]
      unfold FX12_caves
      simp (disch := omega) only [h1, h2, zlet, obind, zI_lit, zI_neg, zI_add, zI_sub, zI_mul, zI_div, zI_le, zI_lt, zI_eq, zI_cl, irem, ile_t, ile_f, ilt_t, ilt_f, ieq_t, ieq_f, and_true, true_and, and_false, false_and, and_self, not_true_eq_false, not_false_eq_true, ↓reduceIte, Int.toNat_natCast, tqb_z, tqb_t, tqb_f, r_isIn, decide_eq_false_iff_not, decide_eq_true_eq, oel_s, oel_n, Bool.false_eq_true, btf, eq_self, or_self, or_false, false_or, or_true, true_or, iand_f, iandl_f, ior_t, ior_f]
      exact (congrArg (fun o => Option.bind o _) e3).trans (obind _ _)
    · obtain ⟨m1, e1, hm1⟩ := c_run I L (c_air H) (fun p q => air_48 H.k q)
      refine ⟨zI (m1 : Int), by unfold FX11_caves; simp (disch := omega) only [rg_0_0, e, zlet, obind, zI_lit, zI_neg, zI_add, zI_sub, zI_mul, zI_div, zI_le, zI_lt, zI_eq, zI_cl, irem, ile_t, ile_f, ilt_t, ilt_f, ieq_t, ieq_f, and_true, true_and, and_false, false_and, and_self, not_true_eq_false, not_false_eq_true, ↓reduceIte, Int.toNat_natCast, tqb_z, tqb_t, tqb_f, r_isIn, decide_eq_false_iff_not, decide_eq_true_eq, oel_s, oel_n, Bool.false_eq_true, btf, eq_self, or_self, or_false, false_or, or_true, true_or, iand_f, iandl_f, ior_t, ior_f, e1], fun J M hJ => ?_⟩
      obtain ⟨J1, J2, h1, h2, R1, R2, G2, P1, P2, -⟩ := r J M hJ
      obtain ⟨m, e3, hm⟩ := r_span R2 G2 M
      refine ⟨J2, ?_, P2⟩
      rw [IsM_one hm1 hm]
      unfold FX12_caves
      simp (disch := omega) only [h1, h2, zlet, obind, zI_lit, zI_neg, zI_add, zI_sub, zI_mul, zI_div, zI_le, zI_lt, zI_eq, zI_cl, irem, ile_t, ile_f, ilt_t, ilt_f, ieq_t, ieq_f, and_true, true_and, and_false, false_and, and_self, not_true_eq_false, not_false_eq_true, ↓reduceIte, Int.toNat_natCast, tqb_z, tqb_t, tqb_f, r_isIn, decide_eq_false_iff_not, decide_eq_true_eq, oel_s, oel_n, Bool.false_eq_true, btf, eq_self, or_self, or_false, false_or, or_true, true_or, iand_f, iandl_f, ior_t, ior_f, e3]
    · obtain ⟨b, e1, hb⟩ := c_mirror H
      refine ⟨if b = false then zI 0 else zI 1, ?_, fun J M hJ => ?_⟩
      · unfold FX11_caves
        simp (disch := omega) only [rg_0_0, e, zlet, obind, zI_lit, zI_neg, zI_add, zI_sub, zI_mul, zI_div, zI_le, zI_lt, zI_eq, zI_cl, irem, ile_t, ile_f, ilt_t, ilt_f, ieq_t, ieq_f, and_true, true_and, and_false, false_and, and_self, not_true_eq_false, not_false_eq_true, ↓reduceIte, Int.toNat_natCast, tqb_z, tqb_t, tqb_f, r_isIn, decide_eq_false_iff_not, decide_eq_true_eq, oel_s, oel_n, Bool.false_eq_true, btf, eq_self, or_self, or_false, false_or, or_true, true_or, iand_f, iandl_f, ior_t, ior_f, e1]
        cases b <;> rfl
      · obtain ⟨J1, J2, h1, h2, R1, R2, G2, P1, P2, -⟩ := r J M hJ
        obtain ⟨b2, e3, hb2⟩ := r_mirror R2 G2 M
        have : b2 = b := by rw [Bool.eq_iff_iff, hb, hb2]
        subst this
        refine ⟨J2, ?_, P2⟩
        unfold FX12_caves
        simp (disch := omega) only [h1, h2, zlet, obind, zI_lit, zI_neg, zI_add, zI_sub, zI_mul, zI_div, zI_le, zI_lt, zI_eq, zI_cl, irem, ile_t, ile_f, ilt_t, ilt_f, ieq_t, ieq_f, and_true, true_and, and_false, false_and, and_self, not_true_eq_false, not_false_eq_true, ↓reduceIte, Int.toNat_natCast, tqb_z, tqb_t, tqb_f, r_isIn, decide_eq_false_iff_not, decide_eq_true_eq, oel_s, oel_n, Bool.false_eq_true, btf, eq_self, or_self, or_false, false_or, or_true, true_or, iand_f, iandl_f, ior_t, ior_f, e3]
        cases b2 <;> rfl
    · refine ⟨-1, ?_, fun J M hJ => ?_⟩
      · unfold FX11_caves
        simp (disch := omega) only [rg_0_0, e, zlet, obind, zI_lit, zI_neg, zI_add, zI_sub, zI_mul, zI_div, zI_le, zI_lt, zI_eq, zI_cl, irem, ile_t, ile_f, ilt_t, ilt_f, ieq_t, ieq_f, and_true, true_and, and_false, false_and, and_self, not_true_eq_false, not_false_eq_true, ↓reduceIte, Int.toNat_natCast, tqb_z, tqb_t, tqb_f, r_isIn, decide_eq_false_iff_not, decide_eq_true_eq, oel_s, oel_n, Bool.false_eq_true, btf, eq_self, or_self, or_false, false_or, or_true, true_or, iand_f, iandl_f, ior_t, ior_f]
      · obtain ⟨J1, J2, h1, h2, R1, R2, G2, P1, P2, -⟩ := r J M hJ
        refine ⟨J1, ?_, P1⟩
        unfold FX12_caves FX12_caves_j17
        simp (disch := omega) only [h1, zlet, obind, zI_lit, zI_neg, zI_add, zI_sub, zI_mul, zI_div, zI_le, zI_lt, zI_eq, zI_cl, irem, ile_t, ile_f, ilt_t, ilt_f, ieq_t, ieq_f, and_true, true_and, and_false, false_and, and_self, not_true_eq_false, not_false_eq_true, ↓reduceIte, Int.toNat_natCast, tqb_z, tqb_t, tqb_f, r_isIn, decide_eq_false_iff_not, decide_eq_true_eq, oel_s, oel_n, Bool.false_eq_true, btf, eq_self, or_self, or_false, false_or, or_true, true_or, iand_f, iandl_f, ior_t, ior_f]
