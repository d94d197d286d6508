/-! QUERIES: pillars, fell, cuts, streak. -/
theorem ar_ct {w h : Nat} {P : Nat → Bool} (z : ∀ p, P p = true → ar w h p = true) (k : wh w h) : fb_ct P 48 = fb_ct P 64 := by
  rw [show 64 = 48 + 16 from rfl, fb_ct_split]
  have : fb_ct (fun q => P (48 + q)) 16 = 0 := fb_ct_zero.2 fun q _ => by
    cases e : P (48 + q)
    · rfl
    · have := ar_lt k.2.2.2 (z _ e); omega
  omega
theorem sto_ar {w h : Nat} {K : Nat → Nat} (z : ∀ p, ar w h p = false → K p = 0) {p : Nat} (q : sto K p = true) : ar w h p = true := by
  cases e : ar w h p
  · simp [sto, z p e] at q
  · rfl
section QB
variable {I : tq_PI} {L : tq_PL} {a w h : Nat} {K : Nat → Nat}
theorem c_bearing (H : HC I L a w h K) {n : Nat} (hn : n ≤ 48) : FX3_bearing I L a (zI (n : Int)) = some (zI (fb_ct (fun p => sto K p && decide (n ≤ los h K p)) 64 : Nat)) := by
  obtain ⟨x, e, hx⟩ := it_for (f := fun p : Int32 × Int32 => FX3_bearing_s4 I L a (zI (n : Int)) p.1 p.2) (fun i (x : Int32) => (x, zI (i : Int))) 48 (fun i x => x = zI (fb_ct (fun p => sto K p && decide (n ≤ los h K p)) i : Nat)) (Post := fun x => x = zI (fb_ct (fun p => sto K p && decide (n ≤ los h K p)) 48 : Nat)) (fun i x hi hx => by
    subst hx
    have hb : bb ((1 : Int64) <<< (Int32.toInt64 (zI (i : Int)) &&& 63)) = fun q => decide (q = i) := funext fun q => by rw [bb_one (by omega)]; simp
    have l1 := los_le h K i
    have l2 := fb_ct_le (fun p => sto K p && decide (n ≤ los h K p)) i
    unfold FX3_bearing_s4 FX3_bearing_j40L4
    simp (disch := omega) only [zlet, obind, zI_lit, zI_neg, zI_add, zI_sub, zI_mul, zI_div, zI_le, zI_lt, zI_eq, zI_cl, irem, ile_t, ile_f, ilt_t, ilt_f, ieq_t, ieq_f, and_true, true_and, and_false, false_and, and_self, not_true_eq_false, not_false_eq_true, ↓reduceIte, Int.toNat_natCast, tqb_z, tqb_t, tqb_f, lgz, bb_hit hb, c_sto H]
    refine Or.inl ⟨zI (fb_ct (fun p => sto K p && decide (n ≤ los h K p)) (i + 1) : Nat), ?_, rfl⟩
    rw [fb_ct_succ]
    cases q : sto K i
    · simp
    · have hl := c_lost H (bb_and_one (x := FX3_stones I L a) hb (by rw [c_sto H]; exact q))
      simp only [Bool.true_eq_false, if_false, hl, obind]
      simp (disch := omega) only [zI_lt]
      by_cases q2 : n ≤ los h K i
      · rw [if_neg (by omega)]; simp [q2]
      · rw [if_pos (by omega)]; simp [q2]) (fun x hx => by
    unfold FX3_bearing_s4
    simp (disch := omega) only [zlet, obind, zI_lit, zI_neg, zI_add, zI_sub, zI_mul, zI_div, zI_le, zI_lt, zI_eq, zI_cl, irem, ile_t, ile_f, ilt_t, ilt_f, ieq_t, ieq_f, and_true, true_and, and_false, false_and, and_self, not_true_eq_false, not_false_eq_true, ↓reduceIte, Int.toNat_natCast, tqb_z, tqb_t, tqb_f]
    exact ⟨_, rfl, hx⟩) 0 (zI ((0 : Nat) : Int)) (by omega) (by omega) rfl
  unfold FX3_bearing
  refine (congrArg (fun o => Option.bind o _) e).trans ((obind _ _).trans ?_)
  rw [hx, ar_ct (w := w) (h := h) (fun p q => by rw [Bool.and_eq_true] at q; exact sto_ar H.z q.1) H.k]
theorem r_pillars {J : tq_PI} (R : RW J w h) (G : GR J w h 0 K) (M : tq_PL) {n : Nat} (hn : n ≤ 48) : ∃ J2, tq_it (fun p : Int32 × Int32 × tq_PI => FX12_pillars_s29 p.2.2 M 136 (zI (n : Int)) p.1 p.2.1) tq_N (zI ((0 : Nat) : Int), zI ((0 : Nat) : Int), J) = some (zI (fb_ct (fun p => sto K p && decide (n ≤ los h K p)) 64 : Nat), J2) ∧ FP J J2 := by
  have k := R.2.2
  have h48 := wh_le k
  obtain ⟨⟨x, J2⟩, e, hx, F⟩ := it_for (f := fun p : Int32 × Int32 × tq_PI => FX12_pillars_s29 p.2.2 M 136 (zI (n : Int)) p.1 p.2.1) (fun i (s : Int32 × tq_PI) => (s.1, zI (i : Int), s.2)) (w * h) (fun i s => s.1 = zI (fb_ct (fun c => sto K (pl w c) && decide (n ≤ los h K (pl w c))) i : Nat) ∧ FG 1 J s.2) (Post := fun s => s.1 = zI (fb_ct (fun c => sto K (pl w c) && decide (n ≤ los h K (pl w c))) (w * h) : Nat) ∧ FG 1 J s.2) (fun i s hi hs => by
    obtain ⟨x, J1⟩ := s
    obtain ⟨hx, F⟩ := hs
    dsimp only at hx F ⊢
    subst hx
    have R1 := R.fg F
    have G1 := G.fg k F (by omega)
    obtain ⟨J3, e3, _, F3⟩ := r_los R1 G1 (by omega) M hi
    have e3' : FX12_taken J1 M 136 (zI 0) (zI (i : Int)) = some (zI (los h K (pl w i) : Nat), J3) := e3
    have kd := r_kind k G1 (by omega) M (z := (i : Int)) (by omega)
    have kd' : FX12_kindOf J1 M 136 (zI 0) (zI (i : Int)) = some (zI (K (pl w i) : Nat)) := kd
    have l1 := los_le h K (pl w i)
    have l2 := fb_ct_le (fun c => sto K (pl w c) && decide (n ≤ los h K (pl w c))) i
    unfold FX12_pillars_s29 FX12_pillars_j67L29 FX12_pillars_j68L29
    simp (disch := omega) only [zlet, obind, zI_lit, zI_neg, zI_add, zI_sub, zI_mul, zI_div, zI_le, zI_lt, zI_eq, zI_cl, irem, ile_t, ile_f, ilt_t, ilt_f, ieq_t, ieq_f, and_true, true_and, and_false, false_and, and_self, not_true_eq_false, not_false_eq_true, ↓reduceIte, Int.toNat_natCast, tqb_z, tqb_t, tqb_f, r_many R1, kd', r_stone _ _ (G.2.1 _), e3']
    have sd : decide (1 ≤ K (pl w i) ∧ K (pl w i) ≤ 3) = sto K (pl w i) := rfl
    rw [sd]
    cases q : sto K (pl w i)
    · refine Or.inl ⟨(zI (fb_ct (fun c => sto K (pl w c) && decide (n ≤ los h K (pl w c))) (i + 1) : Nat), J1), ?_, rfl, F⟩
      rw [fb_ct_succ]
      simp [q]
    · refine Or.inl ⟨(zI (fb_ct (fun c => sto K (pl w c) && decide (n ≤ los h K (pl w c))) (i + 1) : Nat), J3), ?_, rfl, F.tr F3⟩
      rw [fb_ct_succ]
      by_cases q2 : n ≤ los h K (pl w i)
      · simp only [Bool.true_eq_false, if_false]
        rw [if_neg (by omega)]
        simp [q, q2]
      · simp only [Bool.true_eq_false, if_false]
        rw [if_pos (by omega)]
        simp [q, q2]) (fun s hs => by
    have R1 := R.fg hs.2
    unfold FX12_pillars_s29
    simp (disch := omega) only [zlet, obind, zI_lit, zI_neg, zI_add, zI_sub, zI_mul, zI_div, zI_le, zI_lt, zI_eq, zI_cl, irem, ile_t, ile_f, ilt_t, ilt_f, ieq_t, ieq_f, and_true, true_and, and_false, false_and, and_self, not_true_eq_false, not_false_eq_true, ↓reduceIte, Int.toNat_natCast, tqb_z, tqb_t, tqb_f, r_many R1]
    exact ⟨_, rfl, hs⟩) 0 (zI ((0 : Nat) : Int), J) (by omega) (by omega) ⟨rfl, FG.rf⟩
  dsimp only at hx F
  refine ⟨J2, ?_, F.fp⟩
  rw [ct_all k (fun p => sto K p && decide (n ≤ los h K p)) (fun p q => by rw [Bool.and_eq_true] at q; exact sto_ar G.2.2 q.1)] at hx
  rw [← hx]
  exact e
end QB
theorem q_pillars {I : tq_PI} {L : tq_PL} (V : HV I L 1 0) (x y : Int32) : ∃ v, FX11_pillars I L 0 x y = some v ∧ ∀ J M, J 137 = I 137 → ∃ J2, FX12_pillars J M 136 x y = some (v, J2) ∧ FP J J2 := by
  rcases hill_case V x with ⟨e, r⟩ | ⟨i, w, h, K, hi, rfl, e, H, S, r⟩
  · exact ⟨-1, by unfold FX11_pillars; rw [rg_0_0, e, obind]; rfl, fun J M hJ => ⟨J, by unfold FX12_pillars; rw [r J M hJ, obind]; rfl, FP.rf⟩⟩
  · obtain ⟨z, hz, rfl⟩ := zI_of y
    by_cases q : 0 ≤ z ∧ z ≤ 48
    · obtain ⟨n, rfl⟩ : ∃ n : Nat, z = n := ⟨z.toNat, by omega⟩
      have e1 := c_bearing H (n := n) (by omega)
      refine ⟨zI (fb_ct (fun p => sto K p && decide (n ≤ los h K p)) 64 : Nat), by unfold FX11_pillars; simp (disch := omega) only [rg_0_0, e, zlet, obind, zI_lit, zI_neg, zI_add, zI_sub, zI_mul, zI_div, zI_le, zI_lt, zI_eq, zI_cl, irem, ile_t, ile_f, ilt_t, ilt_f, ieq_t, ieq_f, and_true, true_and, and_false, false_and, and_self, not_true_eq_false, not_false_eq_true, ↓reduceIte, Int.toNat_natCast, tqb_z, tqb_t, tqb_f, r_isIn, decide_eq_false_iff_not, decide_eq_true_eq, oel_s, oel_n, Bool.false_eq_true, btf, eq_self, or_self, or_false, false_or, or_true, true_or, iand_f, iandl_f, ior_t, ior_f, e1], fun J M hJ => ?_⟩
      obtain ⟨J1, J2, h1, h2, R1, R2, G2, P1, P2, -⟩ := r J M hJ
      obtain ⟨J3, e3, P3⟩ := r_pillars R2 G2 M (n := n) (by omega)
      refine ⟨J3, ?_, P2.tr P3⟩
      unfold FX12_pillars
      simp (disch := omega) only [h1, h2, zlet, obind, zI_lit, zI_neg, zI_add, zI_sub, zI_mul, zI_div, zI_le, zI_lt, zI_eq, zI_cl, irem, ile_t, ile_f, ilt_t, ilt_f, ieq_t, ieq_f, and_true, true_and, and_false, false_and, and_self, not_true_eq_false, not_false_eq_true, ↓reduceIte, Int.toNat_natCast, tqb_z, tqb_t, tqb_f, r_isIn, decide_eq_false_iff_not, decide_eq_true_eq, oel_s, oel_n, Bool.false_eq_true, btf, eq_self, or_self, or_false, false_or, or_true, true_or, iand_f, iandl_f, ior_t, ior_f]
      exact (congrArg (fun o => Option.bind o _) e3).trans (obind _ _)
    · refine ⟨-1, ?_, fun J M hJ => ?_⟩
      · unfold FX11_pillars FX11_pillars_j23
        simp (disch := omega) only [rg_0_0, e, zlet, obind, zI_lit, zI_neg, zI_add, zI_sub, zI_mul, zI_div, zI_le, zI_lt, zI_eq, zI_cl, irem, ile_t, ile_f, ilt_t, ilt_f, ieq_t, ieq_f, and_true, true_and, and_false, false_and, and_self, not_true_eq_false, not_false_eq_true, ↓reduceIte, Int.toNat_natCast, tqb_z, tqb_t, tqb_f, r_isIn, decide_eq_false_iff_not, decide_eq_true_eq, oel_s, oel_n, Bool.false_eq_true, btf, eq_self, or_self, or_false, false_or, or_true, true_or, iand_f, iandl_f, ior_t, ior_f]
        by_cases q1 : z < 0
        · rw [if_pos q1]
        · simp (disch := omega) only [zlet, obind, zI_lit, zI_neg, zI_add, zI_sub, zI_mul, zI_div, zI_le, zI_lt, zI_eq, zI_cl, irem, ile_t, ile_f, ilt_t, ilt_f, ieq_t, ieq_f, and_true, true_and, and_false, false_and, and_self, not_true_eq_false, not_false_eq_true, ↓reduceIte, Int.toNat_natCast, tqb_z, tqb_t, tqb_f, r_isIn, decide_eq_false_iff_not, decide_eq_true_eq, oel_s, oel_n, Bool.false_eq_true, btf, eq_self, or_self, or_false, false_or, or_true, true_or, iand_f, iandl_f, ior_t, ior_f]
      · obtain ⟨J1, J2, h1, h2, R1, R2, G2, P1, P2, -⟩ := r J M hJ
        refine ⟨J1, ?_, P1⟩
        unfold FX12_pillars FX12_pillars_j18
        simp (disch := omega) only [h1, zlet, obind, zI_lit, zI_neg, zI_add, zI_sub, zI_mul, zI_div, zI_le, zI_lt, zI_eq, zI_cl, irem, ile_t, ile_f, ilt_t, ilt_f, ieq_t, ieq_f, and_true, true_and, and_false, false_and, and_self, not_true_eq_false, not_false_eq_true, ↓reduceIte, Int.toNat_natCast, tqb_z, tqb_t, tqb_f, r_isIn, decide_eq_false_iff_not, decide_eq_true_eq, oel_s, oel_n, Bool.false_eq_true, btf, eq_self, or_self, or_false, false_or, or_true, true_or, iand_f, iandl_f, ior_t, ior_f]

/-! WEAK -/
def WA (h : Nat) (K : Nat → Nat) (p : Nat) : Prop := sto K p = true ∧ (∀ q, sto K q = true → los h K q ≤ los h K p) ∧ ∀ q, q < p → sto K q = true → los h K q < los h K p
theorem WA_one {h : Nat} {K : Nat → Nat} {p q : Nat} (a : WA h K p) (b : WA h K q) : p = q := by
  rcases Nat.lt_trichotomy p q with r | r | r
  · have h1 := b.2.2 p r a.1
    have h2 := a.2.1 q b.1
    omega
  · exact r
  · have h1 := a.2.2 q r b.1
    have h2 := b.2.1 p a.1
    omega
def WI (h : Nat) (K : Nat → Nat) (i : Nat) (p : Nat) : Prop := p < i ∧ sto K p = true ∧ (∀ q, q < i → sto K q = true → los h K q ≤ los h K p) ∧ ∀ q, q < p → sto K q = true → los h K q < los h K p
section QC
variable {I : tq_PI} {L : tq_PL} {a w h : Nat} {K : Nat → Nat}
theorem c_weak (H : HC I L a w h K) : ∃ x, FX3_weakest I L a = some x ∧ ((x = 0 ∧ ∀ q, sto K q = false) ∨ ∃ p, p < 48 ∧ WA h K p ∧ bb x = fun q => decide (q = p)) := by
  obtain ⟨x, e, hx⟩ := it_for (f := fun p : Int64 × Int32 × Int32 => FX3_weakest_s7 I L a p.1 p.2.1 p.2.2) (fun i (s : Int64 × Int32) => (s.1, s.2, zI (i : Int))) 48 (fun i s => (s.1 = 0 ∧ s.2 = zI (-1) ∧ ∀ q, q < i → sto K q = false) ∨ ∃ p, s.2 = zI (los h K p : Nat) ∧ WI h K i p ∧ bb s.1 = fun q => decide (q = p)) (Post := fun x => (x = 0 ∧ ∀ q, q < 48 → sto K q = false) ∨ ∃ p, WI h K 48 p ∧ bb x = fun q => decide (q = p)) (fun i s hi hs => by
    obtain ⟨x, m⟩ := s
    dsimp only at hs ⊢
    have hb : bb ((1 : Int64) <<< (Int32.toInt64 (zI (i : Int)) &&& 63)) = fun q => decide (q = i) := funext fun q => by rw [bb_one (by omega)]; simp
    have l1 := los_le h K i
    unfold FX3_weakest_s7 FX3_weakest_j52L7
    simp (disch := omega) only [zlet, obind, zI_lit, zI_neg, zI_add, zI_sub, zI_mul, zI_div, zI_le, zI_lt, zI_eq, zI_cl, irem, ile_t, ile_f, ilt_t, ilt_f, ieq_t, ieq_f, and_true, true_and, and_false, false_and, and_self, not_true_eq_false, not_false_eq_true, ↓reduceIte, Int.toNat_natCast, tqb_z, tqb_t, tqb_f, lgz, bb_hit hb, c_sto H]
    cases q : sto K i
    · refine Or.inl ⟨(x, m), by rw [if_pos rfl]; rfl, ?_⟩
      rcases hs with ⟨s1, s2, s3⟩ | ⟨p, s1, ⟨s2, s3, s4, s5⟩, s6⟩
      · refine Or.inl ⟨s1, s2, fun r hr => ?_⟩
        by_cases ri : r = i
        · rw [ri]; exact q
        · exact s3 r (by omega)
      · refine Or.inr ⟨p, s1, ⟨by omega, s3, fun r hr sr => ?_, s5⟩, s6⟩
        by_cases ri : r = i
        · rw [ri, q] at sr; cases sr
        · exact s4 r (by omega) sr
    · have hbi := bb_and_one (x := FX3_stones I L a) hb (by rw [c_sto H]; exact q)
      have hl := c_lost H hbi
      simp only [Bool.true_eq_false, if_false, hl, obind]
      rcases hs with ⟨s1, s2, s3⟩ | ⟨p, s1, ⟨s2, s3, s4, s5⟩, s6⟩
      · rw [s2, if_neg (by rw [zI_le (by omega) (by omega)]; omega)]
        refine Or.inl ⟨(FX3_stones I L a &&& (1 : Int64) <<< (Int32.toInt64 (zI (i : Int)) &&& 63), zI (los h K i : Nat)), rfl, Or.inr ⟨i, rfl, ⟨by omega, q, fun r hr sr => ?_, fun r hr sr => ?_⟩, hbi⟩⟩
        · by_cases ri : r = i
          · rw [ri]; exact Nat.le_refl _
          · rw [s3 r (by omega)] at sr; cases sr
        · rw [s3 r (by omega)] at sr; cases sr
      · have l2 := los_le h K p
        rw [s1]
        simp (disch := omega) only [zI_le]
        by_cases q2 : los h K i ≤ los h K p
        · rw [if_pos (by omega)]
          refine Or.inl ⟨(x, zI (los h K p : Nat)), rfl, Or.inr ⟨p, rfl, ⟨by omega, s3, fun r hr sr => ?_, s5⟩, s6⟩⟩
          by_cases ri : r = i
          · rw [ri]; exact q2
          · exact s4 r (by omega) sr
        · rw [if_neg (by omega)]
          refine Or.inl ⟨(FX3_stones I L a &&& (1 : Int64) <<< (Int32.toInt64 (zI (i : Int)) &&& 63), zI (los h K i : Nat)), rfl, Or.inr ⟨i, rfl, ⟨by omega, q, fun r hr sr => ?_, fun r hr sr => ?_⟩, hbi⟩⟩
          · by_cases ri : r = i
            · rw [ri]; exact Nat.le_refl _
            · have := s4 r (by omega) sr; omega
          · have := s4 r hr sr; omega) (fun s hs => by
    unfold FX3_weakest_s7
    simp (disch := omega) only [zlet, obind, zI_lit, zI_neg, zI_add, zI_sub, zI_mul, zI_div, zI_le, zI_lt, zI_eq, zI_cl, irem, ile_t, ile_f, ilt_t, ilt_f, ieq_t, ieq_f, and_true, true_and, and_false, false_and, and_self, not_true_eq_false, not_false_eq_true, ↓reduceIte, Int.toNat_natCast, tqb_z, tqb_t, tqb_f]
    refine ⟨_, rfl, ?_⟩
    rcases hs with ⟨s1, s2, s3⟩ | ⟨p, s1, s2, s3⟩
    · exact Or.inl ⟨s1, s3⟩
    · exact Or.inr ⟨p, s2, s3⟩) 0 (0, zI (-1)) (by omega) (by omega) (Or.inl ⟨rfl, rfl, fun q hq => absurd hq (Nat.not_lt_zero q)⟩)
  have s48 : ∀ q, sto K q = true → q < 48 := fun q s => ar_lt H.k.2.2.2 (sto_ar H.z s)
  refine ⟨x, ?_, ?_⟩
  · unfold FX3_weakest
    exact (congrArg (fun o => Option.bind o _) e).trans (obind _ _)
  · rcases hx with ⟨h1, h2⟩ | ⟨p, ⟨h1, h2, h3, h4⟩, h5⟩
    · refine Or.inl ⟨h1, fun q => ?_⟩
      cases s : sto K q
      · rfl
      · rw [h2 q (s48 q s)] at s; cases s
    · exact Or.inr ⟨p, h1, ⟨h2, fun q s => h3 q (s48 q s) s, h4⟩, h5⟩
theorem pl_next (k : wh w h) {c q : Nat} (hq : ar w h q = true) : q < pl w (c + 1) ↔ q < pl w c ∨ q = pl w c := by
  rw [← pl_cl k hq, pl_lt_iff k, pl_lt_iff k]
  constructor
  · intro r
    by_cases e : cl w q = c
    · exact Or.inr (by rw [e])
    · exact Or.inl (by omega)
  · rintro (r | r)
    · omega
    · have := pl_inj k r; omega
theorem pl_end (k : wh w h) {q : Nat} (hq : ar w h q = true) : q < pl w (w * h) := by
  rw [← pl_cl k hq, pl_lt_iff k]
  exact cl_lt k hq
theorem r_weak {J : tq_PI} (R : RW J w h) (G : GR J w h 0 K) (M : tq_PL) : ∃ b J2, FX12_weakest J M 136 = some (b, J2) ∧ FG 1 J J2 ∧ ((b = zI (-1) ∧ ∀ q, sto K q = false) ∨ ∃ p, WA h K p ∧ ar w h p = true ∧ b = zI (cl w p : Nat)) := by
  have k := R.2.2
  have h48 := wh_le k
  obtain ⟨⟨b, J2⟩, e, F, hx⟩ := it_for (f := fun p : Int32 × Int32 × Int32 × tq_PI => FX12_weakest_s6 p.2.2.2 M 136 p.1 p.2.1 p.2.2.1) (fun i (s : Int32 × Int32 × tq_PI) => (s.1, s.2.1, zI (i : Int), s.2.2)) (w * h) (fun i s => FG 1 J s.2.2 ∧ ((s.1 = zI (-1) ∧ s.2.1 = zI (-1) ∧ ∀ q, q < pl w i → sto K q = false) ∨ ∃ p, s.1 = zI (cl w p : Nat) ∧ s.2.1 = zI (los h K p : Nat) ∧ WI h K (pl w i) p)) (Post := fun s => FG 1 J s.2 ∧ ((s.1 = zI (-1) ∧ ∀ q, q < pl w (w * h) → sto K q = false) ∨ ∃ p, s.1 = zI (cl w p : Nat) ∧ WI h K (pl w (w * h)) p)) (fun i s hi hs => by
    obtain ⟨x, m, J1⟩ := s
    obtain ⟨F, hs⟩ := hs
    dsimp only at hs F ⊢
    have R1 := R.fg F
    have G1 := G.fg k F (by omega)
    obtain ⟨J3, e3, _, F3⟩ := r_los R1 G1 (by omega) M hi
    have e3' : FX12_taken J1 M 136 (zI 0) (zI (i : Int)) = some (zI (los h K (pl w i) : Nat), J3) := e3
    have kd := r_kind k G1 (by omega) M (z := (i : Int)) (by omega)
    have kd' : FX12_kindOf J1 M 136 (zI 0) (zI (i : Int)) = some (zI (K (pl w i) : Nat)) := kd
    have l1 := los_le h K (pl w i)
    have nx : ∀ r, sto K r = true → r < pl w (i + 1) → r < pl w i ∨ r = pl w i := fun r sr hr => (pl_next k (sto_ar G.2.2 sr)).1 hr
    have li : pl w i < pl w (i + 1) := pl_lt k (by omega)
    unfold FX12_weakest_s6 FX12_weakest_j36L6 FX12_weakest_j52L6
    simp (disch := omega) only [zlet, obind, zI_lit, zI_neg, zI_add, zI_sub, zI_mul, zI_div, zI_le, zI_lt, zI_eq, zI_cl, irem, ile_t, ile_f, ilt_t, ilt_f, ieq_t, ieq_f, and_true, true_and, and_false, false_and, and_self, not_true_eq_false, not_false_eq_true, ↓reduceIte, Int.toNat_natCast, tqb_z, tqb_t, tqb_f, r_many R1, kd', r_stone _ _ (G.2.1 _), e3']
    have sd : decide (1 ≤ K (pl w i) ∧ K (pl w i) ≤ 3) = sto K (pl w i) := rfl
    rw [sd]
    cases q : sto K (pl w i)
    · have hm : ¬ m < zI (-1) := by
        rcases hs with ⟨_, s2, _⟩ | ⟨p, _, s2, _⟩
        · rw [s2, zI_lt (by omega) (by omega)]; omega
        · have := los_le h K p; rw [s2, zI_lt (by omega) (by omega)]; omega
      refine Or.inl ⟨(x, m, J1), by rw [if_pos rfl, if_neg hm]; rfl, F, ?_⟩
      rcases hs with ⟨s1, s2, s3⟩ | ⟨p, s0, s1, ⟨s2, s3, s4, s5⟩⟩
      · refine Or.inl ⟨s1, s2, fun r hr => ?_⟩
        cases sr : sto K r
        · rfl
        · rcases nx r sr hr with n1 | n1
          · rw [s3 r n1] at sr; cases sr
          · rw [n1, q] at sr; cases sr
      · refine Or.inr ⟨p, s0, s1, ⟨by omega, s3, fun r hr sr => ?_, s5⟩⟩
        rcases nx r sr hr with n1 | n1
        · exact s4 r n1 sr
        · rw [n1, q] at sr; cases sr
    · simp only [Bool.true_eq_false, if_false]
      have ecl : (i : Int) = ((cl w (pl w i) : Nat) : Int) := by rw [cl_pl k]
      rcases hs with ⟨s1, s2, s3⟩ | ⟨p, s0, s1, ⟨s2, s3, s4, s5⟩⟩
      · rw [s2, if_pos (by rw [zI_lt (by omega) (by omega)]; omega)]
        refine Or.inl ⟨(zI (i : Int), zI (los h K (pl w i) : Nat), J3), rfl, F.tr F3, Or.inr ⟨pl w i, by rw [← ecl], rfl, ⟨li, q, fun r hr sr => ?_, fun r hr sr => ?_⟩⟩⟩
        · rcases nx r sr hr with n1 | n1
          · rw [s3 r n1] at sr; cases sr
          · rw [n1]; exact Nat.le_refl _
        · rw [s3 r hr] at sr; cases sr
      · have l2 := los_le h K p
        rw [s1]
        simp (disch := omega) only [zI_lt]
        by_cases q2 : los h K p < los h K (pl w i)
        · rw [if_pos (by omega)]
          refine Or.inl ⟨(zI (i : Int), zI (los h K (pl w i) : Nat), J3), rfl, F.tr F3, Or.inr ⟨pl w i, by rw [← ecl], rfl, ⟨li, q, fun r hr sr => ?_, fun r hr sr => ?_⟩⟩⟩
          · rcases nx r sr hr with n1 | n1
            · have := s4 r n1 sr; omega
            · rw [n1]; exact Nat.le_refl _
          · have := s4 r hr sr; omega
        · rw [if_neg (by omega)]
          refine Or.inl ⟨(x, zI (los h K p : Nat), J3), rfl, F.tr F3, Or.inr ⟨p, s0, rfl, ⟨by omega, s3, fun r hr sr => ?_, s5⟩⟩⟩
          rcases nx r sr hr with n1 | n1
          · exact s4 r n1 sr
          · rw [n1]; omega) (fun s hs => by
    obtain ⟨F, hs⟩ := hs
    have R1 := R.fg F
    unfold FX12_weakest_s6
    simp (disch := omega) only [zlet, obind, zI_lit, zI_neg, zI_add, zI_sub, zI_mul, zI_div, zI_le, zI_lt, zI_eq, zI_cl, irem, ile_t, ile_f, ilt_t, ilt_f, ieq_t, ieq_f, and_true, true_and, and_false, false_and, and_self, not_true_eq_false, not_false_eq_true, ↓reduceIte, Int.toNat_natCast, tqb_z, tqb_t, tqb_f, r_many R1]
    refine ⟨_, rfl, F, ?_⟩
    rcases hs with ⟨s1, s2, s3⟩ | ⟨p, s1, s2, s3⟩
    · exact Or.inl ⟨s1, s3⟩
    · exact Or.inr ⟨p, s1, s3⟩) 0 (zI (-1), zI (-1), J) (by omega) (by omega) ⟨FG.rf, Or.inl ⟨rfl, rfl, fun q hq => absurd hq (by simp [pl])⟩⟩
  refine ⟨b, J2, ?_, F, ?_⟩
  · unfold FX12_weakest
    exact (congrArg (fun o => Option.bind o _) e).trans (obind _ _)
  · rcases hx with ⟨h1, h2⟩ | ⟨p, h1, ⟨h2, h3, h4, h5⟩⟩
    · refine Or.inl ⟨h1, fun q => ?_⟩
      cases s : sto K q
      · rfl
      · rw [h2 q (pl_end k (sto_ar G.2.2 s))] at s; cases s
    · exact Or.inr ⟨p, ⟨h3, fun q s => h4 q (pl_end k (sto_ar G.2.2 s)) s, h5⟩, sto_ar G.2.2 h3, h1⟩
end QC
