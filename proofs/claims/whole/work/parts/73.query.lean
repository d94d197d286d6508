/-! QUERIES: nearer, path. -/
theorem isD_one {w h s : Nat} {K D E : Nat → Nat} (a : isD w h K s D) (b : isD w h K s E) : D = E := funext fun p => by
  rcases a.1 p with e1 | ⟨n, t, hn, q, e1⟩
  · rcases b.1 p with e2 | ⟨m, u, hm, r, e2⟩
    · rw [e1, e2]
    · have := (a.2 _ _ _ r).2; omega
  · rcases b.1 p with e2 | ⟨m, u, hm, r, e2⟩
    · have := (b.2 _ _ _ q).2; omega
    · have h1 := (a.2 _ _ _ r).1
      have h2 := (b.2 _ _ _ q).1
      omega
def nn (D : Nat → Nat) (p : Nat) : Nat := if D p = 99999 then 999 else D p / 100
theorem nn_lay {w h s : Nat} {K D : Nat → Nat} (d : isD w h K s D) {t : Nat} (ht : t ≤ 48) {X : Nat → Bool} (hX : IsL w h K s t X) (p : Nat) : X p = true ↔ nn D p ≤ t := by
  rw [hX p]
  unfold nn
  constructor
  · rintro ⟨n, u, hu, q⟩
    have h1 := isD_st d _ _ _ q
    have h2 := (d.2 _ _ _ q).2
    rw [if_neg (by omega)]
    omega
  · intro q
    rcases d.1 p with e | ⟨n, u, hn, r, e⟩
    · rw [if_pos e] at q; omega
    · have h2 := (d.2 _ _ _ r).2
      rw [if_neg (by omega)] at q
      exact ⟨n, u, by omega, r⟩
theorem nn_le {w h s : Nat} {K D : Nat → Nat} (d : isD w h K s D) (p : Nat) : nn D p ≤ 48 ∨ nn D p = 999 := by
  unfold nn
  rcases d.1 p with e | ⟨n, u, hn, r, e⟩
  · exact Or.inr (by rw [if_pos e])
  · have h2 := (d.2 _ _ _ r).2
    have h3 := Wk_le r
    exact Or.inl (by rw [if_neg (by omega)]; omega)
section NE
variable {w h : Nat} {K : Nat → Nat}
theorem c_sooner {I : tq_PI} {L : tq_PL} {a s : Nat} {D E : Nat → Nat} (H : HC I L a w h K) (hs : s < 2) (d : isD w h K s D) (d2 : isD w h K (1 - s) E) : ∃ y, FX3_sooner I L a (zI (s : Int)) = some y ∧ bb y = fun p => sto K p && decide (nn D p < nn E p) := by
  have k := H.k
  have hs2 : 1 - s < 2 := by omega
  obtain ⟨x0, ex0, hx0⟩ := c_reached H hs (c_sol H)
  obtain ⟨y0, ey0, hy0⟩ := c_reached H hs2 (c_sol H)
  obtain ⟨v, e, hv⟩ := it_for (f := fun p : Int64 × Int64 × Int64 × Int32 => FX3_sooner_s37 I L a (zI (s : Int)) (zI ((1 - s : Nat) : Int)) p.1 p.2.1 p.2.2.1 p.2.2.2) (fun i (x : Int64 × Int64 × Int64) => (x.1, x.2.1, x.2.2, zI (i : Int))) 49 (fun i x => IsL w h K s i (bb x.1) ∧ IsL w h K (1 - s) i (bb x.2.1) ∧ ∀ p, bb x.2.2 p = true ↔ sto K p = true ∧ ∃ t, t < i ∧ nn D p ≤ t ∧ t < nn E p) (Post := fun v => ∀ p, bb v p = true ↔ sto K p = true ∧ nn D p < nn E p) (fun i x hi hx => by
    obtain ⟨x, y, f⟩ := x
    obtain ⟨h1, h2, h3⟩ := hx
    dsimp only at h1 h2 h3 ⊢
    obtain ⟨x1, ex1, hx1⟩ := c_nl H hs (y := x) (c_sol H) (sb_rf K) H.z
    obtain ⟨y1, ey1, hy1⟩ := c_nl H hs2 (y := y) (c_sol H) (sb_rf K) H.z
    have l1 := lay_s k H.le H.z h1
    have l2 := lay_s k H.le H.z h2
    rw [← hx1] at l1
    rw [← hy1] at l2
    have nf : ∀ p, bb (f ||| ((x &&& (y ^^^ (-1 : Int64))) &&& FX3_stones I L a)) p = true ↔ sto K p = true ∧ ∃ t, t < i + 1 ∧ nn D p ≤ t ∧ t < nn E p := fun p => by
      rw [bb_or, bb_and, bb_minus, c_sto H, Bool.or_eq_true, Bool.and_eq_true, Bool.and_eq_true, Bool.not_eq_true', h3 p, nn_lay d (by omega) h1 p]
      have := nn_lay d2 (by omega) h2 p
      rw [← Bool.not_eq_true, this]
      constructor
      · rintro (⟨q1, t, q2, q3⟩ | ⟨⟨q1, q2⟩, q3⟩)
        · exact ⟨q1, t, by omega, q3⟩
        · exact ⟨q3, i, by omega, q1, by omega⟩
      · rintro ⟨q1, t, q2, q3, q4⟩
        by_cases ti : t = i
        · subst ti
          exact Or.inr ⟨⟨q3, by omega⟩, q1⟩
        · exact Or.inl ⟨q1, t, by omega, q3, q4⟩
    have go : (∃ s2 : Int64 × Int64 × Int64, (some (.inl (x1, y1, (f ||| ((x &&& (y ^^^ (-1 : Int64))) &&& FX3_stones I L a)), zI ((i : Int) + 1))) : Option ((Int64 × Int64 × Int64 × Int32) ⊕ Int64)) = some (.inl (s2.1, s2.2.1, s2.2.2, zI ((i + 1 : Nat) : Int))) ∧ IsL w h K s (i + 1) (bb s2.1) ∧ IsL w h K (1 - s) (i + 1) (bb s2.2.1) ∧ ∀ p, bb s2.2.2 p = true ↔ sto K p = true ∧ ∃ t, t < i + 1 ∧ nn D p ≤ t ∧ t < nn E p) := ⟨(x1, y1, _), rfl, l1, l2, nf⟩
    unfold FX3_sooner_s37 FX3_sooner_j105L37
    simp (disch := omega) only [zlet, obind, zI_lit, zI_neg, zI_add, zI_sub, zI_mul, zI_div, zI_le, zI_lt, zI_eq, zI_cl, irem, ile_t, ile_f, ilt_t, ilt_f, ieq_t, ieq_f, and_true, true_and, and_false, false_and, and_self, not_true_eq_false, not_false_eq_true, ↓reduceIte, Int.toNat_natCast, tqb_z, tqb_t, tqb_f, ex1, ey1, lgz]
    by_cases q1 : x1 = x
    · rw [if_pos q1]
      by_cases q2 : y1 = y
      · rw [if_pos q2]
        refine Or.inr ⟨_, rfl, fun p => ?_⟩
        rw [nf p]
        refine and_congr Iff.rfl ⟨fun ⟨t, _, q3, q4⟩ => by omega, fun q3 => ?_⟩
        have en1 := lay_end k H.le H.z h1 (by rw [← hx1, q1])
        have n1 : nn D p ≤ i := by
          rw [← nn_lay d (by omega) h1 p]
          rcases d.1 p with e | ⟨n, u, hn, r, e⟩
          · have : nn D p = 999 := by unfold nn; rw [if_pos e]
            rcases nn_le d2 p with z | z <;> omega
          · exact en1 n u p r
        exact ⟨nn D p, by omega, Nat.le_refl _, q3⟩
      · rw [if_neg q2]
        exact Or.inl go
    · rw [if_neg q1]
      exact Or.inl go) (fun x hx => by
    obtain ⟨h1, h2, h3⟩ := hx
    unfold FX3_sooner_s37
    simp (disch := omega) only [zlet, obind, zI_lit, zI_neg, zI_add, zI_sub, zI_mul, zI_div, zI_le, zI_lt, zI_eq, zI_cl, irem, ile_t, ile_f, ilt_t, ilt_f, ieq_t, ieq_f, and_true, true_and, and_false, false_and, and_self, not_true_eq_false, not_false_eq_true, ↓reduceIte, Int.toNat_natCast, tqb_z, tqb_t, tqb_f]
    refine ⟨_, rfl, fun p => ?_⟩
    rw [h3 p]
    refine and_congr Iff.rfl ⟨fun ⟨t, _, q3, q4⟩ => by omega, fun q3 => ?_⟩
    rcases nn_le d p with z | z
    · exact ⟨nn D p, by omega, Nat.le_refl _, q3⟩
    · rcases nn_le d2 p with z2 | z2 <;> omega) 0 (x0, y0, 0) (by omega) (by omega) ⟨by rw [hx0]; exact lay0 k H.le, by rw [hy0]; exact lay0 k H.le, fun p => by
      dsimp only
      rw [bb_0]
      constructor
      · intro q; cases q
      · rintro ⟨_, t, ht, _⟩; omega⟩
  refine ⟨v, ?_, funext fun p => by rw [Bool.eq_iff_iff, hv p]; simp⟩
  have ej : FX3_sooner I L a (zI (s : Int)) = FX3_sooner_j9 I L a (zI (s : Int)) (zI ((1 - s : Nat) : Int)) := by
    unfold FX3_sooner
    rcases (by omega : s = 0 ∨ s = 1) with rfl | rfl
    · rw [if_pos (by rfl)]; rfl
    · rw [if_neg (by decide)]; rfl
  rw [ej]
  unfold FX3_sooner_j9
  simp only [zlet, ex0, ey0, obind]
  exact (congrArg (fun o => Option.bind o _) e).trans (obind _ _)
theorem g18 : tq_rg 136 18 = 143 := by decide +kernel
theorem FD.fc {I J : tq_PI} {b : Nat} {D : Nat → Nat} (F : FD I w h D) (C : FC b I J) (q : b ≠ 142) : FD J w h D := by
  unfold FD
  rw [C 142 (fun e => q e.symm)]
  exact F
theorem r_nears {J : tq_PI} {s : Nat} {D : Nat → Nat} (R : RW J w h) (M : tq_PL) (F : FD J w h D) (u : Int32) : ∃ J2, tq_it (fun p : Int32 × tq_PI => FX12_nearer_s29 p.2 M 136 u p.1) tq_N (zI ((0 : Nat) : Int), J) = some J2 ∧ FC 143 J J2 ∧ ∀ c, c < w * h → J2 143 c = zI (nn D (pl w c) : Nat) := by
  have k := R.2.2
  have h48 := wh_le k
  exact it_for (f := fun p : Int32 × tq_PI => FX12_nearer_s29 p.2 M 136 u p.1) (fun i (J : tq_PI) => (zI (i : Int), J)) (w * h) (fun i J1 => FC 143 J J1 ∧ ∀ c, c < i → J1 143 c = zI (nn D (pl w c) : Nat)) (Post := fun J1 => FC 143 J J1 ∧ ∀ c, c < w * h → J1 143 c = zI (nn D (pl w c) : Nat)) (fun i J1 hi hs => by
    obtain ⟨C, hM⟩ := hs
    have RJ := R.fc C (by omega)
    have FJ := F.fc C (by omega)
    have dle := FJ.2.1 (pl w i)
    have fin : ∀ v : Nat, v = nn D (pl w i) → ∀ c, c < i + 1 → tq_up2 J1 143 i (zI (v : Int)) 143 c = zI (nn D (pl w c) : Nat) := fun v hv c hc => by
      by_cases q : c = i
      · rw [q, up_s, hv]
      · rw [up_n _ _ (Or.inr q)]
        exact hM c (by omega)
    unfold FX12_nearer_s29 FX12_nearer_j68L29
    simp (disch := omega) only [zlet, obind, zI_lit, zI_neg, zI_add, zI_sub, zI_mul, zI_div, zI_le, zI_lt, zI_eq, zI_cl, irem, ile_t, ile_f, ilt_t, ilt_f, ieq_t, ieq_f, and_true, true_and, and_false, false_and, and_self, not_true_eq_false, not_false_eq_true, ↓reduceIte, Int.toNat_natCast, tqb_z, tqb_t, tqb_f, r_many RJ, g17, g18, FJ.1 i hi]
    by_cases q : D (pl w i) = 99999
    · rw [if_pos (by omega)]
      exact Or.inl ⟨_, rfl, C.tr FC.up, fin 999 (by unfold nn; rw [if_pos q])⟩
    · rw [if_neg (by omega)]
      exact Or.inl ⟨_, rfl, C.tr FC.up, fin (D (pl w i) / 100) (by unfold nn; rw [if_neg q])⟩) (fun J1 hs => by
    have RJ := R.fc hs.1 (by omega)
    unfold FX12_nearer_s29
    simp (disch := omega) only [zlet, obind, zI_lit, zI_neg, zI_add, zI_sub, zI_mul, zI_div, zI_le, zI_lt, zI_eq, zI_cl, irem, ile_t, ile_f, ilt_t, ilt_f, ieq_t, ieq_f, and_true, true_and, and_false, false_and, and_self, not_true_eq_false, not_false_eq_true, ↓reduceIte, Int.toNat_natCast, tqb_z, tqb_t, tqb_f, r_many RJ]
    exact ⟨_, rfl, hs⟩) 0 J (by omega) (by omega) ⟨FC.rf, fun c hc => absurd hc (Nat.not_lt_zero c)⟩
theorem r_nearsum {J : tq_PI} {D E : Nat → Nat} (R : RW J w h) (G : GR J w h 0 K) (M : tq_PL) (F : FD J w h E) (hN : ∀ c, c < w * h → J 143 c = zI (nn D (pl w c) : Nat)) (hD : ∀ p, nn D p ≤ 999) : tq_it (fun p : Int32 × Int32 => FX12_nearer_s88 J M 136 p.1 p.2) tq_N (zI ((0 : Nat) : Int), zI ((0 : Nat) : Int)) = some (zI (ws wor K (fun p => sto K p && decide (nn D p < nn E p)) : Nat)) := by
  have k := R.2.2
  have h48 := wh_le k
  obtain ⟨g, hg⟩ : ∃ g : Nat → Nat, g = fun p => if nn D p < nn E p then wor (K p) else 0 := ⟨_, rfl⟩
  have gle : ∀ p, g p ≤ 4 := fun p => by
    have := wor_le (K p)
    rw [hg]; dsimp only; split <;> omega
  have hb : ∀ n, n ≤ w * h → fb_sm (fun i => g (pl w i)) n ≤ 256 := fun n hn => by
    have := fb_sm_le (f := fun i => g (pl w i)) (g := fun _ => 4) (n := n) (fun i _ => gle _)
    rw [fb_sm_const] at this
    omega
  obtain ⟨x, e, hx⟩ := it_for (f := fun p : Int32 × Int32 => FX12_nearer_s88 J M 136 p.1 p.2) (fun i (x : Int32) => (x, zI (i : Int))) (w * h) (fun i x => x = zI (fb_sm (fun i => g (pl w i)) i : Nat)) (Post := fun x => x = zI (fb_sm (fun i => g (pl w i)) (w * h) : Nat)) (fun i x hi hx => by
    subst hx
    have := hb i (by omega)
    have dle := F.2.1 (pl w i)
    have nle := hD (pl w i)
    have en : ∀ v : Int, v = (nn E (pl w i) : Nat) → (∃ s2, FX12_nearer_j133L88 J M 136 (zI (i : Int)) (zI v) (zI (nn D (pl w i) : Nat)) (zI (fb_sm (fun i => g (pl w i)) i : Nat)) = some (.inl (s2, zI ((i + 1 : Nat) : Int))) ∧ s2 = zI (fb_sm (fun i => g (pl w i)) (i + 1) : Nat)) := fun v hv => by
      have vb : nn E (pl w i) ≤ 999 := by unfold nn; split <;> omega
      refine ⟨zI (fb_sm (fun i => g (pl w i)) (i + 1) : Nat), ?_, rfl⟩
      unfold FX12_nearer_j133L88 FX12_nearer_j150L88
      subst hv
      simp (disch := omega) only [zlet, obind, zI_lit, zI_neg, zI_add, zI_sub, zI_mul, zI_div, zI_le, zI_lt, zI_eq, zI_cl, irem, ile_t, ile_f, ilt_t, ilt_f, ieq_t, ieq_f, and_true, true_and, and_false, false_and, and_self, not_true_eq_false, not_false_eq_true, ↓reduceIte, Int.toNat_natCast, tqb_z, tqb_t, tqb_f, r_kind0 k G, r_worth _ _ (G.2.1 _)]
      rw [fb_sm_succ, hg]
      dsimp only
      by_cases q : nn D (pl w i) < nn E (pl w i)
      · rw [if_neg (by omega), if_pos q]; rfl
      · rw [if_pos (by omega), if_neg q]; rfl
    unfold FX12_nearer_s88
    simp (disch := omega) only [zlet, obind, zI_lit, zI_neg, zI_add, zI_sub, zI_mul, zI_div, zI_le, zI_lt, zI_eq, zI_cl, irem, ile_t, ile_f, ilt_t, ilt_f, ieq_t, ieq_f, and_true, true_and, and_false, false_and, and_self, not_true_eq_false, not_false_eq_true, ↓reduceIte, Int.toNat_natCast, tqb_z, tqb_t, tqb_f, r_many R, g17, g18, F.1 i hi, hN i hi]
    by_cases q : E (pl w i) = 99999
    · rw [if_pos (by omega)]
      exact Or.inl (en 999 (by unfold nn; rw [if_pos q]; rfl))
    · rw [if_neg (by omega)]
      exact Or.inl (en _ (by unfold nn; rw [if_neg q]; rfl))) (fun x hx => by
    unfold FX12_nearer_s88
    simp (disch := omega) only [zlet, obind, zI_lit, zI_neg, zI_add, zI_sub, zI_mul, zI_div, zI_le, zI_lt, zI_eq, zI_cl, irem, ile_t, ile_f, ilt_t, ilt_f, ieq_t, ieq_f, and_true, true_and, and_false, false_and, and_self, not_true_eq_false, not_false_eq_true, ↓reduceIte, Int.toNat_natCast, tqb_z, tqb_t, tqb_f, r_many R]
    exact ⟨_, rfl, hx⟩) 0 (zI ((0 : Nat) : Int)) (by omega) (by omega) rfl
  rw [e, hx, sm_all k g (fun p hp => by rw [hg]; simp [G.2.2 p hp, wor])]
  congr 3
  unfold ws
  refine fb_sm_cong fun p _ => ?_
  rw [hg]
  dsimp only
  by_cases q : nn D p < nn E p
  · rw [if_pos q]
    by_cases st : sto K p = true
    · simp [st, q]
    · have st2 : sto K p = false := by simpa using st
      simp only [st2, Bool.false_and, Bool.false_eq_true, if_false]
      simp only [sto, decide_eq_false_iff_not] at st2
      unfold wor
      rw [if_neg (by omega), if_neg (by omega), if_neg (by omega)]
  · simp [q]
end NE
theorem q_nearer {I : tq_PI} {L : tq_PL} (V : HV I L 1 0) (x y : Int32) : ∃ v, FX11_nearer I L 0 x y = some v ∧ ∀ J M, J 137 = I 137 → ∃ J2, FX12_nearer J M 136 x y = some (v, J2) ∧ FP J J2 := by
  rcases hill_case V x with ⟨e, r⟩ | ⟨i, w, h, K, hi, rfl, e, H, S, r⟩
  · exact ⟨-1, by unfold FX11_nearer; rw [rg_0_0, e, obind]; rfl, fun J M hJ => ⟨J, by unfold FX12_nearer; rw [r J M hJ, obind]; rfl, FP.rf⟩⟩
  · obtain ⟨z, hz, rfl⟩ := zI_of y
    by_cases sd : z = 0 ∨ z = 1
    · obtain ⟨s, rfl⟩ : ∃ s : Nat, z = s := ⟨z.toNat, by omega⟩
      have hs : s < 2 := by omega
      have hD : ∃ D E, isD w h K s D ∧ isD w h K (1 - s) E := by
        obtain ⟨J1, J2, h1, h2, R1, R2, G2, P1, P2, -⟩ := r I L rfl
        obtain ⟨_, D, _, _, _, d⟩ := r_lays (s := s) R2 G2 (by omega) L hs
        obtain ⟨_, E, _, _, _, d2⟩ := r_lays (s := 1 - s) R2 G2 (by omega) L (by omega)
        exact ⟨D, E, d, d2⟩
      obtain ⟨D, E, d, d2⟩ := hD
      obtain ⟨y, ey, hy⟩ := c_sooner H hs d d2
      refine ⟨zI (ws wor K (fun p => sto K p && decide (nn D p < nn E p)) : Nat), ?_, fun J M hJ => ?_⟩
      · unfold FX11_nearer
        simp (disch := omega) only [rg_0_0, e, c_isSide, zlet, obind, zI_lit, zI_neg, zI_add, zI_sub, zI_mul, zI_div, zI_le, zI_lt, zI_eq, zI_cl, irem, ile_t, ile_f, ilt_t, ilt_f, ieq_t, ieq_f, and_true, true_and, and_false, false_and, and_self, not_true_eq_false, not_false_eq_true, ↓reduceIte, Int.toNat_natCast, tqb_z, tqb_t, tqb_f, r_isIn, decide_eq_false_iff_not, decide_eq_true_eq, oel_s, oel_n, Bool.false_eq_true, btf, eq_self, or_self, or_false, false_or, or_true, true_or, iand_f, iandl_f, ior_t, ior_f, ey, c_worth H, hy]
      · obtain ⟨J1, J2, h1, h2, R1, R2, G2, P1, P2, -⟩ := r J M hJ
        obtain ⟨J3, D', e3, F3, M3, d3⟩ := r_lays (s := s) R2 G2 (by omega) M hs
        have := isD_one d3 d
        subst this
        have e3' : FX12_laysWays J2 M 136 (zI 0) (zI (s : Int)) = some J3 := e3
        have R3 := R2.fc F3 (by omega)
        have G3 := G2.fc F3 (by omega)
        obtain ⟨J4, e4, F4, N4⟩ := r_nears (s := s) R3 M M3 (zI (s : Int))
        have R4 := R3.fc F4 (by omega)
        have G4 := G3.fc F4 (by omega)
        obtain ⟨J5, E', e5, F5, M5, d5⟩ := r_lays (s := 1 - s) R4 G4 (by omega) M (by omega)
        have := isD_one d5 d2
        subst this
        have e5' : FX12_laysWays J4 M 136 (zI 0) (zI (1 - (s : Int))) = some J5 := by
          rw [show (1 - (s : Int)) = ((1 - s : Nat) : Int) by omega]
          exact e5
        have e6 := r_nearsum (K := K) (D := D') (R4.fc F5 (by omega)) (G4.fc F5 (by omega)) M M5 (fun c hc => by rw [F5 143 (by omega)]; exact N4 c hc) (fun p => by rcases nn_le d p with q | q <;> omega)
        refine ⟨J5, ?_, ((P2.tr (F3.fp (by unfold psl; omega))).tr (F4.fp (by unfold psl; omega))).tr (F5.fp (by unfold psl; omega))⟩
        unfold FX12_nearer
        simp (disch := omega) only [h1, h2, r_isSide, e3', zlet, obind, zI_lit, zI_neg, zI_add, zI_sub, zI_mul, zI_div, zI_le, zI_lt, zI_eq, zI_cl, irem, ile_t, ile_f, ilt_t, ilt_f, ieq_t, ieq_f, and_true, true_and, and_false, false_and, and_self, not_true_eq_false, not_false_eq_true, ↓reduceIte, Int.toNat_natCast, tqb_z, tqb_t, tqb_f, r_isIn, decide_eq_false_iff_not, decide_eq_true_eq, oel_s, oel_n, Bool.false_eq_true, btf, eq_self, or_self, or_false, false_or, or_true, true_or, iand_f, iandl_f, ior_t, ior_f]
        refine (congrArg (fun o => Option.bind o _) e4).trans ((obind _ _).trans ?_)
        simp (disch := omega) only [e5', zlet, obind, zI_lit, zI_neg, zI_add, zI_sub, zI_mul, zI_div, zI_le, zI_lt, zI_eq, zI_cl, irem, ile_t, ile_f, ilt_t, ilt_f, ieq_t, ieq_f, and_true, true_and, and_false, false_and, and_self, not_true_eq_false, not_false_eq_true, ↓reduceIte, Int.toNat_natCast, tqb_z, tqb_t, tqb_f, r_isIn, decide_eq_false_iff_not, decide_eq_true_eq, oel_s, oel_n, Bool.false_eq_true, btf, eq_self, or_self, or_false, false_or, or_true, true_or, iand_f, iandl_f, ior_t, ior_f]
        exact (congrArg (fun o => Option.bind o _) e6).trans (obind _ _)
    · refine ⟨-1, ?_, fun J M hJ => ?_⟩
      · unfold FX11_nearer FX11_nearer_j20
        simp (disch := omega) only [rg_0_0, e, c_isSide, zlet, obind, zI_lit, zI_neg, zI_add, zI_sub, zI_mul, zI_div, zI_le, zI_lt, zI_eq, zI_cl, irem, ile_t, ile_f, ilt_t, ilt_f, ieq_t, ieq_f, and_true, true_and, and_false, false_and, and_self, not_true_eq_false, not_false_eq_true, ↓reduceIte, Int.toNat_natCast, tqb_z, tqb_t, tqb_f, r_isIn, decide_eq_false_iff_not, decide_eq_true_eq, oel_s, oel_n, Bool.false_eq_true, btf, eq_self, or_self, or_false, false_or, or_true, true_or, iand_f, iandl_f, ior_t, ior_f]
      · obtain ⟨J1, J2, h1, h2, R1, R2, G2, P1, P2, -⟩ := r J M hJ
        refine ⟨J1, ?_, P1⟩
        unfold FX12_nearer FX12_nearer_j15
        simp (disch := omega) only [h1, r_isSide, zlet, obind, zI_lit, zI_neg, zI_add, zI_sub, zI_mul, zI_div, zI_le, zI_lt, zI_eq, zI_cl, irem, ile_t, ile_f, ilt_t, ilt_f, ieq_t, ieq_f, and_true, true_and, and_false, false_and, and_self, not_true_eq_false, not_false_eq_true, ↓reduceIte, Int.toNat_natCast, tqb_z, tqb_t, tqb_f, r_isIn, decide_eq_false_iff_not, decide_eq_true_eq, oel_s, oel_n, Bool.false_eq_true, btf, eq_self, or_self, or_false, false_or, or_true, true_or, iand_f, iandl_f, ior_t, ior_f]
