/-! QUERIES: caves. -/
theorem r_kind0 {I : tq_PI} {w h : Nat} {K : Nat → Nat} (k : wh w h) (G : GR I w h 0 K) (L : tq_PL) {z : Int} (hz : 0 ≤ z ∧ z < ((w * h : Nat) : Int)) : FX12_kindOf I L 136 (zI 0) (zI z) = some (zI (K (pl w z.toNat) : Nat)) := r_kind (l := 0) k G (by omega) L hz
/-- the neighbours of one cell -/
theorem r_cave_d {I : tq_PI} {w h : Nat} {Kk : Nat → Nat} {P0 : Nat → Bool} (R : RW I w h) (G : GR I w h 0 Kk) (L : tq_PL) (n0 : Int32) (M : MT I w h P0) {c : Nat} (hc : c < w * h) (m0 : Bool) : ∃ (m1 : Bool) (J : tq_PI) (P1 : Nat → Bool), tq_it (fun p : Int32 × Int32 × tq_PI => FX12_caveOf_s77 p.2.2 L 136 n0 (zI (c : Int)) p.1 p.2.1) tq_N (zB m0, zI ((0 : Nat) : Int), I) = some (zB m1, J) ∧ FC 141 I J ∧ MT J w h P1 ∧ CS (air w h Kk) P0 P1 ∧ (m1 = false → m0 = false ∧ P1 = P0 ∧ (P0 (pl w c) = true → ∀ e, e < w * h → adj (pl w c) (pl w e) → air w h Kk (pl w e) = true → P0 (pl w e) = true)) ∧ (m1 = true → m0 = true ∨ fb_ct P0 64 < fb_ct P1 64) := by
  have k := R.2.2
  have h48 := wh_le k
  have kz : ∀ p, (zI ((Kk p : Nat) : Int) = zI 0) = (Kk p = 0) := fun p => by
    have := G.2.1 p
    rw [zI_eq (by omega) (by omega)]
    simp
  have key := it_for (f := fun p : Int32 × Int32 × tq_PI => FX12_caveOf_s77 p.2.2 L 136 n0 (zI (c : Int)) p.1 p.2.1) (fun i (s : Int32 × tq_PI) => (s.1, zI (i : Int), s.2)) 4 (fun i s => ∃ (m : Bool) (P1 : Nat → Bool), s.1 = zB m ∧ FC 141 I s.2 ∧ MT s.2 w h P1 ∧ CS (air w h Kk) P0 P1 ∧ (m = false → m0 = false ∧ P1 = P0 ∧ (P0 (pl w c) = true → ∀ d, d < i → ∀ e : Nat, e < w * h → bs w h c d = e → air w h Kk (pl w e) = true → P0 (pl w e) = true)) ∧ (m = true → m0 = true ∨ fb_ct P0 64 < fb_ct P1 64)) (Post := fun b => ∃ (m1 : Bool) (P1 : Nat → Bool), b.1 = zB m1 ∧ FC 141 I b.2 ∧ MT b.2 w h P1 ∧ CS (air w h Kk) P0 P1 ∧ (m1 = false → m0 = false ∧ P1 = P0 ∧ (P0 (pl w c) = true → ∀ d, d < 4 → ∀ e : Nat, e < w * h → bs w h c d = e → air w h Kk (pl w e) = true → P0 (pl w e) = true)) ∧ (m1 = true → m0 = true ∨ fb_ct P0 64 < fb_ct P1 64)) (fun i s hi hs => by
    obtain ⟨m, J⟩ := s
    obtain ⟨m, P1, rfl, F, M1, C1, h1, h2⟩ := hs
    dsimp only at F M1 ⊢
    have RJ := R.fc F (by omega)
    have GJ := G.fc F (by omega)
    unfold FX12_caveOf_s77 FX12_caveOf_j142L77
    simp (disch := omega) only [zlet, obind, zI_lit, zI_neg, zI_add, zI_sub, zI_mul, zI_div, zI_le, zI_lt, zI_eq, zI_cl, irem, ile_t, ile_f, ilt_t, ilt_f, ieq_t, ieq_f, and_true, true_and, and_false, false_and, and_self, not_true_eq_false, not_false_eq_true, ↓reduceIte, Int.toNat_natCast, tqb_z, tqb_t, tqb_f, g16, M1.1 c hc, zB_0]
    by_cases pc : P1 (pl w c) = false
    · rw [if_pos pc]
      refine Or.inr ⟨_, rfl, m, P1, rfl, F, M1, C1, fun q => ?_, h2⟩
      obtain ⟨q1, q2, q3⟩ := h1 q
      refine ⟨q1, q2, fun r => ?_⟩
      rw [← q2, pc] at r
      cases r
    · rw [if_neg pc, r_beside RJ L hc hi, obind]
      have pct : P1 (pl w c) = true := by simpa using pc
      rcases bs_cell k hc i with b1 | ⟨e, b1, he, a⟩
      · rw [b1, if_pos (by rfl)]
        refine Or.inl ⟨(zB m, J), rfl, m, P1, rfl, F, M1, C1, fun q => ?_, h2⟩
        obtain ⟨q1, q2, q3⟩ := h1 q
        refine ⟨q1, q2, fun r d hd e he hb => ?_⟩
        by_cases q4 : d = i
        · rw [q4, b1] at hb; omega
        · exact q3 r d (by omega) e he hb
      · rw [b1]
        simp (disch := omega) only [zlet, obind, zI_lit, zI_neg, zI_add, zI_sub, zI_mul, zI_div, zI_le, zI_lt, zI_eq, zI_cl, irem, ile_t, ile_f, ilt_t, ilt_f, ieq_t, ieq_f, and_true, true_and, and_false, false_and, and_self, not_true_eq_false, not_false_eq_true, ↓reduceIte, Int.toNat_natCast, tqb_z, tqb_t, tqb_f, M1.1 e he, zB_0, r_kind0 k GJ, kz]
        by_cases pe : P1 (pl w e) = false
        · rw [if_pos pe]
          by_cases ke : Kk (pl w e) = 0
          · rw [if_pos ke]
            have ha : air w h Kk (pl w e) = true := by simp [air, pl_ar k he, ke]
            refine Or.inl ⟨(zI 1, tq_up2 J 141 e (zI 1)), rfl, true, pup P1 (pl w e) true, rfl, F.tr FC.up, M1.up k he true, C1.tr (CS.up pct a ha), fun q => (by cases q), fun _ => ?_⟩
            have h3 := ct_up1 (n := 64) (by have := pl_48 k he; omega) pe
            have h4 := fb_ct_sub (p := P0) (q := P1) (n := 64) (fun p _ q => C1.1 p q)
            exact Or.inr (by omega)
          · rw [if_neg ke]
            refine Or.inl ⟨(zB m, J), rfl, m, P1, rfl, F, M1, C1, fun q => ?_, h2⟩
            obtain ⟨q1, q2, q3⟩ := h1 q
            refine ⟨q1, q2, fun r d hd e2 he2 hb => ?_⟩
            by_cases q4 : d = i
            · rw [q4, b1] at hb
              have : e2 = e := by omega
              intro q5
              rw [this] at q5
              simp [air, ke] at q5
            · exact q3 r d (by omega) e2 he2 hb
        · rw [if_neg pe]
          refine Or.inl ⟨(zB m, J), rfl, m, P1, rfl, F, M1, C1, fun q => ?_, h2⟩
          obtain ⟨q1, q2, q3⟩ := h1 q
          refine ⟨q1, q2, fun r d hd e2 he2 hb => ?_⟩
          by_cases q4 : d = i
          · rw [q4, b1] at hb
            have : e2 = e := by omega
            intro _
            rw [this, ← q2]
            simpa using pe
          · exact q3 r d (by omega) e2 he2 hb) (fun s hs => by
    unfold FX12_caveOf_s77
    simp (disch := omega) only [zlet, obind, zI_lit, zI_neg, zI_add, zI_sub, zI_mul, zI_div, zI_le, zI_lt, zI_eq, zI_cl, irem, ile_t, ile_f, ilt_t, ilt_f, ieq_t, ieq_f, and_true, true_and, and_false, false_and, and_self, not_true_eq_false, not_false_eq_true, ↓reduceIte, Int.toNat_natCast, tqb_z, tqb_t, tqb_f]
    exact ⟨_, rfl, hs⟩) 0 (zB m0, I) (by omega) (by omega) ⟨m0, P0, rfl, FC.rf, M, CS.rf, fun q => ⟨q, rfl, fun _ d hd => absurd hd (Nat.not_lt_zero d)⟩, fun q => Or.inl q⟩
  obtain ⟨⟨b1, b2⟩, e, m1, P1, rfl, F, M1, C1, h1, h2⟩ := key
  refine ⟨m1, b2, P1, e, F, M1, C1, fun q => ?_, h2⟩
  obtain ⟨q1, q2, q3⟩ := h1 q
  refine ⟨q1, q2, fun r e he a ha => ?_⟩
  obtain ⟨d, hd, hb⟩ := bs_adj k hc he a
  exact q3 r d hd e he hb ha
/-- one sweep -/
theorem r_cave_c {I : tq_PI} {w h : Nat} {Kk : Nat → Nat} {P0 : Nat → Bool} (R : RW I w h) (G : GR I w h 0 Kk) (L : tq_PL) (M : MT I w h P0) : ∃ (m1 : Bool) (J : tq_PI) (P1 : Nat → Bool) (n1 : Int32), tq_it (fun p : Int32 × Int32 × Int32 × tq_PI => FX12_caveOf_s47 p.2.2.2 L 136 p.1 p.2.1 p.2.2.1) tq_N (zI ((0 : Nat) : Int), zB false, zI ((0 : Nat) : Int), I) = some (n1, zB m1, J) ∧ FC 141 I J ∧ MT J w h P1 ∧ CS (air w h Kk) P0 P1 ∧ (m1 = false → P1 = P0 ∧ n1 = zI (fb_ct P0 64 : Nat) ∧ ∀ q p, P0 q = true → adj q p → air w h Kk p = true → P0 p = true) ∧ (m1 = true → fb_ct P0 64 < fb_ct P1 64) := by
  have k := R.2.2
  have h48 := wh_le k
  have key := it_for (f := fun p : Int32 × Int32 × Int32 × tq_PI => FX12_caveOf_s47 p.2.2.2 L 136 p.1 p.2.1 p.2.2.1) (fun i (s : Int32 × Int32 × tq_PI) => (s.1, s.2.1, zI (i : Int), s.2.2)) (w * h) (fun i s => ∃ (m : Bool) (P1 : Nat → Bool) (n : Nat), s.1 = zI (n : Int) ∧ n ≤ i ∧ s.2.1 = zB m ∧ FC 141 I s.2.2 ∧ MT s.2.2 w h P1 ∧ CS (air w h Kk) P0 P1 ∧ (m = false → P1 = P0 ∧ n = fb_ct (fun c => P0 (pl w c)) i ∧ ∀ c, c < i → P0 (pl w c) = true → ∀ e, e < w * h → adj (pl w c) (pl w e) → air w h Kk (pl w e) = true → P0 (pl w e) = true) ∧ (m = true → fb_ct P0 64 < fb_ct P1 64)) (Post := fun s => ∃ (m : Bool) (P1 : Nat → Bool) (n : Nat), s.1 = zI (n : Int) ∧ s.2.1 = zB m ∧ FC 141 I s.2.2 ∧ MT s.2.2 w h P1 ∧ CS (air w h Kk) P0 P1 ∧ (m = false → P1 = P0 ∧ n = fb_ct (fun c => P0 (pl w c)) (w * h) ∧ ∀ c, c < w * h → P0 (pl w c) = true → ∀ e, e < w * h → adj (pl w c) (pl w e) → air w h Kk (pl w e) = true → P0 (pl w e) = true) ∧ (m = true → fb_ct P0 64 < fb_ct P1 64)) (fun i s hi hs => by
    obtain ⟨n, m, J⟩ := s
    obtain ⟨m, P1, n, s1, s2, s3, F, M1, C1, h1, h2⟩ := hs
    dsimp only at F M1 s1 s3 ⊢
    subst s1 s3
    have RJ := R.fc F (by omega)
    have GJ := G.fc F (by omega)
    have fin : ∀ b : Bool, P1 (pl w i) = b → ∀ o : Option ((Int32 × Int32 × Int32 × tq_PI) ⊕ (Int32 × Int32 × tq_PI)), o = FX12_caveOf_j72L47 J L 136 (zB m) (zI (i : Int)) (zB b) (zI (n : Int)) → (∃ s2 : Int32 × Int32 × tq_PI, o = some (.inl (s2.1, s2.2.1, zI ((i + 1 : Nat) : Int), s2.2.2)) ∧ ∃ (m : Bool) (P1 : Nat → Bool) (n : Nat), s2.1 = zI (n : Int) ∧ n ≤ i + 1 ∧ s2.2.1 = zB m ∧ FC 141 I s2.2.2 ∧ MT s2.2.2 w h P1 ∧ CS (air w h Kk) P0 P1 ∧ (m = false → P1 = P0 ∧ n = fb_ct (fun c => P0 (pl w c)) (i + 1) ∧ ∀ c, c < i + 1 → P0 (pl w c) = true → ∀ e, e < w * h → adj (pl w c) (pl w e) → air w h Kk (pl w e) = true → P0 (pl w e) = true) ∧ (m = true → fb_ct P0 64 < fb_ct P1 64)) := fun b hb o ho => by
      obtain ⟨m2, J2, P2, e2, F2, M2, C2, h3, h4⟩ := r_cave_d RJ GJ L (zI (n : Int) + zB b) M1 hi m
      have eo : o = some (.inl (zI (n : Int) + zB b, zB m2, zI (i : Int) + 1, J2)) := by
        rw [ho]
        unfold FX12_caveOf_j72L47
        exact (congrArg (fun o => Option.bind o _) e2).trans (obind _ _)
      have en : zI (n : Int) + zB b = zI ((n + if b then 1 else 0 : Nat) : Int) := by
        cases b
        · show zI (n : Int) + zI 0 = _
          rw [zI_add]; rfl
        · show zI (n : Int) + zI 1 = _
          rw [zI_add]; rfl
      refine ⟨(zI (n : Int) + zB b, zB m2, J2), eo.trans (by simp only [zI_lit, zI_add]; rfl), m2, P2, n + (if b then 1 else 0), en, by split <;> omega, rfl, F.tr F2, M2, C1.tr C2, fun q => ?_, fun q => ?_⟩
      · obtain ⟨q1, q2, q3⟩ := h3 q
        obtain ⟨q4, q5, q6⟩ := h1 q1
        refine ⟨q2.trans q4, ?_, fun c hc r => ?_⟩
        · rw [fb_ct_succ, q5, ← hb, q4]
        · by_cases q7 : c = i
          · rw [q7] at r ⊢
            rw [q4] at q3
            exact q3 r
          · exact q6 c (by omega) r
      · rcases h4 q with q1 | q1
        · have h5 := h2 q1
          have h6 := fb_ct_sub (p := P1) (q := P2) (n := 64) (fun p _ q => C2.1 p q)
          omega
        · have h6 := fb_ct_sub (p := P0) (q := P1) (n := 64) (fun p _ q => C1.1 p q)
          omega
    unfold FX12_caveOf_s47
    simp (disch := omega) only [zlet, obind, zI_lit, zI_neg, zI_add, zI_sub, zI_mul, zI_div, zI_le, zI_lt, zI_eq, zI_cl, irem, ile_t, ile_f, ilt_t, ilt_f, ieq_t, ieq_f, and_true, true_and, and_false, false_and, and_self, not_true_eq_false, not_false_eq_true, ↓reduceIte, Int.toNat_natCast, tqb_z, tqb_t, tqb_f, r_many RJ, g16, M1.1 i hi, zB_0]
    cases pc : P1 (pl w i)
    · rw [if_pos rfl]
      exact Or.inl (fin false pc _ rfl)
    · rw [if_neg (by simp)]
      exact Or.inl (fin true pc _ rfl)) (fun s hs => by
    obtain ⟨m, P1, n, s1, s2, s3, F, M1, C1, h1, h2⟩ := hs
    have RJ := R.fc F (by omega)
    unfold FX12_caveOf_s47
    simp (disch := omega) only [zlet, obind, zI_lit, zI_neg, zI_add, zI_sub, zI_mul, zI_div, zI_le, zI_lt, zI_eq, zI_cl, irem, ile_t, ile_f, ilt_t, ilt_f, ieq_t, ieq_f, and_true, true_and, and_false, false_and, and_self, not_true_eq_false, not_false_eq_true, ↓reduceIte, Int.toNat_natCast, tqb_z, tqb_t, tqb_f, r_many RJ]
    exact ⟨_, rfl, m, P1, n, s1, s3, F, M1, C1, h1, h2⟩) 0 (zI ((0 : Nat) : Int), zB false, I) (by omega) (by omega) ⟨false, P0, 0, rfl, by omega, rfl, FC.rf, M, CS.rf, fun _ => ⟨rfl, rfl, fun c hc => absurd hc (Nat.not_lt_zero c)⟩, fun q => (by cases q)⟩
  obtain ⟨⟨b0, b1, b2⟩, e, m1, P1, n, s1, s3, F, M1, C1, h1, h2⟩ := key
  dsimp only at s1 s3 F M1
  subst s1 s3
  refine ⟨m1, b2, P1, _, e, F, M1, C1, fun q => ?_, h2⟩
  obtain ⟨q1, q2, q3⟩ := h1 q
  refine ⟨q1, by rw [q2, ct_all k P0 M.2], fun q p hq a ha => ?_⟩
  have aq := M.2 q hq
  have ap : ar w h p = true := by simp only [air, Bool.and_eq_true] at ha; exact ha.1
  have := q3 (cl w q) (cl_lt k aq) (by rw [pl_cl k aq]; exact hq) (cl w p) (cl_lt k ap) (by rw [pl_cl k aq, pl_cl k ap]; exact a) (by rw [pl_cl k ap]; exact ha)
  rw [pl_cl k ap] at this
  exact this
/-- the part of air cells to which a cell belongs -/
def cmp (w h : Nat) (K : Nat → Nat) (p : Nat) : Nat → Bool := flo (air w h K) (fun q => decide (q = p))
theorem r_cave {I : tq_PI} {w h : Nat} {K : Nat → Nat} (R : RW I w h) (G : GR I w h 0 K) (L : tq_PL) {c : Nat} (hc : c < w * h) : ∃ J : tq_PI, FX12_caveOf I L 136 (zI (c : Int)) = some (zI (fb_ct (cmp w h K (pl w c)) 64 : Nat), J) ∧ FC 141 I J ∧ MT J w h (cmp w h K (pl w c)) := by
  have k := R.2.2
  have h48 := wh_le k
  obtain ⟨J1, e1, F1, M1⟩ := it_for (f := fun p : Int32 × tq_PI => FX12_caveOf_s2 p.2 L 136 (zI (c : Int)) p.1) (fun i (J : tq_PI) => (zI (i : Int), J)) (w * h) (fun i J => FC 141 I J ∧ ∀ d, d < i → J 141 d = zB (decide (pl w d = pl w c))) (Post := fun J => FC 141 I J ∧ ∀ d, d < w * h → J 141 d = zB (decide (pl w d = pl w c))) (fun i J hi hs2 => by
    obtain ⟨F, hM⟩ := hs2
    have RJ := R.fc F (by omega)
    have fin : ∀ b : Bool, b = decide (pl w i = pl w c) → ∀ d, d < i + 1 → tq_up2 J 141 i (zB b) 141 d = zB (decide (pl w d = pl w c)) := fun b hb d hd => by
      by_cases q : d = i
      · rw [q, up_s, hb]
      · rw [up_n _ _ (Or.inr q)]
        exact hM d (by omega)
    unfold FX12_caveOf_s2 FX12_caveOf_j25L2
    simp (disch := omega) only [zlet, obind, zI_lit, zI_neg, zI_add, zI_sub, zI_mul, zI_div, zI_le, zI_lt, zI_eq, zI_cl, irem, ile_t, ile_f, ilt_t, ilt_f, ieq_t, ieq_f, and_true, true_and, and_false, false_and, and_self, not_true_eq_false, not_false_eq_true, ↓reduceIte, Int.toNat_natCast, tqb_z, tqb_t, tqb_f, r_many RJ, g16, true_or, or_true]
    by_cases q : i = c
    · rw [if_pos (by omega)]
      exact Or.inl ⟨_, rfl, F.tr FC.up, fin true (by simp [q])⟩
    · rw [if_neg (by omega)]
      exact Or.inl ⟨_, rfl, F.tr FC.up, fin false (by symm; rw [decide_eq_false_iff_not]; exact fun e => q (pl_inj k e))⟩) (fun J hs2 => by
    have RJ := R.fc hs2.1 (by omega)
    unfold FX12_caveOf_s2
    simp (disch := omega) only [zlet, obind, zI_lit, zI_neg, zI_add, zI_sub, zI_mul, zI_div, zI_le, zI_lt, zI_eq, zI_cl, irem, ile_t, ile_f, ilt_t, ilt_f, ieq_t, ieq_f, and_true, true_and, and_false, false_and, and_self, not_true_eq_false, not_false_eq_true, ↓reduceIte, Int.toNat_natCast, tqb_z, tqb_t, tqb_f, r_many RJ]
    exact ⟨_, rfl, hs2⟩) 0 I (by omega) (by omega) ⟨FC.rf, fun c hc => absurd hc (Nat.not_lt_zero c)⟩
  have MT1 : MT J1 w h (fun p => decide (p = pl w c)) := ⟨M1, fun p q => by simp only [decide_eq_true_eq] at q; rw [q]; exact pl_ar k hc⟩
  have hE : ∀ p, (decide (p = pl w c)) = true → p < 48 := fun p q => by
    simp only [decide_eq_true_eq] at q
    rw [q]
    exact pl_48 k hc
  obtain ⟨⟨n2, J2⟩, e2, F2, en, M2⟩ := it_m (f := fun p : Int32 × Int32 × tq_PI => FX12_caveOf_s36 p.2.2 L 136 p.1 p.2.1) (Inv := fun m a => ∃ (b : Bool) (J : tq_PI) (P : Nat → Bool) (n : Int32), a = (n, zB b, J) ∧ FC 141 I J ∧ MT J w h P ∧ CS (air w h K) (fun p => decide (p = pl w c)) P ∧ (b = false → n = zI (fb_ct P 64 : Nat) ∧ ∀ q p, P q = true → adj q p → air w h K p = true → P p = true) ∧ m = 2 * (64 - fb_ct P 64) + if b then 1 else 0) (Post := fun x => FC 141 I x.2 ∧ x.1 = zI (fb_ct (cmp w h K (pl w c)) 64 : Nat) ∧ MT x.2 w h (cmp w h K (pl w c))) (fun m a ha => by
    obtain ⟨b, J, P, n, rfl, F, M, C, h1, h2⟩ := ha
    unfold FX12_caveOf_s36
    simp only [zI_lit, zB_0]
    cases b
    · rw [if_pos rfl]
      have : P = cmp w h K (pl w c) := flo_eq hE (fun p q => air_48 k q) C.1 (h1 rfl).2 (fun Y hY1 hY2 => C.2 Y hY2 hY1)
      exact Or.inr ⟨_, rfl, F, by rw [← this]; exact (h1 rfl).1, by rw [← this]; exact M⟩
    · rw [if_neg (by simp)]
      obtain ⟨m2, J2, P2, n2, e2, F2, M2, C2, h3, h4⟩ := r_cave_c (R.fc F (by omega)) (G.fc F (by omega)) L M
      refine Or.inl ⟨(n2, zB m2, J2), _, (congrArg (fun o => Option.bind o _) e2).trans (obind _ _), ?_, m2, J2, P2, n2, rfl, F.tr F2, M2, C.tr C2, fun q => ?_, rfl⟩
      · rw [h2]
        cases m2
        · have := (h3 rfl).1
          rw [this]
          simp
        · have h5 := h4 rfl
          have h6 := fb_ct_le P2 64
          simp
          omega
      · obtain ⟨q1, q2, q3⟩ := h3 q
        rw [q1]
        exact ⟨q2, q3⟩) tq_N _ (zI ((0 : Nat) : Int), zB true, J1) (by rw [tq_N_eq]; have := fb_ct_le (fun p => decide (p = pl w c)) 64; simp; omega) ⟨true, J1, _, _, rfl, F1, MT1, CS.rf, fun q => (by cases q), rfl⟩
  dsimp only at F2 en M2
  refine ⟨J2, ?_, F2, M2⟩
  unfold FX12_caveOf
  refine (congrArg (fun o => Option.bind o _) e1).trans ((obind _ _).trans ?_)
  rw [en] at e2
  exact (congrArg (fun o => Option.bind o _) e2).trans (obind _ _)
def fst (P : Nat → Bool) (p : Nat) : Bool := decide (∀ q, q < p → P q = false)
theorem r_isFirst {I : tq_PI} {w h : Nat} {P : Nat → Bool} (k : wh w h) (M : MT I w h P) (L : tq_PL) {c : Nat} (hc : c < w * h) : FX12_isFirst I L 136 (zI (c : Int)) = some (fst P (pl w c)) := by
  have h48 := wh_le k
  obtain ⟨x, e, b, rfl, hb⟩ := it_for (f := fun p : Int32 × Int32 => FX12_isFirst_s4 I L 136 (zI (c : Int)) p.1 p.2) (fun i (x : Int32) => (x, zI (i : Int))) c (fun i x => ∃ b : Bool, x = zB b ∧ (b = true ↔ ∀ d, d < i → P (pl w d) = false)) (Post := fun x => ∃ b : Bool, x = zB b ∧ (b = true ↔ ∀ d, d < c → P (pl w d) = false)) (fun i x hi hx => by
    obtain ⟨b, rfl, hb⟩ := hx
    unfold FX12_isFirst_s4 FX12_isFirst_j26L4 FX12_isFirst_j27L4
    simp (disch := omega) only [zlet, obind, zI_lit, zI_neg, zI_add, zI_sub, zI_mul, zI_div, zI_le, zI_lt, zI_eq, zI_cl, irem, ile_t, ile_f, ilt_t, ilt_f, ieq_t, ieq_f, and_true, true_and, and_false, false_and, and_self, not_true_eq_false, not_false_eq_true, ↓reduceIte, Int.toNat_natCast, tqb_z, tqb_t, tqb_f, zB_0, g16, M.1 i (by omega)]
    cases b
    · rw [if_pos rfl]
      refine Or.inl ⟨zB false, rfl, false, rfl, ⟨fun q => (by cases q), fun q => ?_⟩⟩
      exact hb.2 fun d hd => q d (by omega)
    · rw [if_neg (by simp)]
      cases pi : P (pl w i)
      · rw [if_pos rfl]
        refine Or.inl ⟨zB true, rfl, true, rfl, ⟨fun _ d hd => ?_, fun _ => rfl⟩⟩
        by_cases di : d = i
        · rw [di]; exact pi
        · exact hb.1 rfl d (by omega)
      · rw [if_neg (by simp)]
        refine Or.inl ⟨zB false, rfl, false, rfl, ⟨fun q => (by cases q), fun q => ?_⟩⟩
        rw [q i (by omega)] at pi
        cases pi) (fun x hx => by
    unfold FX12_isFirst_s4
    simp (disch := omega) only [zlet, obind, zI_lit, zI_neg, zI_add, zI_sub, zI_mul, zI_div, zI_le, zI_lt, zI_eq, zI_cl, irem, ile_t, ile_f, ilt_t, ilt_f, ieq_t, ieq_f, and_true, true_and, and_false, false_and, and_self, not_true_eq_false, not_false_eq_true, ↓reduceIte, Int.toNat_natCast, tqb_z, tqb_t, tqb_f]
    exact ⟨_, rfl, hx⟩) 0 (zB true) (by omega) (by omega) ⟨true, rfl, ⟨fun _ d hd => absurd hd (Nat.not_lt_zero d), fun _ => rfl⟩⟩
  unfold FX12_isFirst
  refine (congrArg (fun o => Option.bind o _) e).trans ((obind _ _).trans ?_)
  have eb : b = fst P (pl w c) := by
    rw [Bool.eq_iff_iff, hb]
    unfold fst
    rw [decide_eq_true_eq]
    constructor
    · intro q p hp
      cases pp : P p
      · rfl
      · have ap := M.2 p pp
        have := q (cl w p) (by rw [← pl_lt_iff k, pl_cl k ap]; exact hp)
        rw [pl_cl k ap, pp] at this
        cases this
    · intro q d hd
      exact q _ (pl_lt k hd)
  rw [← eb]
  cases b
  · rfl
  · rfl
