/-! RICH: a walk over rows of cuts, told once; the class's walk. -/
def fop {σ : Type} (f : σ → Nat → σ) (P : Nat → Bool) : Nat → σ → σ
  | 0, s => s
  | n + 1, s => if P n then f (fop f P n s) n else fop f P n s
theorem fop_s {σ : Type} (f : σ → Nat → σ) (P : Nat → Bool) (n : Nat) (s : σ) : fop f P (n + 1) s = if P n then f (fop f P n s) n else fop f P n s := rfl
theorem fop_gap {σ : Type} {f : σ → Nat → σ} {P : Nat → Bool} {a : Nat} {s : σ} : ∀ k, (∀ p, a ≤ p → p < a + k → P p = false) → fop f P (a + k) s = fop f P a s
  | 0, _ => rfl
  | k + 1, z => by
    rw [← Nat.add_assoc, fop_s, z (a + k) (by omega) (by omega)]
    simp only [Bool.false_eq_true, if_false]
    exact fop_gap k (fun p h1 h2 => z p h1 (by omega))
theorem fop_cell {σ : Type} {w h : Nat} (k : wh w h) (f : σ → Nat → σ) (P : Nat → Bool) (z : ∀ p, P p = true → ar w h p = true) (s : σ) : ∀ c, c ≤ w * h → fop (fun t i => f t (pl w i)) (fun i => P (pl w i)) c s = fop f P (pl w c) s := by
  intro c
  induction c with
  | zero => intro _; have : pl w 0 = 0 := by (unfold pl; rw [Nat.zero_div, Nat.zero_mod])
            rw [this]; rfl
  | succ c ih =>
    intro hc
    have e1 : fop f P (pl w c + 1) s = fop f P (pl w (c + 1)) s := by
      by_cases q : c % w + 1 < w
      · rw [pl_s k q]
      · have hl : c % w < w := Nat.mod_lt _ (by have := k.1; omega)
        have e := (pl_e k (c := c) (by omega)).1
        have e2 : pl w (c + 1) = pl w c + 1 + (8 * (c / w) + 8 - (pl w c + 1)) := by rw [e]; unfold pl; have := k.2.1; omega
        rw [e2]
        refine (fop_gap _ fun p h1 h2 => ?_).symm
        cases ha : P p
        · rfl
        · have h3 := ar_iff.1 (z p ha)
          unfold pl at h1 h2
          omega
    rw [← e1, fop_s, fop_s, ih (by omega)]
theorem fop_all {σ : Type} {w h : Nat} (k : wh w h) (f : σ → Nat → σ) (P : Nat → Bool) (z : ∀ p, P p = true → ar w h p = true) (s : σ) : fop (fun t i => f t (pl w i)) (fun i => P (pl w i)) (w * h) s = fop f P 48 s := by
  rw [fop_cell k f P z s _ (Nat.le_refl _)]
  have e : pl w (w * h) = 8 * h := by
    unfold pl
    rw [Nat.mul_div_cancel_left _ (by have := k.1; omega), Nat.mul_mod_right]
    omega
  have h6 := k.2.2.2
  rw [e, show 48 = 8 * h + (48 - 8 * h) by omega]
  refine (fop_gap _ fun p h1 h2 => ?_).symm
  cases ha : P p
  · rfl
  · have h3 := ar_iff.1 (z p ha)
    omega
abbrev Rec : Type := Nat × Nat × (Nat → Nat)
def cmr (r x : Rec) : Rec := if r.1 < x.1 then x else r
def dfs (w h s : Nat) : Nat → Nat → (Nat → Nat) → Nat → (Nat → Nat) → Rec → Rec
  | 0, _, _, _, _, r => r
  | t + 1, d, M, W, ρ, r => fop (fun r p => dfs w h s t (d + 1) (kup M p 0) (W + wor (M p)) (kup ρ d p) (cmr r (W + wor (M p), d + 1, kup ρ d p))) (saf w h M s) 48 r
theorem dfs_s (w h s t d : Nat) (M : Nat → Nat) (W : Nat) (ρ : Nat → Nat) (r : Rec) : dfs w h s (t + 1) d M W ρ r = fop (fun r p => dfs w h s t (d + 1) (kup M p 0) (W + wor (M p)) (kup ρ d p) (cmr r (W + wor (M p), d + 1, kup ρ d p))) (saf w h M s) 48 r := rfl
theorem cmr_2 {r x y : Rec} (h : x.1 < y.1) : cmr (cmr r x) y = cmr r y := by
  unfold cmr
  by_cases q : r.1 < x.1
  · rw [if_pos q, if_pos h, if_pos (by omega)]
  · rw [if_neg q]
theorem cmr_1 {r x y : Rec} (h : y.1 ≤ x.1) : cmr (cmr r x) y = cmr r x := by
  unfold cmr
  by_cases q : r.1 < x.1
  · rw [if_pos q, if_neg (by omega)]
  · rw [if_neg q, if_neg (by omega)]
/-- the last cut: only the first of the dearest counts -/
theorem fop_best {g : Nat → Nat} {P : Nat → Bool} (x : Nat → Rec) (W : Nat) (hx : ∀ p, (x p).1 = W + g p) (r : Rec) : ∀ n, ((∀ q, q < n → P q = false) ∧ fop (fun r p => cmr r (x p)) P n r = r) ∨ ∃ p, BI g P n p ∧ fop (fun r p => cmr r (x p)) P n r = cmr r (x p)
  | 0 => Or.inl ⟨fun q h => absurd h (Nat.not_lt_zero q), rfl⟩
  | n + 1 => by
    rw [fop_s]
    cases e : P n
    · simp only [Bool.false_eq_true, if_false]
      rcases fop_best x W hx r n with ⟨h1, h2⟩ | ⟨p, ⟨h1, h2, h3, h4⟩, h5⟩
      · refine Or.inl ⟨fun q hq => ?_, h2⟩
        by_cases g : q = n
        · rw [g]; exact e
        · exact h1 q (by omega)
      · refine Or.inr ⟨p, ⟨by omega, h2, fun q hq pq => ?_, h4⟩, h5⟩
        by_cases g : q = n
        · rw [g, e] at pq; cases pq
        · exact h3 q (by omega) pq
    · simp only [if_true]
      rcases fop_best x W hx r n with ⟨h1, h2⟩ | ⟨p, ⟨h1, h2, h3, h4⟩, h5⟩
      · refine Or.inr ⟨n, ⟨by omega, e, fun q hq pq => ?_, fun q hq pq => ?_⟩, by rw [h2]⟩
        · by_cases g : q = n
          · rw [g]; exact Nat.le_refl _
          · rw [h1 q (by omega)] at pq; cases pq
        · rw [h1 q (by omega)] at pq; cases pq
      · rw [h5]
        by_cases c : g p < g n
        · refine Or.inr ⟨n, ⟨by omega, e, fun q hq pq => ?_, fun q hq pq => ?_⟩, cmr_2 (by rw [hx, hx]; omega)⟩
          · by_cases g' : q = n
            · rw [g']; exact Nat.le_refl _
            · have := h3 q (by omega) pq; omega
          · have := h3 q (by omega) pq; omega
        · refine Or.inr ⟨p, ⟨by omega, h2, fun q hq pq => ?_, h4⟩, cmr_1 (by rw [hx, hx]; omega)⟩
          by_cases g' : q = n
          · rw [g']; omega
          · exact h3 q (by omega) pq
theorem HC.re {I J : tq_PI} {L M : tq_PL} {a w h : Nat} {K : Nat → Nat} (H : HC I L a w h K) (e1 : J a = I a) (e2 : M a = L a) : HC J M a w h K := by
  unfold HC
  rw [e1, e2]
  exact H
theorem rg_45_0 : tq_rg 45 0 = 46 := by decide +kernel
theorem rg_45_1 : tq_rg 45 1 = 47 := by decide +kernel
def FI (I J : tq_PI) : Prop := ∀ a, a ≠ 45 → a ≠ 47 → J a = I a
theorem FI.rf {I : tq_PI} : FI I I := fun _ _ _ => rfl
theorem FI.tr {I J M : tq_PI} (h : FI I J) (k : FI J M) : FI I M := fun a q r => (k a q r).trans (h a q r)
theorem FI.up {I : tq_PI} {j : Nat} {x : Int32} : FI I (tq_up2 I 45 j x) := fun _ q _ => tq_up2_ne q
theorem FI.up7 {I : tq_PI} {j : Nat} {x : Int32} : FI I (tq_up2 I 47 j x) := fun _ _ q => tq_up2_ne q
theorem FI.fp {I J : tq_PI} (F : FI I J) : FP I J := fun a p => F a (by unfold psl at p; omega) (by unfold psl at p; omega)
def CR (w : Nat) (I : tq_PI) (r : Rec) : Prop := I 45 2 = zI (r.1 : Nat) ∧ I 45 3 = zI (r.2.1 : Nat) ∧ r.1 ≤ 1000 ∧ r.2.1 ≤ 3 ∧ ∀ k, k < r.2.1 → I 47 k = zI (cl w (r.2.2 k) : Nat)
def CW (L : tq_PL) (ρ : Nat → Nat) (d : Nat) : Prop := ∀ k, k < d → ρ k < 48 ∧ bb (L 46 k) = fun q => decide (q = ρ k)
section RC
variable {I : tq_PI} {L : tq_PL} {a w h : Nat} {K : Nat → Nat}
theorem c_compare (H : HC I L a w h K) (ha : a ≠ 45 ∧ a ≠ 47) {y : Int64} {W d : Nat} {ρ : Nat → Nat} {r : Rec} (hy : ws wor K (bb y) = W) (hd : d ≤ 3) (hW : W ≤ 1000) (C : CR w I r) (D : CW L ρ d) : ∃ I2, FX5_compare I L 45 a y (zI (d : Int)) = some I2 ∧ FI I I2 ∧ CR w I2 (cmr r (W, d, ρ)) := by
  obtain ⟨c1, c2, c3, c4, c5⟩ := C
  unfold FX5_compare
  rw [zlet, c_worth H, hy, c1]
  unfold cmr
  by_cases g : r.1 < W
  · rw [if_pos (by rw [zI_lt (by omega) (by omega)]; omega), if_pos g, zlet]
    have F1 : FI I (tq_up2 (tq_up2 I 45 2 (zI (W : Int))) 45 3 (zI (d : Int))) := FI.up.tr FI.up
    obtain ⟨I2, e, F2, h2⟩ := it_for (f := fun p : Int32 × tq_PI => FX5_compare_s31 p.2 L 45 a (zI (d : Int)) p.1) (fun i (J : tq_PI) => (zI (i : Int), J)) d (fun i J => FC 47 (tq_up2 (tq_up2 I 45 2 (zI (W : Int))) 45 3 (zI (d : Int))) J ∧ ∀ k, k < i → J 47 k = zI (cl w (ρ k) : Nat)) (Post := fun J => FC 47 (tq_up2 (tq_up2 I 45 2 (zI (W : Int))) 45 3 (zI (d : Int))) J ∧ ∀ k, k < d → J 47 k = zI (cl w (ρ k) : Nat)) (fun i J hi hJ => by
      obtain ⟨F, hJ⟩ := hJ
      have H2 : J a 0 = zI (w : Int) := by rw [F a ha.2, F1 a ha.1 ha.2]; exact H.1
      obtain ⟨d1, d2⟩ := D i hi
      have en := c_num (L := L) (a := a) (w := w) H2 H.k.2.1 (by omega) d2
      unfold FX5_compare_s31
      simp (disch := omega) only [zlet, obind, zI_lit, zI_neg, zI_add, zI_sub, zI_mul, zI_div, zI_le, zI_lt, zI_eq, zI_cl, irem, ile_t, ile_f, ilt_t, ilt_f, ieq_t, ieq_f, and_true, true_and, and_false, false_and, and_self, not_true_eq_false, not_false_eq_true, ↓reduceIte, Int.toNat_natCast, tqb_z, tqb_t, tqb_f, rg_45_0, rg_45_1, en]
      refine Or.inl ⟨tq_up2 J 47 i (zI (cl w (ρ i) : Nat)), rfl, F.tr FC.up, fun k hk => ?_⟩
      by_cases q : k = i
      · rw [q, up_s]
      · rw [up_n _ _ (Or.inr q)]; exact hJ k (by omega)) (fun J hJ => by
      unfold FX5_compare_s31
      simp (disch := omega) only [zlet, obind, zI_lit, zI_neg, zI_add, zI_sub, zI_mul, zI_div, zI_le, zI_lt, zI_eq, zI_cl, irem, ile_t, ile_f, ilt_t, ilt_f, ieq_t, ieq_f, and_true, true_and, and_false, false_and, and_self, not_true_eq_false, not_false_eq_true, ↓reduceIte, Int.toNat_natCast, tqb_z, tqb_t, tqb_f]
      exact ⟨_, rfl, hJ⟩) 0 _ (by omega) (by omega) ⟨FC.rf, fun k hk => absurd hk (Nat.not_lt_zero k)⟩
    refine ⟨I2, ?_, fun b q1 q2 => by rw [F2 b q2, F1 b q1 q2], ?_, ?_, hW, hd, h2⟩
    · refine (congrArg (fun o => Option.bind o _) e).trans (obind _ _)
    · rw [F2 45 (by omega), up_n _ _ (by omega), up_s]
    · rw [F2 45 (by omega), up_s]
  · rw [if_neg (by rw [zI_lt (by omega) (by omega)]; omega), if_neg g]
    exact ⟨I, rfl, FI.rf, c1, c2, c3, c4, c5⟩
theorem fop_one {σ : Type} (f : σ → Nat → σ) (p : Nat) (s : σ) : ∀ n, fop f (fun q => decide (q = p)) n s = if p < n then f s p else s
  | 0 => by simp [fop]
  | n + 1 => by
    rw [fop_s, fop_one f p s n]
    by_cases e : n = p
    · simp [e]
    · simp only [e, decide_false, Bool.false_eq_true, if_false]
      by_cases g : p < n
      · rw [if_pos g, if_pos (by omega)]
      · rw [if_neg g, if_neg (by omega)]
theorem fop_none {σ : Type} (f : σ → Nat → σ) (s : σ) : ∀ n, fop f (fun _ => false) n s = s
  | 0 => rfl
  | n + 1 => by rw [fop_s, fop_none f s n]; simp
theorem tot_le (M : Nat → Nat) : tot M ≤ 256 := by
  unfold tot
  have := fb_sm_le (f := fun p => wor (M p)) (g := fun _ => 4) (n := 64) (fun p _ => wor_le _)
  rw [fb_sm_const] at this
  omega
def dbo (w h s t d : Nat) (M : Nat → Nat) (W : Nat) (ρ : Nat → Nat) (r : Rec) (p : Nat) : Rec := dfs w h s t (d + 1) (kup M p 0) (W + wor (M p)) (kup ρ d p) (cmr r (W + wor (M p), d + 1, kup ρ d p))
def DP (a w h s n : Nat) (K : Nat → Nat) (t f : Nat) : Prop := ∀ (I : tq_PI) (L : tq_PL) (d : Nat) (M : Nat → Nat) (W : Nat) (ρ : Nat → Nat) (r : Rec) (x : Int64), d + t = n → HC I L a w h K → lss w h K M → W + tot M = tot K → bb x = sol M → CR w I r → CW L ρ d → ∃ I2 L2, FX5_deepen f I L 45 a (zI (s : Int)) x (zI (d : Int)) (zI (n : Int)) = some (I2, L2) ∧ FI I I2 ∧ FL 46 L L2 ∧ (∀ k, k < d → L2 46 k = L 46 k) ∧ CR w I2 (dfs w h s t d M W ρ (cmr r (W, d, ρ)))
theorem c_deep_loop {s n t f d W : Nat} {M ρ : Nat → Nat} {r : Rec} {x y : Int64} {P : Nat → Bool} (ha : a ≠ 45 ∧ a ≠ 47 ∧ a ≠ 46) (hn : n ≤ 3) (ih : DP a w h s n K t f) (hd : d + 1 + t = n) (H : HC I L a w h K) (ls : lss w h K M) (hW : W + tot M = tot K) (hx : bb x = sol M) (hy : bb y = P) (hP : ∀ p, P p = true → saf w h M s p = true) (C : CR w I r) (D : CW L ρ d) : ∃ I2 L2, FX5_deepen_j65 (FX5_deepen f) I L 45 a (zI (s : Int)) x (zI (d : Int)) (zI (n : Int)) y = some (I2, L2) ∧ FI I I2 ∧ FL 46 L L2 ∧ (∀ k, k < d → L2 46 k = L 46 k) ∧ CR w I2 (fop (dbo w h s t d M W ρ) P 48 r) := by
  obtain ⟨⟨I2, L2⟩, e, ho⟩ := it_for (f := fun p : Int32 × tq_PI × tq_PL => FX5_deepen_s68 (FX5_deepen f) p.2.1 p.2.2 45 a (zI (s : Int)) x (zI (d : Int)) (zI (n : Int)) y p.1) (fun i (s : tq_PI × tq_PL) => (zI (i : Int), s.1, s.2)) 48 (fun i s' => FI I s'.1 ∧ FL 46 L s'.2 ∧ (∀ k, k < d → s'.2 46 k = L 46 k) ∧ CR w s'.1 (fop (dbo w h s t d M W ρ) P i r)) (Post := fun s' => FI I s'.1 ∧ FL 46 L s'.2 ∧ (∀ k, k < d → s'.2 46 k = L 46 k) ∧ CR w s'.1 (fop (dbo w h s t d M W ρ) P 48 r)) (fun i s' hi hs => by
    obtain ⟨I1, L1⟩ := s'
    obtain ⟨F1, F2, F3, C1⟩ := hs
    dsimp only at F1 F2 F3 C1 ⊢
    have hb : bb ((1 : Int64) <<< (Int32.toInt64 (zI (i : Int)) &&& 63)) = fun q => decide (q = i) := funext fun q => by rw [bb_one (by omega)]; simp
    unfold FX5_deepen_s68 FX5_deepen_j120L68
    simp (disch := omega) only [zlet, obind, zI_lit, zI_neg, zI_add, zI_sub, zI_mul, zI_div, zI_le, zI_lt, zI_eq, zI_cl, irem, ile_t, ile_f, ilt_t, ilt_f, ieq_t, ieq_f, and_true, true_and, and_false, false_and, and_self, not_true_eq_false, not_false_eq_true, ↓reduceIte, Int.toNat_natCast, tqb_z, tqb_t, tqb_f, lgz, bb_hit hb, hy, rg_45_0]
    rw [fop_s]
    cases ep : P i
    · rw [if_pos rfl]
      exact Or.inl ⟨(I1, L1), rfl, F1, F2, F3, by simpa using C1⟩
    · rw [if_neg (by simp)]
      have hyb := bb_and_one (x := y) hb (by rw [hy]; exact ep)
      have sp := hP i ep
      obtain ⟨l1, l2, l3, l4⟩ := lss_up H.k ls H.z sp
      have H1 : HC I1 (tq_up2 L1 46 d (y &&& ((1 : Int64) <<< (Int32.toInt64 (zI (i : Int)) &&& 63)))) a w h K := H.re (F1 a ha.1 ha.2.1) (by rw [tq_up2_ne ha.2.2, F2 a ha.2.2])
      have tu := tot_up M (p := i) (by omega)
      obtain ⟨I3, L3, e3, G1, G2, G3, C3⟩ := ih I1 (tq_up2 L1 46 d (y &&& ((1 : Int64) <<< (Int32.toInt64 (zI (i : Int)) &&& 63)))) (d + 1) (kup M i 0) (W + wor (M i)) (kup ρ d i) (fop (dbo w h s t d M W ρ) P i r) _ hd H1 l1 (by omega) (bb_wo hx hyb) C1 (fun k hk => by
        unfold kup
        by_cases q : k = d
        · rw [if_pos q, q, up_s]
          exact ⟨l4, hyb⟩
        · rw [if_neg q, up_n _ _ (Or.inr q), F3 k (by omega)]
          exact D k (by omega))
      rw [show zI ((d : Int) + 1) = zI ((d + 1 : Nat) : Int) from rfl, e3, obind]
      refine Or.inl ⟨(I3, L3), rfl, F1.tr G1, (F2.tr FL.up).tr G2, fun k hk => ?_, C3⟩
      dsimp only
      rw [G3 k (by omega), up_n _ _ (Or.inr (by omega)), F3 k hk]) (fun s' hs => by
    unfold FX5_deepen_s68
    simp (disch := omega) only [zlet, obind, zI_lit, zI_neg, zI_add, zI_sub, zI_mul, zI_div, zI_le, zI_lt, zI_eq, zI_cl, irem, ile_t, ile_f, ilt_t, ilt_f, ieq_t, ieq_f, and_true, true_and, and_false, false_and, and_self, not_true_eq_false, not_false_eq_true, ↓reduceIte, Int.toNat_natCast, tqb_z, tqb_t, tqb_f]
    exact ⟨_, rfl, hs⟩) 0 (I, L) (by omega) (by omega) ⟨FI.rf, FL.rf, fun _ _ => rfl, C⟩
  refine ⟨I2, L2, ?_, ho⟩
  unfold FX5_deepen_j65
  exact (congrArg (fun o => Option.bind o _) e).trans (obind _ _)
theorem c_deepen {s n : Nat} (hs : s < 2) (hn : n ≤ 3) (ha : a ≠ 45 ∧ a ≠ 47 ∧ a ≠ 46) : ∀ t f, t < f → DP a w h s n K t f := by
  intro t
  induction t with
  | zero =>
    intro f hf I L d M W ρ r x hd H ls hW hx C D
    obtain ⟨f, rfl⟩ : ∃ g, f = g + 1 := ⟨f - 1, by omega⟩
    have hy : ws wor K (bb (FX3_solid I L a &&& (x ^^^ (-1)))) = W := by
      have e1 : bb (FX3_solid I L a &&& (x ^^^ (-1))) = fun p => sol K p && !sol M p := funext fun p => by rw [bb_minus, c_sol H, hx]
      have := lss_wor ls
      rw [e1]
      omega
    have := tot_le K
    obtain ⟨I1, e1, F1, C1⟩ := c_compare H ⟨ha.1, ha.2.1⟩ hy (by omega) (by omega) C D
    refine ⟨I1, L, ?_, F1, FL.rf, fun _ _ => rfl, C1⟩
    show FX5_deepenb (FX5_deepen f) I L 45 a (zI (s : Int)) x (zI (d : Int)) (zI (n : Int)) = _
    unfold FX5_deepenb
    rw [zlet, e1, obind]
    simp (disch := omega) only [zlet, obind, zI_lit, zI_neg, zI_add, zI_sub, zI_mul, zI_div, zI_le, zI_lt, zI_eq, zI_cl, irem, ile_t, ile_f, ilt_t, ilt_f, ieq_t, ieq_f, and_true, true_and, and_false, false_and, and_self, not_true_eq_false, not_false_eq_true, ↓reduceIte, Int.toNat_natCast, tqb_z, tqb_t, tqb_f]
  | succ t ih =>
    intro f hf I L d M W ρ r x hd H ls hW hx C D
    obtain ⟨f, rfl⟩ : ∃ g, f = g + 1 := ⟨f - 1, by omega⟩
    have hy : ws wor K (bb (FX3_solid I L a &&& (x ^^^ (-1)))) = W := by
      have e1 : bb (FX3_solid I L a &&& (x ^^^ (-1))) = fun p => sol K p && !sol M p := funext fun p => by rw [bb_minus, c_sol H, hx]
      have := lss_wor ls
      rw [e1]
      omega
    have := tot_le K
    obtain ⟨I1, e1, F1, C1⟩ := c_compare H ⟨ha.1, ha.2.1⟩ hy (by omega) (by omega) C D
    have H1 : HC I1 L a w h K := H.re (F1 a ha.1 ha.2.1) rfl
    obtain ⟨y, e2, hy2⟩ := c_safe H1 hs hx (lss_sb ls) (lss_z ls H.z) ls.2
    have eb : FX5_deepen (f + 1) I L 45 a (zI (s : Int)) x (zI (d : Int)) (zI (n : Int)) = (if (zI (d : Int) + (1 : Int32)) = zI (n : Int) then (tq_let (FX3_dearest I1 L a y) fun p13 => (FX5_deepen_j65 (FX5_deepen f) I1 L 45 a (zI (s : Int)) x (zI (d : Int)) (zI (n : Int)) p13)) else (FX5_deepen_j65 (FX5_deepen f) I1 L 45 a (zI (s : Int)) x (zI (d : Int)) (zI (n : Int)) y)) := by
      show FX5_deepenb (FX5_deepen f) I L 45 a (zI (s : Int)) x (zI (d : Int)) (zI (n : Int)) = _
      unfold FX5_deepenb
      rw [zlet, e1, obind, if_neg (by rw [zI_lit, zI_lt (by omega) (by omega)]; omega), if_neg (by rw [zI_le (by omega) (by omega)]; omega), if_pos (by rw [zI_lit, zI_lt (by omega) (by omega)]; omega), e2, obind]
    rw [eb, dfs_s]
    have ed : zI (d : Int) + (1 : Int32) = zI ((d + 1 : Nat) : Int) := by rw [zI_lit, zI_add]; rfl
    by_cases q : d + 1 = n
    · have t0 : t = 0 := by omega
      subst t0
      rw [if_pos (by rw [ed, q]), zlet]
      have hsto : ∀ p, saf w h M s p = true → M p = K p := fun p hp => lss_eq ls (saf_sto hp)
      have key := fop_best (g := fun p => wor (M p)) (P := saf w h M s) (fun p => ((W + wor (M p), d + 1, kup ρ d p) : Rec)) W (fun p => rfl) (cmr r (W, d, ρ)) 48
      have h48 : ∀ p, saf w h M s p = true → p < 48 := fun p hp => (lss_up H.k ls H.z hp).2.2.2
      rcases c_dear H1 hy2 (fun p hp => by have e3 := saf_sto hp; unfold sto at e3 ⊢; rw [← hsto p hp]; exact e3) with ⟨d1, d2⟩ | ⟨p, p1, p2, p3⟩
      · rw [d1]
        obtain ⟨I2, L2, e3, G1, G2, G3, G4⟩ := c_deep_loop (P := fun _ => false) ha hn (ih f (by omega)) (by omega) H1 ls hW hx (by funext p; rw [bb_0]) (fun p hp => by cases hp) C1 D
        refine ⟨I2, L2, e3, F1.tr G1, G2, G3, ?_⟩
        rw [fop_none] at G4
        rcases key with ⟨_, k2⟩ | ⟨p, ⟨_, k1, _⟩, _⟩
        · have : fop (fun r p => dfs w h s 0 (d + 1) (kup M p 0) (W + wor (M p)) (kup ρ d p) (cmr r (W + wor (M p), d + 1, kup ρ d p))) (saf w h M s) 48 (cmr r (W, d, ρ)) = cmr r (W, d, ρ) := k2
          rw [this]; exact G4
        · rw [d2 p] at k1; cases k1
      · obtain ⟨I2, L2, e3, G1, G2, G3, G4⟩ := c_deep_loop (P := fun q => decide (q = p)) ha hn (ih f (by omega)) (by omega) H1 ls hW hx p2 (fun q hq => by simp only [decide_eq_true_eq] at hq; rw [hq]; exact p3.1) C1 D
        refine ⟨I2, L2, e3, F1.tr G1, G2, G3, ?_⟩
        rw [fop_one, if_pos p1] at G4
        rcases key with ⟨k1, _⟩ | ⟨p', ⟨k1, k2, k3, k4⟩, k5⟩
        · have p4 := p3.1
          rw [k1 p p1] at p4; cases p4
        · have pp : p = p' := by
            have b1 : BS (fun q => wor (M q)) (saf w h M s) p := ⟨p3.1, fun q hq => by have := p3.2.1 q hq; dsimp only at this ⊢; rw [hsto q hq, hsto p p3.1]; exact this, fun q hq hq2 => by have := p3.2.2 q hq hq2; dsimp only at this ⊢; rw [hsto q hq2, hsto p p3.1]; exact this⟩
            exact BS_one b1 ⟨k2, fun q hq => k3 q (h48 q hq) hq, k4⟩
          subst pp
          have : fop (fun r p => dfs w h s 0 (d + 1) (kup M p 0) (W + wor (M p)) (kup ρ d p) (cmr r (W + wor (M p), d + 1, kup ρ d p))) (saf w h M s) 48 (cmr r (W, d, ρ)) = cmr (cmr r (W, d, ρ)) (W + wor (M p), d + 1, kup ρ d p) := k5
          rw [this]; exact G4
    · rw [if_neg (by rw [ed, zI_eq (by omega) (by omega)]; omega)]
      obtain ⟨I2, L2, e3, G1, G2, G3, G4⟩ := c_deep_loop ha hn (ih f (by omega)) (by omega) H1 ls hW hx hy2 (fun p hp => hp) C1 D
      exact ⟨I2, L2, e3, F1.tr G1, G2, G3, G4⟩
theorem c_richest {s n : Nat} (H : HC I L a w h K) (S : Stn h K) (hs : s < 2) (hn : n ≤ 3) (ha : a ≠ 45 ∧ a ≠ 47 ∧ a ≠ 46) : ∃ I2 L2, FX5_richest I L 45 a (zI (s : Int)) (zI (n : Int)) = some (I2, L2) ∧ FI I I2 ∧ FL 46 L L2 ∧ CR w I2 (dfs w h s n 0 K 0 (fun _ => 0) (0, 0, fun _ => 0)) := by
  have F0 : FI I (tq_up2 (tq_up2 I 45 2 (0 : Int32)) 45 3 (0 : Int32)) := FI.up.tr FI.up
  have H0 : HC (tq_up2 (tq_up2 I 45 2 (0 : Int32)) 45 3 (0 : Int32)) L a w h K := H.re (F0 a ha.1 ha.2.1) rfl
  obtain ⟨I2, L2, e, G1, G2, G3, G4⟩ := c_deepen (K := K) (w := w) (h := h) hs hn ha n tq_n20 (by rw [tq_n20_eq]; omega) (tq_up2 (tq_up2 I 45 2 (0 : Int32)) 45 3 (0 : Int32)) L 0 K 0 (fun _ => 0) (0, 0, fun _ => 0) (FX3_solid (tq_up2 (tq_up2 I 45 2 (0 : Int32)) 45 3 (0 : Int32)) L a) (by omega) H0 ⟨fun p => Or.inl rfl, S⟩ (by omega) (c_sol H0) ⟨by rw [up_n _ _ (by omega), up_s]; rfl, by rw [up_s]; rfl, Nat.zero_le _, Nat.zero_le _, fun k hk => absurd hk (Nat.not_lt_zero k)⟩ (fun k hk => absurd hk (Nat.not_lt_zero k))
  refine ⟨I2, L2, ?_, F0.tr G1, G2, ?_⟩
  · unfold FX5_richest
    rw [zlet, if_neg (by rw [zI_lit, zI_lt (by omega) (by omega)]; omega)]
    have e' : FX5_deepen tq_n20 (tq_up2 (tq_up2 I 45 2 (0 : Int32)) 45 3 (0 : Int32)) L 45 a (zI (s : Int)) (FX3_solid (tq_up2 (tq_up2 I 45 2 (0 : Int32)) 45 3 (0 : Int32)) L a) (0 : Int32) (zI (n : Int)) = some (I2, L2) := e
    rw [e', obind]
  · exact G4
end RC
