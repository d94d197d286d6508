/-! FALL, by the reference. -/
/-- what a level's change leaves as it was -/
def FG (l : Nat) (I J : tq_PI) : Prop := ∀ a j, (a ≠ 140 ∨ j < 48 * l ∨ 48 * l + 48 ≤ j) → J a j = I a j
theorem FG.rf {l : Nat} {I : tq_PI} : FG l I I := fun _ _ _ => rfl
theorem FG.tr {l : Nat} {I J M : tq_PI} (h : FG l I J) (k : FG l J M) : FG l I M := fun a j q => (k a j q).trans (h a j q)
theorem RW.fg {I J : tq_PI} {w h l : Nat} (R : RW I w h) (F : FG l I J) : RW J w h := ⟨by rw [F _ _ (Or.inl (by omega))]; exact R.1, by rw [F _ _ (Or.inl (by omega))]; exact R.2.1, R.2.2⟩
theorem GR.fg {I J : tq_PI} {w h l m : Nat} {K : Nat → Nat} (k : wh w h) (G : GR I w h m K) (F : FG l I J) (ne : m ≠ l) : GR J w h m K := ⟨fun c hc => by
  have := wh_le k
  rw [F _ _ (Or.inr (by omega))]
  exact G.1 c hc, G.2⟩
theorem FG.up {I : tq_PI} {l j : Nat} {x : Int32} (h : 48 * l ≤ j ∧ j < 48 * l + 48) : FG l I (tq_up2 I 140 j x) := fun a i q => up_n _ _ (by
  rcases q with q | q
  · exact Or.inl q
  · exact Or.inr (by omega))
def kup (K : Nat → Nat) (p v : Nat) (q : Nat) : Nat := if q = p then v else K q
theorem GR.up {I : tq_PI} {w h l : Nat} {K : Nat → Nat} (k : wh w h) (G : GR I w h l K) {c v : Nat} (hc : c < w * h) (hv : v ≤ 4) : GR (tq_up2 I 140 (48 * l + c) (zI (v : Int))) w h l (kup K (pl w c) v) := by
  refine ⟨fun d hd => ?_, fun p => ?_, fun p hp => ?_⟩
  · unfold kup
    by_cases e : d = c
    · rw [e, up_s, if_pos rfl]
    · rw [up_n _ _ (Or.inr (by omega)), if_neg (fun q => e (pl_inj k q))]
      exact G.1 d hd
  · unfold kup
    split
    · exact hv
    · exact G.2.1 p
  · unfold kup
    by_cases e : p = pl w c
    · rw [e, pl_ar k hc] at hp
      cases hp
    · rw [if_neg e]; exact G.2.2 p hp
theorem sol_up0 (K : Nat → Nat) (p : Nat) : sol (kup K p 0) = fun q => if q = p then false else sol K q := funext fun q => by
  unfold sol kup
  by_cases e : q = p <;> simp [e]
theorem sol_ar {w h : Nat} {K : Nat → Nat} (z : ∀ p, ar w h p = false → K p = 0) {p : Nat} (q : sol K p = true) : ar w h p = true := by
  cases e : ar w h p
  · simp [sol, z p e] at q
  · rfl
theorem sol_48 {I : tq_PI} {w h l : Nat} {K : Nat → Nat} (k : wh w h) (G : GR I w h l K) {p : Nat} (q : sol K p = true) : p < 48 := ar_lt k.2.2.2 (sol_ar G.2.2 q)
/-- kinds behind FALL -/
def kst (h : Nat) (K : Nat → Nat) (p : Nat) : Nat := if stl h (sol K) p then K p else 0
theorem sol_kst (h : Nat) (K : Nat → Nat) : sol (kst h K) = stl h (sol K) := funext fun p => by
  unfold kst
  cases e : stl h (sol K) p
  · simp [sol, e]
  · have := stl_sub e
    simp [sol] at this
    simp [sol, e, this]
theorem r_falls {I : tq_PI} {w h l : Nat} {K : Nat → Nat} (R : RW I w h) (G : GR I w h l K) (hl : l ≤ 3) (L : tq_PL) : ∃ (n : Nat) (J : tq_PI), FX12_falls I L 136 (zI (l : Int)) = some (zI (n : Int), J) ∧ GR J w h l (kst h K) ∧ FG l I J ∧ n + fb_ct (stl h (sol K)) 64 = fb_ct (sol K) 64 := by
  have k := R.2.2
  have h48 := wh_le k
  have hS : ∀ p, sol K p = true → p < 48 := fun p q => sol_48 k G q
  have hf : ∀ (J : tq_PI) (M : Nat → Nat), RW J w h → GR J w h l M → ∃ c, FX12_firstThatFalls J L 136 (zI (l : Int)) = some c := fun J M RJ GJ => by
    rcases r_first RJ GJ hl L with ⟨e, _⟩ | ⟨c, _, e, _⟩
    · exact ⟨_, e⟩
    · exact ⟨_, e⟩
  obtain ⟨c0, hc0⟩ := hf I K R G
  obtain ⟨b, e, hb⟩ := it_m (f := fun p : Int32 × Int32 × tq_PI => FX12_falls_s8 p.2.2 L 136 (zI (l : Int)) p.1 p.2.1) (Inv := fun m a => ∃ (Kc : Nat → Nat) (j : Nat) (c : Int32) (J : tq_PI), a = (zI (j : Int), c, J) ∧ GR J w h l Kc ∧ FG l I J ∧ (∀ p, Kc p = K p ∨ Kc p = 0) ∧ (∀ p, stl h (sol K) p = true → sol Kc p = true) ∧ j + fb_ct (sol Kc) 64 = fb_ct (sol K) 64 ∧ FX12_firstThatFalls J L 136 (zI (l : Int)) = some c ∧ m = fb_ct (sol Kc) 64) (Post := fun b => ∃ (n : Nat) (J : tq_PI), b = (zI (n : Int), J) ∧ GR J w h l (kst h K) ∧ FG l I J ∧ n + fb_ct (stl h (sol K)) 64 = fb_ct (sol K) 64) (fun m a ha => by
    obtain ⟨Kc, j, c, J, rfl, GJ, FJ, h1, h2, h3, h4, h5⟩ := ha
    have RJ := R.fg FJ
    unfold FX12_falls_s8
    rcases r_first RJ GJ hl L with ⟨e, hst⟩ | ⟨d, hd, e, s1, s2⟩
    · rw [e] at h4
      cases h4
      rw [if_pos (by simp only [zlet, obind, zI_lit, zI_neg, zI_add, zI_sub, zI_mul, zI_div, zI_le, zI_lt, zI_eq, zI_cl, irem, ile_t, ile_f, ilt_t, ilt_f, ieq_t, ieq_f, and_true, true_and, and_false, false_and, and_self, not_true_eq_false, not_false_eq_true, ↓reduceIte, Int.toNat_natCast, tqb_z, tqb_t, tqb_f])]
      have es : sol Kc = stl h (sol K) := stl_eq hS (fun p q => by
        rcases h1 p with r | r
        · simpa [sol, r] using q
        · simp [sol, r] at q) hst h2
      have ek : Kc = kst h K := funext fun p => by
        unfold kst
        rw [← es]
        cases q : sol Kc p
        · simp [sol] at q
          simp [q]
        · rcases h1 p with r | r
          · simp [r]
          · simp [sol, r] at q
      exact Or.inr ⟨_, rfl, j, J, rfl, by rw [← ek]; exact GJ, FJ, by rw [← es]; exact h3⟩
    · rw [e] at h4
      cases h4
      have hG1 := GJ.up k hd (v := 0) (by omega)
      have hF1 : FG l J (tq_up2 J 140 (48 * l + d) (zI 0)) := FG.up (by omega)
      obtain ⟨c2, hc2⟩ := hf _ _ (RJ.fg hF1) hG1
      simp (disch := omega) only [zlet, obind, zI_lit, zI_neg, zI_add, zI_sub, zI_mul, zI_div, zI_le, zI_lt, zI_eq, zI_cl, irem, ile_t, ile_f, ilt_t, ilt_f, ieq_t, ieq_f, and_true, true_and, and_false, false_and, and_self, not_true_eq_false, not_false_eq_true, ↓reduceIte, Int.toNat_natCast, tqb_z, tqb_t, tqb_f, g15]
      rw [show ((48 : Int) * l + d).toNat = 48 * l + d by omega]
      rw [hc2]
      have hct := fb_ct_upd (sol Kc) false (i := pl w d) (n := 64) (by have := pl_48 k hd; omega)
      rw [s1, ← sol_up0] at hct
      simp only [if_true, Bool.false_eq_true, if_false, Nat.add_zero] at hct
      refine Or.inl ⟨_, fb_ct (sol (kup Kc (pl w d) 0)) 64, rfl, by omega, kup Kc (pl w d) 0, j + 1, c2, _, rfl, hG1, FJ.tr hF1, fun p => ?_, fun p hp => ?_, by omega, hc2, rfl⟩
      · unfold kup
        split
        · exact Or.inr rfl
        · exact h1 p
      · rw [sol_up0]
        by_cases q : p = pl w d
        · rw [q] at hp
          have h9 : std h (stl h (sol K)) (pl w d) = true := by rw [stl_fix hS]; exact hp
          rw [std_mono h2 h9] at s2
          cases s2
        · simp only [if_neg q]
          exact h2 p hp) tq_N (fb_ct (sol K) 64) (zI ((0 : Nat) : Int), c0, I) (by rw [tq_N_eq]; have := fb_ct_le (sol K) 64; omega) ⟨K, 0, c0, I, rfl, G, FG.rf, fun p => Or.inl rfl, fun p q => stl_sub q, by omega, hc0, rfl⟩
  obtain ⟨n, J, rfl, hJ⟩ := hb
  refine ⟨n, J, ?_, hJ⟩
  unfold FX12_falls
  rw [hc0, obind]
  exact (congrArg (fun o => Option.bind o _) e).trans (obind _ _)
/-- a level copied one up, a cell taken, FALL -/
theorem r_copy {I : tq_PI} {w h l : Nat} {K : Nat → Nat} (k : wh w h) (G : GR I w h l K) (hl : l ≤ 2) (L : tq_PL) (c : Int32) : ∃ J, tq_it (fun p : Int32 × tq_PI => FX12_taken_s2 p.2 L 136 (zI (l : Int)) c p.1) tq_N (zI ((0 : Nat) : Int), I) = some J ∧ GR J w h (l + 1) K ∧ FG (l + 1) I J := by
  have h48 := wh_le k
  obtain ⟨J, e, h1, h2⟩ := it_for (f := fun p : Int32 × tq_PI => FX12_taken_s2 p.2 L 136 (zI (l : Int)) c p.1) (fun i J => (zI (i : Int), J)) 48 (fun i J => FG (l + 1) I J ∧ ∀ d, d < i → J 140 (48 * (l + 1) + d) = I 140 (48 * l + d)) (Post := fun J => FG (l + 1) I J ∧ ∀ d, d < 48 → J 140 (48 * (l + 1) + d) = I 140 (48 * l + d)) (fun i J hi hs => by
    unfold FX12_taken_s2
    simp (disch := omega) only [zlet, obind, zI_lit, zI_neg, zI_add, zI_sub, zI_mul, zI_div, zI_le, zI_lt, zI_eq, zI_cl, irem, ile_t, ile_f, ilt_t, ilt_f, ieq_t, ieq_f, and_true, true_and, and_false, false_and, and_self, not_true_eq_false, not_false_eq_true, ↓reduceIte, Int.toNat_natCast, tqb_z, tqb_t, tqb_f, g15]
    rw [show ((48 : Int) * l + 48 + i).toNat = 48 * (l + 1) + i by omega, show ((48 : Int) * l + i).toNat = 48 * l + i by omega]
    refine Or.inl ⟨_, rfl, hs.1.tr (FG.up (by omega)), fun d hd => ?_⟩
    by_cases q : d = i
    · rw [q, up_s, hs.1 _ _ (Or.inr (by omega))]
    · rw [up_n _ _ (Or.inr (by omega))]
      exact hs.2 d (by omega)) (fun J hs => by
    unfold FX12_taken_s2
    simp (disch := omega) only [zlet, obind, zI_lit, zI_neg, zI_add, zI_sub, zI_mul, zI_div, zI_le, zI_lt, zI_eq, zI_cl, irem, ile_t, ile_f, ilt_t, ilt_f, ieq_t, ieq_f, and_true, true_and, and_false, false_and, and_self, not_true_eq_false, not_false_eq_true, ↓reduceIte, Int.toNat_natCast, tqb_z, tqb_t, tqb_f]
    exact ⟨_, rfl, hs⟩) 0 I (by omega) (by omega) ⟨FG.rf, fun d hd => absurd hd (Nat.not_lt_zero d)⟩
  exact ⟨J, e, ⟨fun d hd => by rw [h2 d (by omega)]; exact G.1 d hd, G.2⟩, h1⟩
theorem r_taken {I : tq_PI} {w h l : Nat} {K : Nat → Nat} (R : RW I w h) (G : GR I w h l K) (hl : l ≤ 2) (L : tq_PL) {c : Nat} (hc : c < w * h) : ∃ (n : Nat) (J : tq_PI), FX12_taken I L 136 (zI (l : Int)) (zI (c : Int)) = some (zI (n : Int), J) ∧ GR J w h (l + 1) (kst h (kup K (pl w c) 0)) ∧ FG (l + 1) I J ∧ n + fb_ct (stl h (sol (kup K (pl w c) 0))) 64 = fb_ct (sol (kup K (pl w c) 0)) 64 := by
  have k := R.2.2
  have h48 := wh_le k
  obtain ⟨J, e, GJ, FJ⟩ := r_copy k G hl L (zI (c : Int))
  have G1 := GJ.up k hc (v := 0) (by omega)
  have F1 : FG (l + 1) J (tq_up2 J 140 (48 * (l + 1) + c) (zI ((0 : Nat) : Int))) := FG.up (by omega)
  obtain ⟨n, M, e2, GM, FM, hn⟩ := r_falls ((R.fg FJ).fg F1) G1 (by omega) L
  refine ⟨n, M, ?_, GM, (FJ.tr F1).tr FM, hn⟩
  unfold FX12_taken
  refine (congrArg (fun o => Option.bind o _) e).trans ((obind _ _).trans ?_)
  simp (disch := omega) only [zlet, obind, zI_lit, zI_neg, zI_add, zI_sub, zI_mul, zI_div, zI_le, zI_lt, zI_eq, zI_cl, irem, ile_t, ile_f, ilt_t, ilt_f, ieq_t, ieq_f, and_true, true_and, and_false, false_and, and_self, not_true_eq_false, not_false_eq_true, ↓reduceIte, Int.toNat_natCast, tqb_z, tqb_t, tqb_f, g15]
  rw [show ((48 : Int) * l + 48 + c).toNat = 48 * (l + 1) + c by omega, show ((l : Int) + 1) = ((l + 1 : Nat) : Int) by omega]
  exact (congrArg (fun o => Option.bind o _) e2).trans (obind _ _)
