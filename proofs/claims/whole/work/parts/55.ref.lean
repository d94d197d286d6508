/-! THE REFERENCE'S GROUND: kinds by cells; what stands, what falls. -/
theorem obind {α β : Type} (a : α) (f : α → Option β) : (some a).bind f = f a := rfl
theorem irem (a b : Int) : a - a / b * b = a % b := by rw [Int.emod_def, Int.mul_comm]
theorem up_s {α : Type} (f : Nat → Nat → α) (a k : Nat) (x : α) : tq_up2 f a k x a k = x := tq_up2_s
theorem up_n {α : Type} (f : Nat → Nat → α) {a k b j : Nat} (x : α) (h : b ≠ a ∨ j ≠ k) : tq_up2 f a k x b j = f b j := tq_up2_any h
theorem g15 : tq_rg 136 15 = 140 := by decide +kernel
theorem g16 : tq_rg 136 16 = 141 := by decide +kernel
theorem g0 : tq_rg 136 0 = 137 := by decide +kernel
/-- the reference's hill: its size -/
def RW (I : tq_PI) (w h : Nat) : Prop := I 136 13 = zI (w : Int) ∧ I 136 14 = zI (h : Int) ∧ wh w h
/-- the ground at a level -/
def GR (I : tq_PI) (w h l : Nat) (K : Nat → Nat) : Prop := (∀ c, c < w * h → I 140 (48 * l + c) = zI (K (pl w c) : Nat)) ∧ (∀ p, K p ≤ 4) ∧ ∀ p, ar w h p = false → K p = 0
def sol (K : Nat → Nat) (p : Nat) : Bool := decide (K p ≠ 0)
def sto (K : Nat → Nat) (p : Nat) : Bool := decide (1 ≤ K p ∧ K p ≤ 3)
theorem r_many {I : tq_PI} {w h : Nat} (R : RW I w h) (L : tq_PL) : FX12_many I L 136 = zI ((w * h : Nat) : Int) := by
  unfold FX12_many
  rw [R.1, R.2.1, zI_mul]
  rfl
theorem r_kind {I : tq_PI} {w h l : Nat} {K : Nat → Nat} (k : wh w h) (G : GR I w h l K) (hl : l ≤ 3) (L : tq_PL) {z : Int} (hz : 0 ≤ z ∧ z < ((w * h : Nat) : Int)) : FX12_kindOf I L 136 (zI (l : Int)) (zI z) = some (zI (K (pl w z.toNat) : Nat)) := by
  have h48 := wh_le k
  generalize hn : w * h = n at *
  unfold FX12_kindOf
  simp (disch := omega) only [zlet, obind, zI_lit, zI_neg, zI_add, zI_sub, zI_mul, zI_div, zI_le, zI_lt, zI_eq, zI_cl, irem, ile_t, ile_f, ilt_t, ilt_f, ieq_t, ieq_f, and_true, true_and, and_false, false_and, and_self, not_true_eq_false, not_false_eq_true, ↓reduceIte, Int.toNat_natCast, tqb_z, tqb_t, tqb_f, g15]
  rw [show ((48 : Int) * l + z).toNat = 48 * l + z.toNat by omega, G.1 z.toNat (by omega)]
theorem r_stands {I : tq_PI} {w h l : Nat} {K : Nat → Nat} (R : RW I w h) (G : GR I w h l K) (hl : l ≤ 3) (L : tq_PL) {c : Nat} (hc : c < w * h) : FX12_stands I L 136 (zI (l : Int)) (zI (c : Int)) = some (!sol K (pl w c) || std h (sol K) (pl w c)) := by
  obtain ⟨R1, R2, k⟩ := R
  have h48 := wh_le k
  have h2w := wh_2w k
  have kz : ∀ p, (zI ((K p : Nat) : Int) = zI 0) = (K p = 0) := fun p => by
    have := G.2.1 p
    rw [zI_eq (by omega) (by omega)]
    simp
  have hrow := pl_row k (c := c)
  have hm := pl_mod k c
  have hd := pl_div k c
  have hw := pl_w k c
  have hml : c % w < w := Nat.mod_lt _ (by have := k.1; omega)
  have hdm := Nat.div_add_mod c w
  have e1 : (w : Int) * ((h : Int) - 1) = ((w * h : Nat) : Int) - w := by rw [Int.mul_sub]; simp
  have e3 : ((c : Int) % (w : Int)) = ((c % w : Nat) : Int) := rfl
  obtain ⟨q1, q2, q3, q4⟩ := k
  have kk : wh w h := ⟨q1, q2, q3, q4⟩
  unfold FX12_stands FX12_stands_j38 FX12_stands_j90
  simp (disch := omega) only [r_kind kk G hl, obind, zI_lit, kz, Int.toNat_natCast]
  by_cases a : K (pl w c) = 0
  · simp [a, sol]
  · rw [if_neg a]
    simp (disch := omega) only [R1, R2, zI_sub, zI_mul, e1]
    have sa : sol K (pl w c) = true := by simp [sol, a]
    by_cases b : w * h - w ≤ c
    · have : pl w c / 8 + 1 = h := by
        have h1 := (pl_row kk (c := c)).1 hc
        have h2 : ¬ c + w < w * h := by omega
        have h3 := (pl_row kk (c := c + w))
        rw [Nat.add_div_right _ (by omega)] at h3
        omega
      simp (disch := omega) only [zlet, obind, zI_lit, zI_neg, zI_add, zI_sub, zI_mul, zI_div, zI_le, zI_lt, zI_eq, zI_cl, irem, ile_t, ile_f, ilt_t, ilt_f, ieq_t, ieq_f, and_true, true_and, and_false, false_and, and_self, not_true_eq_false, not_false_eq_true, ↓reduceIte, Int.toNat_natCast, tqb_z, tqb_t, tqb_f]
      simp [std, sa, this]
    · have hb : c + w < w * h := by omega
      have nb : ¬ pl w c / 8 + 1 = h := by
        have h3 := (pl_row kk (c := c + w)).1 hb
        rw [Nat.add_div_right _ (by omega)] at h3
        omega
      simp (disch := omega) only [zlet, obind, zI_lit, zI_neg, zI_add, zI_sub, zI_mul, zI_div, zI_le, zI_lt, zI_eq, zI_cl, irem, ile_t, ile_f, ilt_t, ilt_f, ieq_t, ieq_f, and_true, true_and, and_false, false_and, and_self, not_true_eq_false, not_false_eq_true, ↓reduceIte, Int.toNat_natCast, tqb_z, tqb_t, tqb_f, r_kind kk G hl, kz]
      rw [show ((c : Int) + w).toNat = c + w by omega, hw]
      by_cases d : K (pl w c + 8) = 0
      · rw [if_pos d]
        have sd : sol K (pl w c + 8) = false := by simp [sol, d]
        rw [e3]
        by_cases e : c % w = 0
        · rw [e]
          simp (disch := omega) only [zlet, obind, zI_lit, zI_neg, zI_add, zI_sub, zI_mul, zI_div, zI_le, zI_lt, zI_eq, zI_cl, irem, ile_t, ile_f, ilt_t, ilt_f, ieq_t, ieq_f, and_true, true_and, and_false, false_and, and_self, not_true_eq_false, not_false_eq_true, ↓reduceIte, Int.toNat_natCast, tqb_z, tqb_t, tqb_f]
          simp [std, sa, nb, sd, hm, e]
        · by_cases f : c % w + 1 = w
          · simp (disch := omega) only [zlet, obind, zI_lit, zI_neg, zI_add, zI_sub, zI_mul, zI_div, zI_le, zI_lt, zI_eq, zI_cl, irem, ile_t, ile_f, ilt_t, ilt_f, ieq_t, ieq_f, and_true, true_and, and_false, false_and, and_self, not_true_eq_false, not_false_eq_true, ↓reduceIte, Int.toNat_natCast, tqb_z, tqb_t, tqb_f]
            by_cases g : pl w c % 8 = 7
            · simp [std, sa, nb, sd, g]
            · have : sol K (pl w c + 1) = false := by
                cases q : ar w h (pl w c + 1)
                · simp [sol, G.2.2 _ q]
                · exact (by rw [ar_iff] at q; omega)
              simp [std, sa, nb, sd, this]
          · have p1 := (pl_p kk (c := c) (by omega)).1
            have p2 := pl_s kk (c := c) (by omega)
            simp (disch := omega) only [zlet, obind, zI_lit, zI_neg, zI_add, zI_sub, zI_mul, zI_div, zI_le, zI_lt, zI_eq, zI_cl, irem, ile_t, ile_f, ilt_t, ilt_f, ieq_t, ieq_f, and_true, true_and, and_false, false_and, and_self, not_true_eq_false, not_false_eq_true, ↓reduceIte, Int.toNat_natCast, tqb_z, tqb_t, tqb_f, r_kind kk G hl, kz]
            rw [show ((c : Int) - 1).toNat = c - 1 by omega, p1]
            have m7 : ¬ pl w c % 8 = 7 := by omega
            have m0 : ¬ pl w c % 8 = 0 := by omega
            by_cases g : K (pl w c - 1) = 0
            · rw [if_pos g]
              have sg : sol K (pl w c - 1) = false := by simp [sol, g]
              simp [std, sa, nb, sd, sg]
            · rw [if_neg g]
              have sg : sol K (pl w c - 1) = true := by simp [sol, g]
              rw [show ((c : Int) + 1).toNat = c + 1 by omega, p2]
              by_cases i : K (pl w c + 1) = 0
              · rw [if_pos i]
                have si : sol K (pl w c + 1) = false := by simp [sol, i]
                simp [std, sa, nb, sd, si]
              · rw [if_neg i]
                have si : sol K (pl w c + 1) = true := by simp [sol, i]
                simp [std, sa, si, sg, m7, m0]
      · rw [if_neg d]
        have sd : sol K (pl w c + 8) = true := by simp [sol, d]
        simp [std, sa, sd]

theorem r_first {I : tq_PI} {w h l : Nat} {K : Nat → Nat} (R : RW I w h) (G : GR I w h l K) (hl : l ≤ 3) (L : tq_PL) : (FX12_firstThatFalls I L 136 (zI (l : Int)) = some (zI (-1)) ∧ ∀ p, sol K p = true → std h (sol K) p = true) ∨ ∃ c : Nat, c < w * h ∧ FX12_firstThatFalls I L 136 (zI (l : Int)) = some (zI (c : Int)) ∧ sol K (pl w c) = true ∧ std h (sol K) (pl w c) = false := by
  have k := R.2.2
  have h48 := wh_le k
  obtain ⟨b, e, hb⟩ := it_for (f := fun p : Int32 => FX12_firstThatFalls_s2 I L 136 (zI (l : Int)) p) (fun i (_ : Unit) => zI (i : Int)) (w * h) (fun i _ => ∀ c, c < i → (!sol K (pl w c) || std h (sol K) (pl w c)) = true) (Post := fun b => (b = .inl () ∧ ∀ c, c < w * h → (!sol K (pl w c) || std h (sol K) (pl w c)) = true) ∨ ∃ c : Nat, c < w * h ∧ b = .inr (zI (c : Int)) ∧ (!sol K (pl w c) || std h (sol K) (pl w c)) = false) (fun i s hi hs => by
    unfold FX12_firstThatFalls_s2
    simp only [zlet, r_many R]
    rw [if_neg (by rw [zI_le (by omega) (by omega)]; omega), r_stands R G hl L hi, obind]
    cases q : (!sol K (pl w i) || std h (sol K) (pl w i))
    · rw [if_pos (show tq_b false = 0 from rfl)]
      exact Or.inr ⟨_, rfl, Or.inr ⟨i, hi, rfl, q⟩⟩
    · rw [if_neg (show ¬ tq_b true = 0 by decide)]
      refine Or.inl ⟨(), by simp only [zlet, obind, zI_lit, zI_neg, zI_add, zI_sub, zI_mul, zI_div, zI_le, zI_lt, zI_eq, zI_cl, irem, ile_t, ile_f, ilt_t, ilt_f, ieq_t, ieq_f, and_true, true_and, and_false, false_and, and_self, not_true_eq_false, not_false_eq_true, ↓reduceIte, Int.toNat_natCast, tqb_z, tqb_t, tqb_f]; rfl, fun c hc => ?_⟩
      by_cases e : c = i
      · rw [e]; exact q
      · exact hs c (by omega)) (fun s hs => by
    unfold FX12_firstThatFalls_s2
    simp only [zlet, r_many R]
    rw [if_pos (by rw [zI_le (by omega) (by omega)]; omega)]
    exact ⟨_, rfl, Or.inl ⟨rfl, hs⟩⟩) 0 () (Nat.zero_le _) (by omega) (fun c hc => absurd hc (Nat.not_lt_zero c))
  have e2 : FX12_firstThatFalls I L 136 (zI (l : Int)) = b.elim (fun t6 => some (-1 : Int32)) (fun t6 => some t6) := by
    unfold FX12_firstThatFalls
    exact (congrArg (fun o => Option.bind o _) e).trans (obind _ _)
  rw [e2]
  rcases hb with ⟨rfl, hb⟩ | ⟨c, hc, rfl, hb⟩
  · refine Or.inl ⟨rfl, fun p hp => ?_⟩
    have ha : ar w h p = true := by
      cases q : ar w h p
      · have := G.2.2 p q
        simp [sol, this] at hp
      · rfl
    have := hb (cl w p) (cl_lt k ha)
    rw [pl_cl k ha, hp] at this
    simpa using this
  · refine Or.inr ⟨c, hc, rfl, ?_⟩
    simp only [Bool.or_eq_false_iff, Bool.not_eq_false'] at hb
    exact hb
