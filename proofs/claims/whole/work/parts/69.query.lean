/-! QUERIES: runs in a row: streak, SPAN. -/
def rl (P : Nat → Bool) : Nat → Nat
  | 0 => if P 0 then 1 else 0
  | p + 1 => if P (p + 1) then (if (p + 1) % 8 = 0 then 1 else rl P p + 1) else 0
theorem rl_eq (P : Nat → Bool) (p : Nat) : rl P p = if P p then (if p % 8 = 0 then 1 else rl P (p - 1) + 1) else 0 := by
  cases p with
  | zero => simp [rl]
  | succ p => rfl
theorem rl_le (P : Nat → Bool) : ∀ p, rl P p ≤ p % 8 + 1
  | 0 => by rw [rl_eq]; split <;> simp
  | p + 1 => by
    have := rl_le P p
    rw [rl_eq]
    split
    · split
      · omega
      · rw [show p + 1 - 1 = p by omega]; omega
    · omega
theorem rl_no {P : Nat → Bool} {p : Nat} (h : P p = false) : rl P p = 0 := by rw [rl_eq, h]; simp
def IsM (f : Nat → Nat) (m : Nat) : Prop := (∀ p, f p ≤ m) ∧ (m = 0 ∨ ∃ p, f p = m)
theorem IsM_one {f : Nat → Nat} {m n : Nat} (a : IsM f m) (b : IsM f n) : m = n := by
  rcases a.2 with q | ⟨p, q⟩
  · rcases b.2 with r | ⟨p2, r⟩
    · omega
    · have := a.1 p2; omega
  · rcases b.2 with r | ⟨p2, r⟩
    · have := b.1 p; omega
    · have := a.1 p2
      have := b.1 p
      omega
theorem c_run (I : tq_PI) (L : tq_PL) {x : Int64} {P : Nat → Bool} (hx : bb x = P) (hP : ∀ p, P p = true → p < 48) : ∃ m : Nat, FX11_longestRun I L x = some (zI (m : Int)) ∧ IsM (rl P) m := by
  obtain ⟨v, e, m, rfl, hm⟩ := it_for (f := fun p : Int64 × Int32 × Int32 => FX11_longestRun_s8 I L p.1 p.2.1 p.2.2) (fun i (s : Int64 × Int32) => (s.1, s.2, zI (i : Int))) 8 (fun i s => s.2 = zI (i : Int) ∧ bb s.1 = (fun p => decide (i < rl P p)) ∧ (i = 0 ∨ ∃ p, i ≤ rl P p)) (Post := fun v => ∃ m : Nat, v = zI (m : Int) ∧ IsM (rl P) m) (fun i s hi hs => by
    obtain ⟨y, v⟩ := s
    obtain ⟨h1, h2, h3⟩ := hs
    dsimp only at h1 h2 ⊢
    subst h1
    unfold FX11_longestRun_s8 FX11_rightOf
    simp (disch := omega) only [zlet, obind, zI_lit, zI_neg, zI_add, zI_sub, zI_mul, zI_div, zI_le, zI_lt, zI_eq, zI_cl, irem, ile_t, ile_f, ilt_t, ilt_f, ieq_t, ieq_f, and_true, true_and, and_false, false_and, and_self, not_true_eq_false, not_false_eq_true, ↓reduceIte, Int.toNat_natCast, tqb_z, tqb_t, tqb_f, lgz]
    by_cases q : y = 0
    · rw [if_pos q]
      refine Or.inr ⟨_, rfl, i, rfl, fun p => ?_, ?_⟩
      · have : bb y p = false := by rw [q, bb_0]
        rw [h2] at this
        simp only [decide_eq_false_iff_not] at this
        omega
      · rcases h3 with h3 | ⟨p, h3⟩
        · exact Or.inl h3
        · refine Or.inr ⟨p, ?_⟩
          have : bb y p = false := by rw [q, bb_0]
          rw [h2] at this
          simp only [decide_eq_false_iff_not] at this
          omega
    · rw [if_neg q]
      refine Or.inl ⟨(_, zI ((i + 1 : Nat) : Int)), rfl, rfl, ?_, ?_⟩
      · funext p
        rw [bb_and, bb_and, bb_shl (by omega), h2]
        dsimp only
        rw [show (1 : Int).toNat = 1 from rfl]
        by_cases p48 : p < 48
        · rw [bb_nleft p48, Bool.eq_iff_iff]
          simp only [Bool.and_eq_true, decide_eq_true_eq, Bool.not_eq_true', decide_eq_false_iff_not]
          have er := rl_eq P p
          cases pp : P p
          · rw [pp] at er
            simp only [Bool.false_eq_true, if_false] at er
            omega
          · rw [pp] at er
            simp only [if_true] at er
            by_cases p0 : p % 8 = 0
            · rw [if_pos p0] at er; omega
            · rw [if_neg p0] at er; omega
        · have z0 : rl P p = 0 := rl_no (by cases pp : P p; rfl; exact absurd (hP p pp) p48)
          rw [z0]
          simp
      · obtain ⟨p, _, hp⟩ := bb_ne0 q
        rw [h2] at hp
        simp only [decide_eq_true_eq] at hp
        exact Or.inr ⟨p, by omega⟩) (fun s hs => by
    obtain ⟨y, v⟩ := s
    obtain ⟨h1, h2, h3⟩ := hs
    dsimp only at h1 h2 ⊢
    subst h1
    unfold FX11_longestRun_s8
    simp (disch := omega) only [zlet, obind, zI_lit, zI_neg, zI_add, zI_sub, zI_mul, zI_div, zI_le, zI_lt, zI_eq, zI_cl, irem, ile_t, ile_f, ilt_t, ilt_f, ieq_t, ieq_f, and_true, true_and, and_false, false_and, and_self, not_true_eq_false, not_false_eq_true, ↓reduceIte, Int.toNat_natCast, tqb_z, tqb_t, tqb_f]
    refine ⟨_, rfl, 8, rfl, fun p => by have := rl_le P p; omega, ?_⟩
    rcases h3 with h3 | ⟨p, h3⟩
    · exact Or.inl h3
    · have := rl_le P p
      exact Or.inr ⟨p, by omega⟩) 0 (x, zI ((0 : Nat) : Int)) (by omega) (by omega) ⟨rfl, by
      rw [hx]
      funext p
      rw [rl_eq]
      cases P p
      · simp
      · simp; split <;> omega, Or.inl rfl⟩
  refine ⟨m, ?_, hm⟩
  unfold FX11_longestRun
  exact (congrArg (fun o => Option.bind o _) e).trans (obind _ _)
/-- the reference's run ending at a cell -/
theorem rl_cell {w h : Nat} (k : wh w h) (P : Nat → Bool) {c : Nat} : rl P (pl w c) = if P (pl w c) then (if c % w = 0 then 1 else rl P (pl w (c - 1)) + 1) else 0 := by
  rw [rl_eq, pl_mod k]
  split
  · split
    · rfl
    · rw [(pl_p k (c := c) (by omega)).1]
  · rfl
theorem rl_max {w h : Nat} (k : wh w h) {P : Nat → Bool} (z : ∀ p, P p = true → ar w h p = true) {b : Nat} (h1 : ∀ c, c < w * h → rl P (pl w c) ≤ b) (h2 : b = 0 ∨ ∃ c, c < w * h ∧ rl P (pl w c) = b) : IsM (rl P) b := by
  refine ⟨fun p => ?_, ?_⟩
  · cases e : P p
    · rw [rl_no e]; omega
    · have := h1 (cl w p) (cl_lt k (z p e))
      rw [pl_cl k (z p e)] at this
      exact this
  · rcases h2 with h2 | ⟨c, _, h2⟩
    · exact Or.inl h2
    · exact Or.inr ⟨_, h2⟩
section QF
variable {w h : Nat} {K : Nat → Nat}
theorem r_span {J : tq_PI} (R : RW J w h) (G : GR J w h 0 K) (M : tq_PL) : ∃ m : Nat, FX12_spanOf J M 136 = some (zI (m : Int)) ∧ IsM (rl (air w h K)) m := by
  have k := R.2.2
  have h48 := wh_le k
  have h2 := k.1
  have h8 := k.2.1
  have kz : ∀ p, (zI ((K p : Nat) : Int) = zI 0) = (K p = 0) := fun p => by
    have := G.2.1 p
    rw [zI_eq (by omega) (by omega)]
    simp
  obtain ⟨v, e, m, rfl, m1, m2⟩ := it_for (f := fun p : Int32 × Int32 × Int32 => FX12_spanOf_s6 J M 136 p.1 p.2.1 p.2.2) (fun i (s : Int32 × Int32) => (s.1, s.2, zI (i : Int))) (w * h) (fun i s => ∃ b : Nat, s.1 = zI (b : Int) ∧ b ≤ 8 ∧ s.2 = zI ((if i = 0 then 0 else rl (air w h K) (pl w (i - 1)) : Nat) : Int) ∧ (∀ c, c < i → rl (air w h K) (pl w c) ≤ b) ∧ (b = 0 ∨ ∃ c, c < i ∧ rl (air w h K) (pl w c) = b)) (Post := fun v => ∃ b : Nat, v = zI (b : Int) ∧ (∀ c, c < w * h → rl (air w h K) (pl w c) ≤ b) ∧ (b = 0 ∨ ∃ c, c < w * h ∧ rl (air w h K) (pl w c) = b)) (fun i s hi hs => by
    obtain ⟨x, n⟩ := s
    obtain ⟨b, s1, s2, s3, s4, s5⟩ := hs
    dsimp only at s1 s3 ⊢
    subst s1 s3
    have hml : i % w < w := Nat.mod_lt _ (by omega)
    have e3 : ((i : Int) % (w : Int)) = ((i % w : Nat) : Int) := rfl
    have kd := r_kind k G (by omega) M (z := (i : Int)) (by omega)
    have kd' : FX12_kindOf J M 136 (zI 0) (zI (i : Int)) = some (zI (K (pl w i) : Nat)) := kd
    have rc := rl_cell k (air w h K) (c := i)
    have rle := rl_le (air w h K) (pl w i)
    have rle2 := rl_le (air w h K) (pl w (i - 1))
    have ha : air w h K (pl w i) = decide (K (pl w i) = 0) := by simp [air, pl_ar k hi]
    have fin : ∀ o : Option ((Int32 × Int32 × Int32) ⊕ Int32), o = (if ((rl (air w h K) (pl w i) : Nat) : Int) ≤ (b : Int) then some (.inl (zI (b : Int), zI (rl (air w h K) (pl w i) : Nat), zI ((i : Int) + 1))) else some (.inl (zI (rl (air w h K) (pl w i) : Nat), zI (rl (air w h K) (pl w i) : Nat), zI ((i : Int) + 1)))) → (∃ s2 : Int32 × Int32, o = some (.inl (s2.1, s2.2, zI ((i + 1 : Nat) : Int))) ∧ ∃ b : Nat, s2.1 = zI (b : Int) ∧ b ≤ 8 ∧ s2.2 = zI ((if i + 1 = 0 then 0 else rl (air w h K) (pl w (i + 1 - 1)) : Nat) : Int) ∧ (∀ c, c < i + 1 → rl (air w h K) (pl w c) ≤ b) ∧ (b = 0 ∨ ∃ c, c < i + 1 ∧ rl (air w h K) (pl w c) = b)) := fun o ho => by
      rw [show i + 1 - 1 = i by omega, if_neg (show ¬ i + 1 = 0 by omega)]
      by_cases q : rl (air w h K) (pl w i) ≤ b
      · rw [if_pos (by omega)] at ho
        refine ⟨(zI (b : Int), zI (rl (air w h K) (pl w i) : Nat)), ho, b, rfl, s2, rfl, fun c hc => ?_, ?_⟩
        · by_cases ci : c = i
          · rw [ci]; exact q
          · exact s4 c (by omega)
        · rcases s5 with s5 | ⟨c, hc, s5⟩
          · exact Or.inl s5
          · exact Or.inr ⟨c, by omega, s5⟩
      · rw [if_neg (by omega)] at ho
        refine ⟨(zI (rl (air w h K) (pl w i) : Nat), zI (rl (air w h K) (pl w i) : Nat)), ho, _, rfl, by omega, rfl, fun c hc => ?_, Or.inr ⟨i, by omega, rfl⟩⟩
        by_cases ci : c = i
        · rw [ci]; exact Nat.le_refl _
        · have := s4 c (by omega); omega
    unfold FX12_spanOf_s6 FX12_spanOf_j43L6 FX12_spanOf_j54L6
    simp (disch := omega) only [zlet, obind, zI_lit, zI_neg, zI_add, zI_sub, zI_mul, zI_div, zI_le, zI_lt, zI_eq, zI_cl, irem, ile_t, ile_f, ilt_t, ilt_f, ieq_t, ieq_f, and_true, true_and, and_false, false_and, and_self, not_true_eq_false, not_false_eq_true, ↓reduceIte, Int.toNat_natCast, tqb_z, tqb_t, tqb_f, r_many R, R.1, kd', kz, e3]
    by_cases q : K (pl w i) = 0
    · rw [ha] at rc
      simp only [q, decide_true, if_true] at rc
      rw [if_pos q]
      by_cases q2 : i % w = 0
      · rw [if_pos q2] at rc
        rw [if_pos (by omega)]
        refine Or.inl (fin _ ?_)
        rw [rc]; rfl
      · rw [if_neg q2] at rc
        have i0 : ¬ i = 0 := fun e => q2 (by rw [e]; exact Nat.zero_mod w)
        rw [if_neg (by omega)]
        refine Or.inl (fin _ ?_)
        simp only [if_neg i0]
        simp (disch := omega) only [zI_le]
        rw [rc]; rfl
    · rw [ha] at rc
      simp only [q, decide_false, Bool.false_eq_true, if_false] at rc
      rw [if_neg q]
      refine Or.inl (fin _ ?_)
      rw [rc]; rfl) (fun s hs => by
    obtain ⟨b, s1, s2, s3, s4, s5⟩ := hs
    unfold FX12_spanOf_s6
    simp (disch := omega) only [zlet, obind, zI_lit, zI_neg, zI_add, zI_sub, zI_mul, zI_div, zI_le, zI_lt, zI_eq, zI_cl, irem, ile_t, ile_f, ilt_t, ilt_f, ieq_t, ieq_f, and_true, true_and, and_false, false_and, and_self, not_true_eq_false, not_false_eq_true, ↓reduceIte, Int.toNat_natCast, tqb_z, tqb_t, tqb_f, r_many R]
    exact ⟨_, rfl, b, s1, s4, s5⟩) 0 (zI ((0 : Nat) : Int), zI ((0 : Nat) : Int)) (by omega) (by omega) ⟨0, rfl, by omega, rfl, fun c hc => absurd hc (Nat.not_lt_zero c), Or.inl rfl⟩
  refine ⟨m, ?_, rl_max k (fun p q => by simp only [air, Bool.and_eq_true] at q; exact q.1) m1 m2⟩
  unfold FX12_spanOf
  exact (congrArg (fun o => Option.bind o _) e).trans (obind _ _)
theorem saf_ar (z : ∀ p, ar w h p = false → K p = 0) {s p : Nat} (q : saf w h K s p = true) : ar w h p = true := by
  simp only [saf, Bool.and_eq_true] at q
  exact cut_ar z q.1
theorem r_streak {J : tq_PI} {s : Nat} (hsd : s < 2) (R : RW J w h) (G : GR J w h 0 K) (M : tq_PL) (T : MT J w h (rea w h K s)) : ∃ (m : Nat) (J2 : tq_PI), tq_it (fun p : Int32 × Int32 × Int32 × tq_PI => FX12_streak_s35 p.2.2.2 M 136 (zI (s : Int)) p.1 p.2.1 p.2.2.1) tq_N (zI ((0 : Nat) : Int), zI ((0 : Nat) : Int), zI ((0 : Nat) : Int), J) = some (zI (m : Int), J2) ∧ IsM (rl (saf w h K s)) m ∧ FP J J2 := by
  have k := R.2.2
  have h48 := wh_le k
  have h2 := k.1
  have h8 := k.2.1
  obtain ⟨v, e, F, m, hv, m1, m2⟩ := it_for (f := fun p : Int32 × Int32 × Int32 × tq_PI => FX12_streak_s35 p.2.2.2 M 136 (zI (s : Int)) p.1 p.2.1 p.2.2.1) (fun i (x : Int32 × Int32 × tq_PI) => (x.1, x.2.1, zI (i : Int), x.2.2)) (w * h) (fun i x => FG 1 J x.2.2 ∧ ∃ b : Nat, x.1 = zI (b : Int) ∧ b ≤ 8 ∧ x.2.1 = zI ((if i = 0 then 0 else rl (saf w h K s) (pl w (i - 1)) : Nat) : Int) ∧ (∀ c, c < i → rl (saf w h K s) (pl w c) ≤ b) ∧ (b = 0 ∨ ∃ c, c < i ∧ rl (saf w h K s) (pl w c) = b)) (Post := fun v => FG 1 J v.2 ∧ ∃ b : Nat, v.1 = zI (b : Int) ∧ (∀ c, c < w * h → rl (saf w h K s) (pl w c) ≤ b) ∧ (b = 0 ∨ ∃ c, c < w * h ∧ rl (saf w h K s) (pl w c) = b)) (fun i x hi hx => by
    obtain ⟨x, n, J1⟩ := x
    obtain ⟨F, b, s1, s2, s3, s4, s5⟩ := hx
    dsimp only at F s1 s3 ⊢
    subst s1 s3
    have hml : i % w < w := Nat.mod_lt _ (by omega)
    have e3 : ((i : Int) % (w : Int)) = ((i % w : Nat) : Int) := rfl
    have R1 := R.fg F
    have G1 := G.fg k F (by omega)
    have T1 := T.fg F
    have ic := r_isCut R1 G1 (by omega) M hsd T1 hi
    have ic' : FX12_isCut J1 M 136 (zI 0) (zI (s : Int)) (zI (i : Int)) = some (cut w h K s (pl w i)) := ic
    obtain ⟨J3, e4, _, F3⟩ := r_los R1 G1 (by omega) M hi
    have e4' : FX12_taken J1 M 136 (zI 0) (zI (i : Int)) = some (zI (los h K (pl w i) : Nat), J3) := e4
    have l1 := los_le h K (pl w i)
    have R3 := R1.fg F3
    have rc := rl_cell k (saf w h K s) (c := i)
    have rle := rl_le (saf w h K s) (pl w i)
    have rle2 := rl_le (saf w h K s) (pl w (i - 1))
    have fin : ∀ (J4 : tq_PI), FG 1 J J4 → ∀ o : Option ((Int32 × Int32 × Int32 × tq_PI) ⊕ (Int32 × tq_PI)), o = (if ((rl (saf w h K s) (pl w i) : Nat) : Int) ≤ (b : Int) then some (.inl (zI (b : Int), zI (rl (saf w h K s) (pl w i) : Nat), zI ((i : Int) + 1), J4)) else some (.inl (zI (rl (saf w h K s) (pl w i) : Nat), zI (rl (saf w h K s) (pl w i) : Nat), zI ((i : Int) + 1), J4))) → (∃ s2 : Int32 × Int32 × tq_PI, o = some (.inl (s2.1, s2.2.1, zI ((i + 1 : Nat) : Int), s2.2.2)) ∧ FG 1 J s2.2.2 ∧ ∃ b : Nat, s2.1 = zI (b : Int) ∧ b ≤ 8 ∧ s2.2.1 = zI ((if i + 1 = 0 then 0 else rl (saf w h K s) (pl w (i + 1 - 1)) : Nat) : Int) ∧ (∀ c, c < i + 1 → rl (saf w h K s) (pl w c) ≤ b) ∧ (b = 0 ∨ ∃ c, c < i + 1 ∧ rl (saf w h K s) (pl w c) = b)) := fun J4 F4 o ho => by
      rw [show i + 1 - 1 = i by omega, if_neg (show ¬ i + 1 = 0 by omega)]
      by_cases q : rl (saf w h K s) (pl w i) ≤ b
      · rw [if_pos (by omega)] at ho
        refine ⟨(zI (b : Int), zI (rl (saf w h K s) (pl w i) : Nat), J4), ho, F4, b, rfl, s2, rfl, fun c hc => ?_, ?_⟩
        · by_cases ci : c = i
          · rw [ci]; exact q
          · exact s4 c (by omega)
        · rcases s5 with s5 | ⟨c, hc, s5⟩
          · exact Or.inl s5
          · exact Or.inr ⟨c, by omega, s5⟩
      · rw [if_neg (by omega)] at ho
        refine ⟨(zI (rl (saf w h K s) (pl w i) : Nat), zI (rl (saf w h K s) (pl w i) : Nat), J4), ho, F4, _, rfl, by omega, rfl, fun c hc => ?_, Or.inr ⟨i, by omega, rfl⟩⟩
        by_cases ci : c = i
        · rw [ci]; exact Nat.le_refl _
        · have := s4 c (by omega); omega
    have hsf : saf w h K s (pl w i) = (cut w h K s (pl w i) && decide (los h K (pl w i) = 0)) := rfl
    unfold FX12_streak_s35 FX12_streak_j69L35 FX12_streak_j70L35 FX12_streak_j99L35 FX12_streak_j113L35
    simp (disch := omega) only [zlet, obind, zI_lit, zI_neg, zI_add, zI_sub, zI_mul, zI_div, zI_le, zI_lt, zI_eq, zI_cl, irem, ile_t, ile_f, ilt_t, ilt_f, ieq_t, ieq_f, and_true, true_and, and_false, false_and, and_self, not_true_eq_false, not_false_eq_true, ↓reduceIte, Int.toNat_natCast, tqb_z, tqb_t, tqb_f, r_many R1, R1.1, R3.1, ic', e4', e3]
    cases qc : cut w h K s (pl w i)
    · rw [hsf, qc] at rc
      simp only [Bool.false_and, Bool.false_eq_true, if_false] at rc
      rw [if_pos rfl]
      refine Or.inl (fin J1 F _ ?_)
      rw [rc]; rfl
    · rw [if_neg (by simp)]
      by_cases q0 : los h K (pl w i) = 0
      · rw [hsf, qc, q0] at rc
        simp only [decide_true, Bool.and_self, if_true] at rc
        rw [if_pos (by omega)]
        by_cases q2 : i % w = 0
        · rw [if_pos q2] at rc
          rw [if_pos (by omega)]
          refine Or.inl (fin J3 (F.tr F3) _ ?_)
          rw [rc]; rfl
        · rw [if_neg q2] at rc
          have i0 : ¬ i = 0 := fun e => q2 (by rw [e]; exact Nat.zero_mod w)
          rw [if_neg (by omega)]
          refine Or.inl (fin J3 (F.tr F3) _ ?_)
          simp only [if_neg i0]
          simp (disch := omega) only [zI_le]
          rw [rc]; rfl
      · rw [hsf, qc] at rc
        simp only [q0, decide_false, Bool.and_false, Bool.false_eq_true, if_false] at rc
        rw [if_neg (by omega)]
        refine Or.inl (fin J3 (F.tr F3) _ ?_)
        rw [rc]; rfl) (fun x hx => by
    obtain ⟨F, b, s1, s2, s3, s4, s5⟩ := hx
    have R1 := R.fg F
    unfold FX12_streak_s35
    simp (disch := omega) only [zlet, obind, zI_lit, zI_neg, zI_add, zI_sub, zI_mul, zI_div, zI_le, zI_lt, zI_eq, zI_cl, irem, ile_t, ile_f, ilt_t, ilt_f, ieq_t, ieq_f, and_true, true_and, and_false, false_and, and_self, not_true_eq_false, not_false_eq_true, ↓reduceIte, Int.toNat_natCast, tqb_z, tqb_t, tqb_f, r_many R1]
    exact ⟨_, rfl, F, b, s1, s4, s5⟩) 0 (zI ((0 : Nat) : Int), zI ((0 : Nat) : Int), J) (by omega) (by omega) ⟨FG.rf, 0, rfl, by omega, rfl, fun c hc => absurd hc (Nat.not_lt_zero c), Or.inl rfl⟩
  obtain ⟨v1, v2⟩ := v
  dsimp only at hv F
  subst hv
  exact ⟨m, v2, e, rl_max k (fun p q => saf_ar G.2.2 q) m1 m2, F.fp⟩
end QF
theorem q_streak {I : tq_PI} {L : tq_PL} (V : HV I L 1 0) (x y : Int32) : ∃ v, FX11_streak I L 0 x y = some v ∧ ∀ J M, J 137 = I 137 → ∃ J2, FX12_streak J M 136 x y = some (v, J2) ∧ FP J J2 := by
  rcases hill_case V x with ⟨e, r⟩ | ⟨i, w, h, K, hi, rfl, e, H, S, r⟩
  · exact ⟨-1, by unfold FX11_streak; rw [rg_0_0, e, obind]; rfl, fun J M hJ => ⟨J, by unfold FX12_streak; rw [r J M hJ, obind]; rfl, FP.rf⟩⟩
  · obtain ⟨z, hz, rfl⟩ := zI_of y
    by_cases sd : z = 0 ∨ z = 1
    · obtain ⟨s, rfl⟩ : ∃ s : Nat, z = s := ⟨z.toNat, by omega⟩
      have hs : s < 2 := by omega
      obtain ⟨y, ey, hy⟩ := c_safe H hs (c_sol H) (sb_rf K) H.z S
      obtain ⟨m, em, hm⟩ := c_run I L hy (fun p q => ar_lt H.k.2.2.2 (saf_ar H.z q))
      refine ⟨zI (m : Int), ?_, fun J M hJ => ?_⟩
      · unfold FX11_streak
        simp (disch := omega) only [rg_0_0, e, c_isSide, zlet, obind, zI_lit, zI_neg, zI_add, zI_sub, zI_mul, zI_div, zI_le, zI_lt, zI_eq, zI_cl, irem, ile_t, ile_f, ilt_t, ilt_f, ieq_t, ieq_f, and_true, true_and, and_false, false_and, and_self, not_true_eq_false, not_false_eq_true, ↓reduceIte, Int.toNat_natCast, tqb_z, tqb_t, tqb_f, r_isIn, decide_eq_false_iff_not, decide_eq_true_eq, oel_s, oel_n, Bool.false_eq_true, btf, eq_self, or_self, or_false, false_or, or_true, true_or, iand_f, iandl_f, ior_t, ior_f, ey, em]
      · obtain ⟨J1, J2, h1, h2, R1, R2, G2, P1, P2, -⟩ := r J M hJ
        obtain ⟨J3, e3, F3, M3⟩ := r_reaches R2 G2 (by omega) M hs
        have e3' : FX12_reaches J2 M 136 (zI 0) (zI (s : Int)) = some J3 := e3
        obtain ⟨m2, J4, e4, hm2, P4⟩ := r_streak hs (R2.fc F3 (by omega)) (G2.fc F3 (by omega)) M M3
        refine ⟨J4, ?_, (P2.tr (F3.fp (by unfold psl; omega))).tr P4⟩
        rw [IsM_one hm hm2]
        unfold FX12_streak
        simp (disch := omega) only [h1, h2, r_isSide, e3', zlet, obind, zI_lit, zI_neg, zI_add, zI_sub, zI_mul, zI_div, zI_le, zI_lt, zI_eq, zI_cl, irem, ile_t, ile_f, ilt_t, ilt_f, ieq_t, ieq_f, and_true, true_and, and_false, false_and, and_self, not_true_eq_false, not_false_eq_true, ↓reduceIte, Int.toNat_natCast, tqb_z, tqb_t, tqb_f, r_isIn, decide_eq_false_iff_not, decide_eq_true_eq, oel_s, oel_n, Bool.false_eq_true, btf, eq_self, or_self, or_false, false_or, or_true, true_or, iand_f, iandl_f, ior_t, ior_f]
        exact (congrArg (fun o => Option.bind o _) e4).trans (obind _ _)
    · refine ⟨-1, ?_, fun J M hJ => ?_⟩
      · unfold FX11_streak FX11_streak_j20
        simp (disch := omega) only [rg_0_0, e, c_isSide, zlet, obind, zI_lit, zI_neg, zI_add, zI_sub, zI_mul, zI_div, zI_le, zI_lt, zI_eq, zI_cl, irem, ile_t, ile_f, ilt_t, ilt_f, ieq_t, ieq_f, and_true, true_and, and_false, false_and, and_self, not_true_eq_false, not_false_eq_true, ↓reduceIte, Int.toNat_natCast, tqb_z, tqb_t, tqb_f, r_isIn, decide_eq_false_iff_not, decide_eq_true_eq, oel_s, oel_n, Bool.false_eq_true, btf, eq_self, or_self, or_false, false_or, or_true, true_or, iand_f, iandl_f, ior_t, ior_f]
      · obtain ⟨J1, J2, h1, h2, R1, R2, G2, P1, P2, -⟩ := r J M hJ
        refine ⟨J1, ?_, P1⟩
        unfold FX12_streak FX12_streak_j15
        simp (disch := omega) only [h1, r_isSide, zlet, obind, zI_lit, zI_neg, zI_add, zI_sub, zI_mul, zI_div, zI_le, zI_lt, zI_eq, zI_cl, irem, ile_t, ile_f, ilt_t, ilt_f, ieq_t, ieq_f, and_true, true_and, and_false, false_and, and_self, not_true_eq_false, not_false_eq_true, ↓reduceIte, Int.toNat_natCast, tqb_z, tqb_t, tqb_f, r_isIn, decide_eq_false_iff_not, decide_eq_true_eq, oel_s, oel_n, Bool.false_eq_true, btf, eq_self, or_self, or_false, false_or, or_true, true_or, iand_f, iandl_f, ior_t, ior_f]
