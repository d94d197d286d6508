/-! WAYS: walks by cells and stones; the reference's row of them. -/
def cst (K : Nat → Nat) (p : Nat) : Nat := if sto K p then 1 else 0
theorem cst_le (K : Nat → Nat) (p : Nat) : cst K p ≤ 1 := by unfold cst; split <;> omega
def Wk (w h : Nat) (K : Nat → Nat) (s : Nat) : Nat → Nat → Nat → Prop
  | 0, _, _ => False
  | 1, t, p => edg w h s p = true ∧ K p ≠ 4 ∧ t = cst K p
  | n + 2, t, p => ∃ q u, Wk w h K s (n + 1) u q ∧ adj q p ∧ ar w h p = true ∧ K p ≠ 4 ∧ t = u + cst K p
section WK
variable {w h s : Nat} {K : Nat → Nat}
theorem edg_ar {p : Nat} (q : edg w h s p = true) : ar w h p = true := by simp only [edg, Bool.and_eq_true] at q; exact q.1
theorem Wk_ar : ∀ {n t p : Nat}, Wk w h K s n t p → ar w h p = true ∧ K p ≠ 4
  | 0, _, _, q => q.elim
  | 1, _, _, q => ⟨edg_ar q.1, q.2.1⟩
  | _ + 2, _, _, ⟨_, _, _, _, q1, q2, _⟩ => ⟨q1, q2⟩
theorem Wk_pos : ∀ {n t p : Nat}, Wk w h K s n t p → 1 ≤ n
  | 0, _, _, q => q.elim
  | _ + 1, _, _, _ => by omega
theorem Wk_le : ∀ {n t p : Nat}, Wk w h K s n t p → t ≤ n
  | 0, _, _, q => q.elim
  | 1, _, p, q => by rw [q.2.2]; exact cst_le K p
  | n + 2, t, p, ⟨q, u, q1, _, _, _, e⟩ => by have := Wk_le q1; have := cst_le K p; omega
theorem Wk_s {n t q p : Nat} (k : Wk w h K s n t q) (a : adj q p) (ha : ar w h p = true) (hk : K p ≠ 4) : Wk w h K s (n + 1) (t + cst K p) p := by
  match n, k with
  | n + 1, k => exact ⟨q, t, k, a, ha, hk, rfl⟩
/-- D tells the ways -/
def isD (w h : Nat) (K : Nat → Nat) (s : Nat) (D : Nat → Nat) : Prop := (∀ p, D p = 99999 ∨ ∃ n t, n ≤ 48 ∧ Wk w h K s n t p ∧ D p = 100 * t + n) ∧ ∀ n t p, Wk w h K s n t p → D p ≤ 100 * t + n ∧ D p < 99999
def sndD (w h : Nat) (K : Nat → Nat) (s : Nat) (D : Nat → Nat) : Prop := ∀ p, D p = 99999 ∨ ∃ n t, Wk w h K s n t p ∧ D p = 100 * t + n
theorem isD_of (k : wh w h) {D : Nat → Nat} (h0 : sndD w h K s D) (h1 : ∀ p, edg w h s p = true → K p ≠ 4 → D p ≤ 100 * cst K p + 1) (h2 : ∀ q p, ar w h q = true → ar w h p = true → adj q p → K p ≠ 4 → D p ≤ D q + 100 * cst K p + 1) : isD w h K s D := by
  have hC : ∀ n t p, Wk w h K s n t p → D p ≤ 100 * t + n := by
    intro n
    induction n with
    | zero => intro t p q; exact q.elim
    | succ n ih =>
      intro t p q
      match n, q with
      | 0, q => rw [q.2.2]; exact h1 p q.1 q.2.1
      | n + 1, ⟨q, u, q1, a, b, c, e⟩ =>
        have i1 := ih u q q1
        have i2 := h2 q p (Wk_ar q1).1 b a c
        omega
  have hN : ∀ n t p, Wk w h K s n t p → D p = 100 * t + n → n ≤ fb_ct (fun r => ar w h r && decide (D r ≤ D p)) 64 := by
    intro n
    induction n with
    | zero => intro t p q; exact q.elim
    | succ n ih =>
      intro t p q e0
      have hp := (Wk_ar q).1
      have p64 : p < 64 := by have := ar_lt k.2.2.2 hp; omega
      match n, q with
      | 0, q => exact fb_ct_pos.2 ⟨p, p64, by simp [hp]⟩
      | n + 1, ⟨q, u, q1, a, b, c, e⟩ =>
        have i1 := hC _ _ _ q1
        have i2 := h2 q p (Wk_ar q1).1 b a c
        have i3 := ih u q q1 (by omega)
        have i4 := ct_lt (n := 64) (q := p) (P := fun r => ar w h r && decide (D r ≤ D q)) (Q := fun r => ar w h r && decide (D r ≤ D p)) (fun r _ x => by
          simp only [Bool.and_eq_true, decide_eq_true_eq] at x ⊢
          exact ⟨x.1, by omega⟩) p64 (by simp [hp]) (by simp [hp]; omega)
        omega
  have h48 : ∀ p, fb_ct (fun r => ar w h r && decide (D r ≤ D p)) 64 ≤ 48 := fun p => ct_48 fun r x => by
    simp only [Bool.and_eq_true] at x
    exact ar_lt k.2.2.2 x.1
  have hS : ∀ p, D p = 99999 ∨ ∃ n t, n ≤ 48 ∧ Wk w h K s n t p ∧ D p = 100 * t + n := fun p => by
    rcases h0 p with e | ⟨n, t, q, e⟩
    · exact Or.inl e
    · have i1 := hN n t p q e
      have i2 := h48 p
      exact Or.inr ⟨n, t, by omega, q, e⟩
  have hB : ∀ p, D p = 99999 ∨ D p ≤ 4848 := fun p => by
    rcases hS p with e | ⟨n, t, l, q, e⟩
    · exact Or.inl e
    · have := Wk_le q
      exact Or.inr (by omega)
  have hF : ∀ n t p, Wk w h K s n t p → D p < 99999 := by
    intro n
    induction n with
    | zero => intro t p q; exact q.elim
    | succ n ih =>
      intro t p q
      match n, q with
      | 0, q =>
        have := h1 p q.1 q.2.1
        have := cst_le K p
        omega
      | n + 1, ⟨q, u, q1, a, b, c, e⟩ =>
        have i1 := ih u q q1
        have i2 := h2 q p (Wk_ar q1).1 b a c
        have := cst_le K p
        rcases hB q with i3 | i3 <;> omega
  exact ⟨hS, fun n t p q => ⟨hC n t p q, hF n t p q⟩⟩
/-- the fewest stones to a goal -/
def Few (w h : Nat) (K : Nat → Nat) (s : Nat) (G : Nat → Bool) (r : Int) : Prop := (∃ t : Nat, t ≤ 48 ∧ r = t ∧ (∃ p n, G p = true ∧ Wk w h K s n t p) ∧ ∀ u, u < t → ∀ p n, G p = true → ¬ Wk w h K s n u p) ∨ (r = -1 ∧ ∀ t p n, G p = true → ¬ Wk w h K s n t p)
theorem Few_one {G : Nat → Bool} {r r2 : Int} (h1 : Few w h K s G r) (h2 : Few w h K s G r2) : r = r2 := by
  rcases h1 with ⟨t, _, e, ⟨p, n, g, q⟩, m⟩ | ⟨e, m⟩
  · rcases h2 with ⟨t2, _, e2, ⟨p2, n2, g2, q2⟩, m2⟩ | ⟨e2, m2⟩
    · rcases Nat.lt_trichotomy t t2 with r | r | r
      · exact absurd q (m2 t r p n g)
      · omega
      · exact absurd q2 (m t2 r p2 n2 g2)
    · exact absurd q (m2 t p n g)
  · rcases h2 with ⟨t2, _, e2, ⟨p2, n2, g2, q2⟩, m2⟩ | ⟨e2, m2⟩
    · exact absurd q2 (m t2 p2 n2 g2)
    · omega
theorem isD_div {D : Nat → Nat} (d : isD w h K s D) {p n t : Nat} (hn : n ≤ 48) (e : D p = 100 * t + n) : D p / 100 = t ∧ D p % 100 = n := by omega
end WK
def FD (I : tq_PI) (w h : Nat) (D : Nat → Nat) : Prop := (∀ c, c < w * h → I 142 c = zI (D (pl w c) : Nat)) ∧ (∀ p, D p ≤ 99999) ∧ ∀ p, ar w h p = false → D p = 99999
theorem FD.up {I : tq_PI} {w h : Nat} {D : Nat → Nat} (k : wh w h) (F : FD I w h D) {c v : Nat} (hc : c < w * h) (hv : v ≤ 99999) : FD (tq_up2 I 142 c (zI (v : Int))) w h (kup D (pl w c) v) := by
  refine ⟨fun d hd => ?_, fun p => ?_, fun p hp => ?_⟩
  · unfold kup
    by_cases e : d = c
    · rw [e, up_s, if_pos rfl]
    · rw [up_n _ _ (Or.inr e), if_neg (fun q => e (pl_inj k q))]
      exact F.1 d hd
  · unfold kup; split
    · exact hv
    · exact F.2.1 p
  · unfold kup
    by_cases e : p = pl w c
    · rw [e, pl_ar k hc] at hp; cases hp
    · rw [if_neg e]; exact F.2.2 p hp
theorem g17 : tq_rg 136 17 = 142 := by decide +kernel
theorem r_stone (I : tq_PI) (L : tq_PL) {k : Nat} (hK : k ≤ 4) : FX12_isStone I L (zI (k : Int)) = decide (1 ≤ k ∧ k ≤ 3) := by
  unfold FX12_isStone FX12_isStone_j14
  by_cases a : k = 0
  · simp (disch := omega) only [zlet, obind, zI_lit, zI_neg, zI_add, zI_sub, zI_mul, zI_div, zI_le, zI_lt, zI_eq, zI_cl, irem, ile_t, ile_f, ilt_t, ilt_f, ieq_t, ieq_f, and_true, true_and, and_false, false_and, and_self, not_true_eq_false, not_false_eq_true, ↓reduceIte, Int.toNat_natCast, tqb_z, tqb_t, tqb_f]; simp [a]
  · by_cases b : k = 4
    · simp (disch := omega) only [zlet, obind, zI_lit, zI_neg, zI_add, zI_sub, zI_mul, zI_div, zI_le, zI_lt, zI_eq, zI_cl, irem, ile_t, ile_f, ilt_t, ilt_f, ieq_t, ieq_f, and_true, true_and, and_false, false_and, and_self, not_true_eq_false, not_false_eq_true, ↓reduceIte, Int.toNat_natCast, tqb_z, tqb_t, tqb_f]; simp [b]
    · simp (disch := omega) only [zlet, obind, zI_lit, zI_neg, zI_add, zI_sub, zI_mul, zI_div, zI_le, zI_lt, zI_eq, zI_cl, irem, ile_t, ile_f, ilt_t, ilt_f, ieq_t, ieq_f, and_true, true_and, and_false, false_and, and_self, not_true_eq_false, not_false_eq_true, ↓reduceIte, Int.toNat_natCast, tqb_z, tqb_t, tqb_f]; symm; rw [decide_eq_true_eq]; omega
theorem r_cost {I : tq_PI} {w h l : Nat} {K : Nat → Nat} (k : wh w h) (G : GR I w h l K) (hl : l ≤ 3) (L : tq_PL) {z : Int} (hz : 0 ≤ z ∧ z < ((w * h : Nat) : Int)) : FX12_costOf I L 136 (zI (l : Int)) (zI z) = some (zI (cst K (pl w z.toNat) : Nat)) := by
  unfold FX12_costOf cst
  rw [r_kind k G hl L hz, obind, zlet, r_stone I L (G.2.1 _)]
  unfold sto
  by_cases q : 1 ≤ K (pl w z.toNat) ∧ K (pl w z.toNat) ≤ 3
  · simp [q, tq_b]; rfl
  · simp [q, tq_b]; rfl
theorem r_lays_d {I : tq_PI} {w h l s : Nat} {K D0 : Nat → Nat} (R : RW I w h) (G : GR I w h l K) (hl : l ≤ 3) (L : tq_PL) (M : FD I w h D0) (S0 : sndD w h K s D0) {c : Nat} (hc : c < w * h) (m0 : Bool) : ∃ (m1 : Bool) (J : tq_PI) (D1 : Nat → Nat), tq_it (fun p : Int32 × Int32 × tq_PI => FX12_laysWays_s85 p.2.2 L 136 (zI (l : Int)) (zI (c : Int)) p.1 p.2.1) tq_N (zB m0, zI ((0 : Nat) : Int), I) = some (zB m1, J) ∧ FC 142 I J ∧ FD J w h D1 ∧ sndD w h K s D1 ∧ (∀ p, D1 p ≤ D0 p) ∧ (m1 = false → m0 = false ∧ D1 = D0 ∧ (∀ e, e < w * h → adj (pl w c) (pl w e) → K (pl w e) ≠ 4 → D0 (pl w e) ≤ D0 (pl w c) + 100 * cst K (pl w e) + 1)) ∧ (m1 = true → m0 = true ∨ fb_sm D1 48 < fb_sm D0 48) := by
  have k := R.2.2
  have h48 := wh_le k
  have k4 : ∀ p, (zI ((K p : Nat) : Int) = zI 4) = (K p = 4) := fun p => by
    have := G.2.1 p
    rw [zI_eq (by omega) (by omega)]
    apply propext
    omega
  have key := it_for (f := fun p : Int32 × Int32 × tq_PI => FX12_laysWays_s85 p.2.2 L 136 (zI (l : Int)) (zI (c : Int)) p.1 p.2.1) (fun i (s : Int32 × tq_PI) => (s.1, zI (i : Int), s.2)) 4 (fun i x => ∃ (m : Bool) (D1 : Nat → Nat), x.1 = zB m ∧ FC 142 I x.2 ∧ FD x.2 w h D1 ∧ sndD w h K s D1 ∧ (∀ p, D1 p ≤ D0 p) ∧ (m = false → m0 = false ∧ D1 = D0 ∧ (∀ d, d < i → ∀ e : Nat, e < w * h → bs w h c d = e → K (pl w e) ≠ 4 → D0 (pl w e) ≤ D0 (pl w c) + 100 * cst K (pl w e) + 1)) ∧ (m = true → m0 = true ∨ fb_sm D1 48 < fb_sm D0 48)) (Post := fun x => ∃ (m : Bool) (D1 : Nat → Nat), x.1 = zB m ∧ FC 142 I x.2 ∧ FD x.2 w h D1 ∧ sndD w h K s D1 ∧ (∀ p, D1 p ≤ D0 p) ∧ (m = false → m0 = false ∧ D1 = D0 ∧ (∀ d, d < 4 → ∀ e : Nat, e < w * h → bs w h c d = e → K (pl w e) ≠ 4 → D0 (pl w e) ≤ D0 (pl w c) + 100 * cst K (pl w e) + 1)) ∧ (m = true → m0 = true ∨ fb_sm D1 48 < fb_sm D0 48)) (fun i x hi hx => by
    obtain ⟨m, J⟩ := x
    obtain ⟨m, D1, rfl, F, M1, S1, l1, h1, h2⟩ := hx
    dsimp only at F M1 ⊢
    have RJ := R.fc F (by omega)
    have GJ := G.fc F (by omega)
    unfold FX12_laysWays_s85 FX12_laysWays_j180L85
    simp (disch := omega) only [zlet, obind, zI_lit, zI_neg, zI_add, zI_sub, zI_mul, zI_div, zI_le, zI_lt, zI_eq, zI_cl, irem, ile_t, ile_f, ilt_t, ilt_f, ieq_t, ieq_f, and_true, true_and, and_false, false_and, and_self, not_true_eq_false, not_false_eq_true, ↓reduceIte, Int.toNat_natCast, tqb_z, tqb_t, tqb_f, g17, M1.1 c hc, r_beside RJ L hc hi]
    rcases bs_cell k hc i with b1 | ⟨e, b1, he, a⟩
    · rw [b1, if_pos (by rfl)]
      refine Or.inl ⟨(zB m, J), rfl, m, D1, rfl, F, M1, S1, l1, fun q => ?_, h2⟩
      obtain ⟨q1, q2, q3⟩ := h1 q
      refine ⟨q1, q2, fun d hd e he hb => ?_⟩
      by_cases q4 : d = i
      · rw [q4, b1] at hb; omega
      · exact q3 d (by omega) e he hb
    · rw [b1]
      have c1 := cst_le K (pl w e)
      have d1 := M1.2.1 (pl w c)
      have d2 := M1.2.1 (pl w e)
      simp (disch := omega) only [zlet, obind, zI_lit, zI_neg, zI_add, zI_sub, zI_mul, zI_div, zI_le, zI_lt, zI_eq, zI_cl, irem, ile_t, ile_f, ilt_t, ilt_f, ieq_t, ieq_f, and_true, true_and, and_false, false_and, and_self, not_true_eq_false, not_false_eq_true, ↓reduceIte, Int.toNat_natCast, tqb_z, tqb_t, tqb_f, M1.1 e he, r_kind k GJ hl, r_cost k GJ hl, k4]
      by_cases ke : K (pl w e) = 4
      · rw [if_pos ke]
        refine Or.inl ⟨(zB m, J), rfl, m, D1, rfl, F, M1, S1, l1, fun q => ?_, h2⟩
        obtain ⟨q1, q2, q3⟩ := h1 q
        refine ⟨q1, q2, fun d hd e2 he2 hb q5 => ?_⟩
        by_cases q4 : d = i
        · rw [q4, b1] at hb
          rw [show e2 = e by omega] at q5
          exact absurd ke q5
        · exact q3 d (by omega) e2 he2 hb q5
      · rw [if_neg ke]
        by_cases lt : D1 (pl w c) + 100 * cst K (pl w e) + 1 < D1 (pl w e)
        · rw [if_pos (by omega)]
          have ev : ((D1 (pl w c) : Int) + 100 * (cst K (pl w e) : Int) + 1) = ((D1 (pl w c) + 100 * cst K (pl w e) + 1 : Nat) : Int) := by omega
          rw [ev]
          refine Or.inl ⟨(zI 1, tq_up2 J 142 e (zI ((D1 (pl w c) + 100 * cst K (pl w e) + 1 : Nat) : Int))), rfl, true, kup D1 (pl w e) (D1 (pl w c) + 100 * cst K (pl w e) + 1), rfl, F.tr FC.up, M1.up k he (by omega), fun p => ?_, fun p => ?_, fun q => (by cases q), fun _ => ?_⟩
          · unfold kup
            by_cases q : p = pl w e
            · rw [if_pos q]
              rcases S1 (pl w c) with r | ⟨n, t, r1, r2⟩
              · omega
              · refine Or.inr ⟨n + 1, t + cst K (pl w e), ?_, by omega⟩
                rw [q]
                exact Wk_s r1 a (pl_ar k he) ke
            · rw [if_neg q]; exact S1 p
          · have := l1 p
            unfold kup
            by_cases q : p = pl w e
            · rw [if_pos q]
              rw [q] at this ⊢
              omega
            · rw [if_neg q]; exact this
          · have i1 := fb_sm_upd D1 (D1 (pl w c) + 100 * cst K (pl w e) + 1) (i := pl w e) (n := 48) (pl_48 k he)
            have i2 := fb_sm_le (f := D1) (g := D0) (n := 48) (fun p _ => l1 p)
            have i3 : fb_sm (kup D1 (pl w e) (D1 (pl w c) + 100 * cst K (pl w e) + 1)) 48 + D1 (pl w e) = fb_sm D1 48 + (D1 (pl w c) + 100 * cst K (pl w e) + 1) := i1
            exact Or.inr (by omega)
        · rw [if_neg (by omega)]
          refine Or.inl ⟨(zB m, J), rfl, m, D1, rfl, F, M1, S1, l1, fun q => ?_, h2⟩
          obtain ⟨q1, q2, q3⟩ := h1 q
          refine ⟨q1, q2, fun d hd e2 he2 hb q5 => ?_⟩
          by_cases q4 : d = i
          · rw [q4, b1] at hb
            have : e2 = e := by omega
            rw [this, ← q2]
            omega
          · exact q3 d (by omega) e2 he2 hb q5) (fun x hx => by
    unfold FX12_laysWays_s85
    simp (disch := omega) only [zlet, obind, zI_lit, zI_neg, zI_add, zI_sub, zI_mul, zI_div, zI_le, zI_lt, zI_eq, zI_cl, irem, ile_t, ile_f, ilt_t, ilt_f, ieq_t, ieq_f, and_true, true_and, and_false, false_and, and_self, not_true_eq_false, not_false_eq_true, ↓reduceIte, Int.toNat_natCast, tqb_z, tqb_t, tqb_f]
    exact ⟨_, rfl, hx⟩) 0 (zB m0, I) (by omega) (by omega) ⟨m0, D0, rfl, FC.rf, M, S0, fun _ => Nat.le_refl _, fun q => ⟨q, rfl, fun d hd => absurd hd (Nat.not_lt_zero d)⟩, fun q => Or.inl q⟩
  obtain ⟨⟨b1, b2⟩, e, m1, D1, rfl, F, M1, S1, l1, h1, h2⟩ := key
  refine ⟨m1, b2, D1, e, F, M1, S1, l1, fun q => ?_, h2⟩
  obtain ⟨q1, q2, q3⟩ := h1 q
  refine ⟨q1, q2, fun e he a ha => ?_⟩
  obtain ⟨d, hd, hb⟩ := bs_adj k hc he a
  exact q3 d hd e he hb ha
theorem r_lays_c {I : tq_PI} {w h l s : Nat} {K D0 : Nat → Nat} (R : RW I w h) (G : GR I w h l K) (hl : l ≤ 3) (L : tq_PL) (M : FD I w h D0) (S0 : sndD w h K s D0) : ∃ (m1 : Bool) (J : tq_PI) (D1 : Nat → Nat), tq_it (fun p : Int32 × Int32 × tq_PI => FX12_laysWays_s73 p.2.2 L 136 (zI (l : Int)) p.1 p.2.1) tq_N (zB false, zI ((0 : Nat) : Int), I) = some (zB m1, J) ∧ FC 142 I J ∧ FD J w h D1 ∧ sndD w h K s D1 ∧ (∀ p, D1 p ≤ D0 p) ∧ (m1 = false → D1 = D0 ∧ (∀ q p, ar w h q = true → ar w h p = true → adj q p → K p ≠ 4 → D0 p ≤ D0 q + 100 * cst K p + 1)) ∧ (m1 = true → fb_sm D1 48 < fb_sm D0 48) := by
  have k := R.2.2
  have h48 := wh_le k
  have key := it_for (f := fun p : Int32 × Int32 × tq_PI => FX12_laysWays_s73 p.2.2 L 136 (zI (l : Int)) p.1 p.2.1) (fun i (s : Int32 × tq_PI) => (s.1, zI (i : Int), s.2)) (w * h) (fun i x => ∃ (m : Bool) (D1 : Nat → Nat), x.1 = zB m ∧ FC 142 I x.2 ∧ FD x.2 w h D1 ∧ sndD w h K s D1 ∧ (∀ p, D1 p ≤ D0 p) ∧ (m = false → D1 = D0 ∧ (∀ c, c < i → ∀ e, e < w * h → adj (pl w c) (pl w e) → K (pl w e) ≠ 4 → D0 (pl w e) ≤ D0 (pl w c) + 100 * cst K (pl w e) + 1)) ∧ (m = true → fb_sm D1 48 < fb_sm D0 48)) (Post := fun x => ∃ (m : Bool) (D1 : Nat → Nat), x.1 = zB m ∧ FC 142 I x.2 ∧ FD x.2 w h D1 ∧ sndD w h K s D1 ∧ (∀ p, D1 p ≤ D0 p) ∧ (m = false → D1 = D0 ∧ (∀ c, c < w * h → ∀ e, e < w * h → adj (pl w c) (pl w e) → K (pl w e) ≠ 4 → D0 (pl w e) ≤ D0 (pl w c) + 100 * cst K (pl w e) + 1)) ∧ (m = true → fb_sm D1 48 < fb_sm D0 48)) (fun i x hi hx => by
    obtain ⟨m, J⟩ := x
    obtain ⟨m, D1, rfl, F, M1, S1, l1, h1, h2⟩ := hx
    dsimp only at F M1 ⊢
    have RJ := R.fc F (by omega)
    have GJ := G.fc F (by omega)
    obtain ⟨m2, J2, D2, e2, F2, M2, S2, l2, h3, h4⟩ := r_lays_d RJ GJ hl L M1 S1 hi m
    unfold FX12_laysWays_s73
    simp (disch := omega) only [zlet, obind, zI_lit, zI_neg, zI_add, zI_sub, zI_mul, zI_div, zI_le, zI_lt, zI_eq, zI_cl, irem, ile_t, ile_f, ilt_t, ilt_f, ieq_t, ieq_f, and_true, true_and, and_false, false_and, and_self, not_true_eq_false, not_false_eq_true, ↓reduceIte, Int.toNat_natCast, tqb_z, tqb_t, tqb_f, r_many RJ]
    refine Or.inl ⟨(zB m2, J2), (congrArg (fun o => Option.bind o _) e2).trans (obind _ _), m2, D2, rfl, F.tr F2, M2, S2, fun p => Nat.le_trans (l2 p) (l1 p), fun q => ?_, fun q => ?_⟩
    · obtain ⟨q1, q2, q3⟩ := h3 q
      obtain ⟨q4, q5⟩ := h1 q1
      refine ⟨q2.trans q4, fun c hc => ?_⟩
      by_cases q6 : c = i
      · rw [q6]
        rw [q4] at q3
        exact q3
      · exact q5 c (by omega)
    · have i1 := fb_sm_le (f := D2) (g := D1) (n := 48) (fun p _ => l2 p)
      have i2 := fb_sm_le (f := D1) (g := D0) (n := 48) (fun p _ => l1 p)
      rcases h4 q with q1 | q1
      · have h5 := h2 q1
        omega
      · omega) (fun x hx => by
    have hx2 := hx
    obtain ⟨m, D1, -, F, -⟩ := hx2
    have RJ := R.fc F (by omega)
    unfold FX12_laysWays_s73
    simp (disch := omega) only [zlet, obind, zI_lit, zI_neg, zI_add, zI_sub, zI_mul, zI_div, zI_le, zI_lt, zI_eq, zI_cl, irem, ile_t, ile_f, ilt_t, ilt_f, ieq_t, ieq_f, and_true, true_and, and_false, false_and, and_self, not_true_eq_false, not_false_eq_true, ↓reduceIte, Int.toNat_natCast, tqb_z, tqb_t, tqb_f, r_many RJ]
    exact ⟨_, rfl, hx⟩) 0 (zB false, I) (by omega) (by omega) ⟨false, D0, rfl, FC.rf, M, S0, fun _ => Nat.le_refl _, fun _ => ⟨rfl, fun c hc => absurd hc (Nat.not_lt_zero c)⟩, fun q => (by cases q)⟩
  obtain ⟨⟨b1, b2⟩, e, m1, D1, rfl, F, M1, S1, l1, h1, h2⟩ := key
  refine ⟨m1, b2, D1, e, F, M1, S1, l1, fun q => ?_, h2⟩
  obtain ⟨q1, q2⟩ := h1 q
  refine ⟨q1, fun q p aq ap a ha => ?_⟩
  have := q2 (cl w q) (cl_lt k aq) (cl w p) (cl_lt k ap) (by rw [pl_cl k aq, pl_cl k ap]; exact a) (by rw [pl_cl k ap]; exact ha)
  rw [pl_cl k ap, pl_cl k aq] at this
  exact this
