/-! LOGS: near and what fits by the class; the query within. -/
theorem dis_step {p q i : Nat} (hp : p < 48) (hq : q < 48) : dis p q ≤ i + 1 ↔ dis p q ≤ i ∨ ∃ r, (r < 48 ∧ dis r q ≤ i) ∧ adj r p := by
  constructor
  · intro h
    by_cases e : dis p q ≤ i
    · exact Or.inl e
    · refine Or.inr ?_
      unfold adj dis at *
      by_cases a : p % 8 < q % 8
      · exact ⟨p + 1, by omega, by omega⟩
      · by_cases b : q % 8 < p % 8
        · exact ⟨p - 1, by omega, by omega⟩
        · by_cases c : p / 8 < q / 8
          · exact ⟨p + 8, by omega, by omega⟩
          · exact ⟨p - 8, by omega, by omega⟩
  · rintro (h | ⟨r, ⟨h1, h2⟩, h3⟩)
    · omega
    · unfold adj dis at *
      rcases h3 with ⟨rfl, e⟩ | ⟨rfl, e⟩ | rfl | rfl <;> omega
theorem c_ring (I : tq_PI) (L : tq_PL) {x : Int64} {q i : Nat} (hq : q < 48) (hx : ∀ p, bb x p = decide (p < 48 ∧ dis p q ≤ i)) (p : Nat) : bb (x ||| (FX11_nextTo I L x &&& (281474976710655 : Int64))) p = decide (p < 48 ∧ dis p q ≤ i + 1) := by
  rw [bb_or, bb_and, bb_widest]
  by_cases hp : p < 48
  · rw [c_nxt x hp, hx p, Bool.eq_iff_iff]
    simp only [Bool.or_eq_true, Bool.and_eq_true, decide_eq_true_eq, nxt_iff, hx, hp, true_and, and_true]
    exact (dis_step hp hq).symm
  · simp [hp, hx p]
theorem c_near (I : tq_PI) (L : tq_PL) {q : Nat} (hq : q < 48) {z : Int} (hz : -100 ≤ z ∧ z < 100) : ∃ y, FX2_near I L (zI (q : Int)) (zI z) = some y ∧ ∀ p, bb y p = decide (p < 48 ∧ (dis p q : Int) ≤ z) := by
  by_cases z0 : z < 0
  · refine ⟨0, ?_, fun p => ?_⟩
    · have e : tq_it (fun p : Int64 × Int32 => FX2_near_s25 I L (zI z) p.1 p.2) tq_N ((0 : Int64), (0 : Int32)) = some 0 := by
        obtain ⟨b, e, rfl⟩ := it_for (f := fun p : Int64 × Int32 => FX2_near_s25 I L (zI z) p.1 p.2) (fun k (s : Int64) => (s, zI (k : Int))) 0 (fun k s => s = 0) (Post := fun b => b = 0) (fun k s hk => absurd hk (by omega)) (fun s hs => ⟨0, by
          subst hs
          unfold FX2_near_s25
          simp (disch := omega) only [zlet, obind, zI_lit, zI_neg, zI_add, zI_sub, zI_mul, zI_div, zI_le, zI_lt, zI_eq, zI_cl, irem, ile_t, ile_f, ilt_t, ilt_f, ieq_t, ieq_f, and_true, true_and, and_false, false_and, and_self, not_true_eq_false, not_false_eq_true, ↓reduceIte, Int.toNat_natCast, tqb_z, tqb_t, tqb_f], rfl⟩) 0 0 (by omega) (by omega) rfl
        exact e
      unfold FX2_near FX2_near_j14 FX2_near_j21
      rw [e]
      simp (disch := omega) only [zlet, obind, zI_lit, zI_neg, zI_add, zI_sub, zI_mul, zI_div, zI_le, zI_lt, zI_eq, zI_cl, irem, ile_t, ile_f, ilt_t, ilt_f, ieq_t, ieq_f, and_true, true_and, and_false, false_and, and_self, not_true_eq_false, not_false_eq_true, ↓reduceIte, Int.toNat_natCast, tqb_z, tqb_t, tqb_f]
    · rw [bb_0]
      symm
      rw [decide_eq_false_iff_not]
      omega
  · obtain ⟨y, e, hy⟩ := it_for (f := fun p : Int64 × Int32 => FX2_near_s25 I L (zI z) p.1 p.2) (fun k (s : Int64) => (s, zI (k : Int))) 12 (fun k s => (k : Int) ≤ z ∧ ∀ p, bb s p = decide (p < 48 ∧ dis p q ≤ k)) (Post := fun y => ∀ p, bb y p = decide (p < 48 ∧ (dis p q : Int) ≤ z)) (fun k s hk hs => by
      obtain ⟨h1, h2⟩ := hs
      by_cases e : z = k
      · subst e
        refine Or.inr ⟨s, ?_, fun p => ?_⟩
        · unfold FX2_near_s25
          simp (disch := omega) only [zlet, obind, zI_lit, zI_neg, zI_add, zI_sub, zI_mul, zI_div, zI_le, zI_lt, zI_eq, zI_cl, irem, ile_t, ile_f, ilt_t, ilt_f, ieq_t, ieq_f, and_true, true_and, and_false, false_and, and_self, not_true_eq_false, not_false_eq_true, ↓reduceIte, Int.toNat_natCast, tqb_z, tqb_t, tqb_f]
        · rw [h2 p]
          simp only [Int.ofNat_le]
      · refine Or.inl ⟨s ||| (FX11_nextTo I L s &&& (281474976710655 : Int64)), ?_, by omega, fun p => c_ring I L hq h2 p⟩
        unfold FX2_near_s25
        simp (disch := omega) only [zlet, obind, zI_lit, zI_neg, zI_add, zI_sub, zI_mul, zI_div, zI_le, zI_lt, zI_eq, zI_cl, irem, ile_t, ile_f, ilt_t, ilt_f, ieq_t, ieq_f, and_true, true_and, and_false, false_and, and_self, not_true_eq_false, not_false_eq_true, ↓reduceIte, Int.toNat_natCast, tqb_z, tqb_t, tqb_f]
        rfl) (fun s hs => by
      refine ⟨s, ?_, fun p => ?_⟩
      · unfold FX2_near_s25
        simp (disch := omega) only [zlet, obind, zI_lit, zI_neg, zI_add, zI_sub, zI_mul, zI_div, zI_le, zI_lt, zI_eq, zI_cl, irem, ile_t, ile_f, ilt_t, ilt_f, ieq_t, ieq_f, and_true, true_and, and_false, false_and, and_self, not_true_eq_false, not_false_eq_true, ↓reduceIte, Int.toNat_natCast, tqb_z, tqb_t, tqb_f]
        by_cases e : z ≤ 12
        · simp (disch := omega) only [zlet, obind, zI_lit, zI_neg, zI_add, zI_sub, zI_mul, zI_div, zI_le, zI_lt, zI_eq, zI_cl, irem, ile_t, ile_f, ilt_t, ilt_f, ieq_t, ieq_f, and_true, true_and, and_false, false_and, and_self, not_true_eq_false, not_false_eq_true, ↓reduceIte, Int.toNat_natCast, tqb_z, tqb_t, tqb_f]
        · simp (disch := omega) only [zlet, obind, zI_lit, zI_neg, zI_add, zI_sub, zI_mul, zI_div, zI_le, zI_lt, zI_eq, zI_cl, irem, ile_t, ile_f, ilt_t, ilt_f, ieq_t, ieq_f, and_true, true_and, and_false, false_and, and_self, not_true_eq_false, not_false_eq_true, ↓reduceIte, Int.toNat_natCast, tqb_z, tqb_t, tqb_f]
      · rw [hs.2 p]
        by_cases hp : p < 48
        · have := dis_le hp hq
          have := hs.1
          rw [decide_eq_true (by omega), decide_eq_true (by omega)]
        · rw [decide_eq_false (by omega), decide_eq_false (by omega)]) 0 ((1 : Int64) <<< (Int32.toInt64 (zI (q : Int)) &&& 63)) (by omega) (by omega) ⟨by omega, fun p => by
      rw [bb_one (by omega), Int.toNat_natCast]
      by_cases e : p = q
      · subst e
        rw [decide_eq_true rfl, decide_eq_true ⟨hq, by unfold dis; omega⟩]
      · rw [decide_eq_false e, decide_eq_false]
        unfold dis
        omega⟩
    refine ⟨y, ?_, hy⟩
    have e' : tq_it (fun p : Int64 × Int32 => FX2_near_s25 I L (zI z) p.1 p.2) tq_N ((1 : Int64) <<< (Int32.toInt64 (zI (q : Int)) &&& 63), (0 : Int32)) = some y := e
    unfold FX2_near FX2_near_j21
    rw [e']
    simp (disch := omega) only [zlet, obind, zI_lit, zI_neg, zI_add, zI_sub, zI_mul, zI_div, zI_le, zI_lt, zI_eq, zI_cl, irem, ile_t, ile_f, ilt_t, ilt_f, ieq_t, ieq_f, and_true, true_and, and_false, false_and, and_self, not_true_eq_false, not_false_eq_true, ↓reduceIte, Int.toNat_natCast, tqb_z, tqb_t, tqb_f]
theorem hrs_ps {p s q : Nat} (hs : s < 9) : hrs (9 * p + s) q = s + 1 - dis p q := by
  unfold hrs
  rw [show (9 * p + s) % 9 = s by omega, show (9 * p + s) / 9 = p by omega]
theorem c_hfrom (I : tq_PI) (L : tq_PL) {q h s : Nat} (hq : q < 48) (hh : h ≤ 9) (hs : s < 9) : ∃ y, FX2_heardFrom I L (zI (q : Int)) (zI (h : Int)) (zI ((s + 1 : Nat) : Int)) = some y ∧ ∀ p, bb y p = (decide (p < 48) && decide (hrs (9 * p + s) q = h)) := by
  by_cases h0 : h = 0
  · subst h0
    obtain ⟨y, e, hy⟩ := c_near I L hq (z := ((s + 1 : Nat) : Int) - 1) (by omega)
    refine ⟨(281474976710655 : Int64) &&& (y ^^^ (-1 : Int64)), ?_, fun p => ?_⟩
    · unfold FX2_heardFrom
      simp (disch := omega) only [zlet, obind, zI_lit, zI_neg, zI_add, zI_sub, zI_mul, zI_div, zI_le, zI_lt, zI_eq, zI_cl, irem, ile_t, ile_f, ilt_t, ilt_f, ieq_t, ieq_f, and_true, true_and, and_false, false_and, and_self, not_true_eq_false, not_false_eq_true, ↓reduceIte, Int.toNat_natCast, tqb_z, tqb_t, tqb_f, e]
    · rw [bb_and, bb_widest, bb_not, hy p, hrs_ps hs]
      by_cases hp : p < 48
      · rw [decide_eq_true hp, decide_eq_true (by omega : p < 64), Bool.true_and, Bool.true_and, Bool.true_and]
        by_cases e : dis p q ≤ s
        · rw [decide_eq_true (by omega), decide_eq_false (by omega)]; rfl
        · rw [decide_eq_false (by omega), decide_eq_true (by omega)]; rfl
      · rw [decide_eq_false hp]; rfl
  · obtain ⟨y, e, hy⟩ := c_near I L hq (z := ((s + 1 : Nat) : Int) - h) (by omega)
    obtain ⟨y2, e2, hy2⟩ := c_near I L hq (z := ((s + 1 : Nat) : Int) - h - 1) (by omega)
    refine ⟨y &&& (y2 ^^^ (-1 : Int64)), ?_, fun p => ?_⟩
    · unfold FX2_heardFrom
      simp (disch := omega) only [zlet, obind, zI_lit, zI_neg, zI_add, zI_sub, zI_mul, zI_div, zI_le, zI_lt, zI_eq, zI_cl, irem, ile_t, ile_f, ilt_t, ilt_f, ieq_t, ieq_f, and_true, true_and, and_false, false_and, and_self, not_true_eq_false, not_false_eq_true, ↓reduceIte, Int.toNat_natCast, tqb_z, tqb_t, tqb_f, e, e2]
    · rw [bb_and, bb_not, hy p, hy2 p, hrs_ps hs]
      by_cases hp : p < 48
      · rw [decide_eq_true hp, decide_eq_true (by omega : p < 64), Bool.true_and, Bool.true_and]
        by_cases e1 : (dis p q : Int) ≤ ((s + 1 : Nat) : Int) - h
        · by_cases e2 : (dis p q : Int) ≤ ((s + 1 : Nat) : Int) - h - 1
          · rw [decide_eq_true ⟨hp, e1⟩, decide_eq_true ⟨hp, e2⟩, decide_eq_false (by omega)]; rfl
          · rw [decide_eq_true ⟨hp, e1⟩, decide_eq_false (by omega), decide_eq_true (by omega)]; rfl
        · rw [decide_eq_false (by omega : ¬ (p < 48 ∧ (dis p q : Int) ≤ ((s + 1 : Nat) : Int) - h)), decide_eq_false (by omega), decide_eq_false (by omega)]; rfl
      · rw [decide_eq_false hp, decide_eq_false (fun k => hp k.1)]; rfl
