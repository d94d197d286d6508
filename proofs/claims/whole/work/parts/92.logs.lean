/-! LOGS: what is sure, and which fits come where. -/
def Sur (g : Nat → Nat) (F : Nat → Bool) (n : Nat) (v : Int) : Prop := (v = -1 ∧ ∀ c, c < n → F c = false) ∨ (∃ d, d < n ∧ F d = true ∧ v = (g d : Nat) ∧ ∀ c, c < n → F c = true → g c = g d) ∨ (v = -2 ∧ ∃ c d, c < n ∧ d < n ∧ F c = true ∧ F d = true ∧ g c ≠ g d)
theorem Sur_f {g : Nat → Nat} {F : Nat → Bool} {n : Nat} {v : Int} (a : Sur g F n v) (hF : F n = false) : Sur g F (n + 1) v := by
  have st : ∀ c, c < n + 1 → F c = true → c < n := fun c hc h => by
    by_cases e : c = n
    · subst e; rw [hF] at h; cases h
    · omega
  rcases a with ⟨rfl, a⟩ | ⟨d, d1, d2, rfl, a⟩ | ⟨rfl, c, d, h1, h2, h3, h4, h5⟩
  · refine Or.inl ⟨rfl, fun c hc => ?_⟩
    by_cases e : c = n
    · subst e; exact hF
    · exact a c (by omega)
  · exact Or.inr (Or.inl ⟨d, by omega, d2, rfl, fun c hc hf => a c (st c hc hf) hf⟩)
  · exact Or.inr (Or.inr ⟨rfl, c, d, by omega, by omega, h3, h4, h5⟩)
theorem Sur_t {g : Nat → Nat} {F : Nat → Bool} {n : Nat} {v : Int} (a : Sur g F n v) (hF : F n = true) : Sur g F (n + 1) (if fb_ct F n = 0 ∨ v = (g n : Nat) then ((g n : Nat) : Int) else -2) := by
  rcases a with ⟨rfl, a⟩ | ⟨d, d1, d2, rfl, a⟩ | ⟨rfl, c, d, h1, h2, h3, h4, h5⟩
  · rw [if_pos (Or.inl (fb_ct_zero.2 a))]
    refine Or.inr (Or.inl ⟨n, by omega, hF, rfl, fun c hc hf => ?_⟩)
    by_cases e : c = n
    · rw [e]
    · rw [a c (by omega)] at hf; cases hf
  · have z : ¬ fb_ct F n = 0 := fun z => by rw [fb_ct_zero.1 z d d1] at d2; cases d2
    by_cases e : g d = g n
    · rw [if_pos (Or.inr (by rw [e]))]
      refine Or.inr (Or.inl ⟨n, by omega, hF, rfl, fun c hc hf => ?_⟩)
      by_cases e2 : c = n
      · rw [e2]
      · rw [a c (by omega) hf, e]
    · rw [if_neg (by rintro (h | h) <;> omega)]
      exact Or.inr (Or.inr ⟨rfl, d, n, by omega, by omega, d2, hF, e⟩)
  · have z : ¬ fb_ct F n = 0 := fun z => by rw [fb_ct_zero.1 z d h2] at h4; cases h4
    rw [if_neg (by rintro (h | h) <;> omega)]
    exact Or.inr (Or.inr ⟨rfl, c, d, by omega, by omega, h3, h4, h5⟩)
/-- what is the same of all that fit -/
def Sre (g : Nat → Nat) (F : Nat → Bool) (n : Nat) (v : Int) : Prop := (∃ d, d < n ∧ F d = true ∧ v = (g d : Nat) ∧ ∀ c, c < n → F c = true → g c = g d) ∨ (v = -1 ∧ ¬ ∃ d, d < n ∧ F d = true ∧ ∀ c, c < n → F c = true → g c = g d)
theorem Sre_one {g : Nat → Nat} {F : Nat → Bool} {n : Nat} {v u : Int} (a : Sre g F n v) (b : Sre g F n u) : v = u := by
  rcases a with ⟨d, d1, d2, rfl, a⟩ | ⟨rfl, a⟩
  · rcases b with ⟨e, e1, e2, rfl, b⟩ | ⟨rfl, b⟩
    · rw [a e e1 e2]
    · exact absurd ⟨d, d1, d2, a⟩ b
  · rcases b with ⟨e, e1, e2, rfl, b⟩ | ⟨rfl, b⟩
    · exact absurd ⟨e, e1, e2, b⟩ a
    · rfl
theorem Sur_sre {g : Nat → Nat} {F : Nat → Bool} {n : Nat} {v : Int} (a : Sur g F n v) : Sre g F n (if 0 ≤ v then v else -1) := by
  rcases a with ⟨rfl, a⟩ | ⟨d, d1, d2, rfl, a⟩ | ⟨rfl, c, d, h1, h2, h3, h4, h5⟩
  · rw [if_neg (by omega)]
    exact Or.inr ⟨rfl, fun ⟨d, d1, d2, _⟩ => by rw [a d d1] at d2; cases d2⟩
  · rw [if_pos (by omega)]
    exact Or.inl ⟨d, d1, d2, rfl, a⟩
  · rw [if_neg (by omega)]
    exact Or.inr ⟨rfl, fun ⟨e, e1, e2, q⟩ => h5 ((q c h1 h3).trans (q d h2 h4).symm)⟩
theorem ct_one {P : Nat → Bool} {n : Nat} : fb_ct P n = 1 ↔ ∃ p, p < n ∧ P p = true ∧ ∀ q, q < n → P q = true → q = p := by
  constructor
  · intro h
    obtain ⟨p, hp, e⟩ := fb_ct_pos.1 (by omega : 0 < fb_ct P n)
    refine ⟨p, hp, e, fun q hq eq => ?_⟩
    have u := fb_ct_upd P false hp
    rw [e, h] at u
    simp only [if_true, Bool.false_eq_true, if_false] at u
    have z := fb_ct_zero.1 (by omega : fb_ct (fun k => if k = p then false else P k) n = 0) q hq
    by_cases r : q = p
    · exact r
    · simp only [r, if_false] at z
      rw [z] at eq; cases eq
  · rintro ⟨p, hp, e, h⟩
    have u := fb_ct_upd P false hp
    have z : fb_ct (fun k => if k = p then false else P k) n = 0 := fb_ct_zero.2 fun q hq => by
      by_cases r : q = p
      · simp [r]
      · simp only [r, if_false]
        cases eq : P q with
        | false => rfl
        | true => exact absurd (h q hq eq) r
    rw [z, e] at u
    simp only [if_true, Bool.false_eq_true, if_false] at u
    omega
theorem low_ct : ∀ p : Nat, p < 64 → fb_ct (bb (((1 : Int64) <<< (Int32.toInt64 (zI (p : Int)) &&& 63)) - (1 : Int64))) 64 = p := by decide +kernel
section LS
variable {I : tq_PI} {M : tq_PL} {F : Nat → Bool}
theorem c_sureCell (G : GA M F) : ∃ v, FX2_sureCell I M 49 = some (zI v) ∧ Sre (fun c => c / 9) F n432 v := by
  obtain ⟨y, e, hy⟩ := it_for (f := fun p : Int64 × Int32 => FX2_sureCell_s4 I M 49 p.1 p.2) (fun k (x : Int64) => (x, zI (k : Int))) 10 (fun k x => 1 ≤ k ∧ ∀ p, bb x p = true ↔ ∃ c, c < n432 ∧ F c = true ∧ c / 9 = p ∧ c % 9 + 1 < k) (Post := fun x => ∀ p, bb x p = true ↔ ∃ c, c < n432 ∧ F c = true ∧ c / 9 = p) (fun k x hk hx => by
    obtain ⟨h1, h2⟩ := hx
    obtain ⟨s, rfl⟩ : ∃ s, k = s + 1 := ⟨k - 1, by omega⟩
    refine Or.inl ⟨x ||| M 50 (s + 1), ?_, by omega, fun p => ?_⟩
    · unfold FX2_sureCell_s4
      simp (disch := omega) only [zlet, obind, zI_lit, zI_neg, zI_add, zI_sub, zI_mul, zI_div, zI_le, zI_lt, zI_eq, zI_cl, irem, ile_t, ile_f, ilt_t, ilt_f, ieq_t, ieq_f, and_true, true_and, and_false, false_and, and_self, not_true_eq_false, not_false_eq_true, ↓reduceIte, Int.toNat_natCast, tqb_z, tqb_t, tqb_f, rg_49_0]
      rfl
    · have nn := n432_e
      rw [bb_or, G s (by omega) p, Bool.or_eq_true, h2 p]
      simp only [Bool.and_eq_true, decide_eq_true_eq]
      constructor
      · rintro (⟨c, c1, c2, c3, c4⟩ | ⟨h3, h4⟩)
        · exact ⟨c, c1, c2, c3, by omega⟩
        · exact ⟨9 * p + s, by omega, h4, by omega, by omega⟩
      · rintro ⟨c, c1, c2, c3, c4⟩
        by_cases q : c % 9 = s
        · refine Or.inr ⟨by omega, ?_⟩
          rw [show 9 * p + s = c by omega]; exact c2
        · exact Or.inl ⟨c, c1, c2, c3, by omega⟩) (fun x hx => ⟨x, by
    unfold FX2_sureCell_s4
    simp (disch := omega) only [zlet, obind, zI_lit, zI_neg, zI_add, zI_sub, zI_mul, zI_div, zI_le, zI_lt, zI_eq, zI_cl, irem, ile_t, ile_f, ilt_t, ilt_f, ieq_t, ieq_f, and_true, true_and, and_false, false_and, and_self, not_true_eq_false, not_false_eq_true, ↓reduceIte, Int.toNat_natCast, tqb_z, tqb_t, tqb_f], fun p => by
      rw [hx.2 p]
      constructor
      · rintro ⟨c, c1, c2, c3, c4⟩; exact ⟨c, c1, c2, c3⟩
      · rintro ⟨c, c1, c2, c3⟩; exact ⟨c, c1, c2, c3, by omega⟩⟩) 1 0 (by omega) (by omega) ⟨by omega, fun p => by
      rw [bb_0]
      constructor
      · intro h; cases h
      · rintro ⟨c, c1, c2, c3, c4⟩; omega⟩
  have e' : tq_it (fun p : Int64 × Int32 => FX2_sureCell_s4 I M 49 p.1 p.2) tq_N ((0 : Int64), (1 : Int32)) = some y := e
  have nn := n432_e
  unfold FX2_sureCell
  rw [e', obind, zlet, bc_eq, show (1 : Int32) = zI 1 from rfl]
  have hl := fb_ct_le (bb y) 64
  by_cases q : fb_ct (bb y) 64 = 1
  · obtain ⟨p, hp, hb, hu⟩ := ct_one.1 q
    have ey : y = (1 : Int64) <<< (Int32.toInt64 (zI (p : Int)) &&& 63) := bb_ext fun r hr => by
      rw [bb_one (by omega), Int.toNat_natCast]
      by_cases s : r = p
      · rw [s, hb, decide_eq_true rfl]
      · rw [decide_eq_false s]
        cases eq : bb y r with
        | false => rfl
        | true => exact absurd (hu r hr eq) s
    obtain ⟨d, d1, d2, d3⟩ := (hy p).1 hb
    refine ⟨(p : Int), ?_, Or.inl ⟨d, d1, d2, by dsimp only; omega, fun c hc hf => ?_⟩⟩
    · rw [if_pos (by rw [q]; rfl), zlet, bc_eq, ey, low_ct p hp]
    · have := hu (c / 9) (by omega) ((hy (c / 9)).2 ⟨c, hc, hf, rfl⟩)
      dsimp only
      omega
  · refine ⟨-1, ?_, Or.inr ⟨rfl, fun ⟨d, d1, d2, h⟩ => q (ct_one.2 ⟨d / 9, by omega, (hy _).2 ⟨d, d1, d2, rfl⟩, fun r hr hb => ?_⟩)⟩⟩
    · rw [if_neg]
      · rfl
      · rw [zI_eq (by omega) (by omega)]; omega
    · obtain ⟨c, c1, c2, c3⟩ := (hy r).1 hb
      have := h c c1 c2
      dsimp only at this
      omega
theorem ga_0 (G : GA M F) {s : Nat} (hs : s < 9) : (M 50 (s + 1) = 0) = ∀ c, c < n432 → F c = true → c % 9 ≠ s := by
  have nn := n432_e
  apply propext
  rw [bb_eq0]
  constructor
  · intro h c hc hf e
    have := h (c / 9) (by omega)
    rw [G s hs, decide_eq_true (by omega), show 9 * (c / 9) + s = c by omega, hf] at this
    cases this
  · intro h p hp
    rw [G s hs]
    by_cases q : p < 48
    · cases e : F (9 * p + s) with
      | false => simp
      | true => exact absurd (by omega) (h (9 * p + s) (by omega) e)
    · simp [q]
theorem c_sureStrength (G : GA M F) : ∃ v, FX2_sureStrength I M 49 = some (zI v) ∧ Sre (fun c => c % 9 + 1) F n432 v := by
  obtain ⟨b, e, v, hb, hv⟩ := it_for (f := fun p : Int32 × Int32 => FX2_sureStrength_s4 I M 49 p.1 p.2) (fun k (x : Int) => (zI x, zI (k : Int))) 10 (fun k x => 1 ≤ k ∧ (-1 ≤ x ∧ x ≤ 9) ∧ ((x = -1 ∧ ∀ c, c < n432 → F c = true → k ≤ c % 9 + 1) ∨ ∃ d, d < n432 ∧ F d = true ∧ x = ((d % 9 + 1 : Nat) : Int) ∧ d % 9 + 1 < k ∧ ∀ c, c < n432 → F c = true → c % 9 + 1 < k → c % 9 = d % 9)) (Post := fun b => ∃ v, b.elim (fun t => some t) (fun t => some t) = some (zI v) ∧ Sre (fun c => c % 9 + 1) F n432 v) (fun k x hk hx => by
    obtain ⟨h1, hr, h2⟩ := hx
    obtain ⟨s, rfl⟩ : ∃ s, k = s + 1 := ⟨k - 1, by omega⟩
    unfold FX2_sureStrength_s4 FX2_sureStrength_j33L4
    simp (disch := omega) only [zlet, obind, zI_lit, zI_neg, zI_add, zI_sub, zI_mul, zI_div, zI_le, zI_lt, zI_eq, zI_cl, irem, ile_t, ile_f, ilt_t, ilt_f, ieq_t, ieq_f, and_true, true_and, and_false, false_and, and_self, not_true_eq_false, not_false_eq_true, ↓reduceIte, Int.toNat_natCast, tqb_z, tqb_t, tqb_f, rg_49_0, lgz, ga_0 G (by omega : s < 9)]
    by_cases q : ∀ c, c < n432 → F c = true → c % 9 ≠ s
    · rw [if_pos q]
      refine Or.inl ⟨x, rfl, by omega, hr, ?_⟩
      rcases h2 with ⟨rfl, h2⟩ | ⟨d, d1, d2, d3, d4, h2⟩
      · exact Or.inl ⟨rfl, fun c hc hf => by have := q c hc hf; have := h2 c hc hf; omega⟩
      · exact Or.inr ⟨d, d1, d2, d3, by omega, fun c hc hf hl => h2 c hc hf (by have := q c hc hf; omega)⟩
    · rw [if_neg q]
      obtain ⟨c0, c1, c2, c3⟩ : ∃ c, c < n432 ∧ F c = true ∧ c % 9 = s := Classical.byContradiction fun n => q fun c hc hf e => n ⟨c, hc, hf, e⟩
      rcases h2 with ⟨rfl, h2⟩ | ⟨d, d1, d2, d3, d4, h2⟩
      · rw [if_pos rfl]
        refine Or.inl ⟨((s + 1 : Nat) : Int), rfl, by omega, by omega, Or.inr ⟨c0, c1, c2, by omega, by omega, fun c hc hf hl => ?_⟩⟩
        have := h2 c hc hf
        omega
      · rw [if_neg (by omega)]
        refine Or.inr ⟨_, rfl, -1, rfl, Or.inr ⟨rfl, fun ⟨e, e1, e2, h⟩ => ?_⟩⟩
        have := h d d1 d2
        have := h c0 c1 c2
        dsimp only at *
        omega) (fun x hx => by
    obtain ⟨h1, hr, h2⟩ := hx
    unfold FX2_sureStrength_s4
    simp (disch := omega) only [zlet, obind, zI_lit, zI_neg, zI_add, zI_sub, zI_mul, zI_div, zI_le, zI_lt, zI_eq, zI_cl, irem, ile_t, ile_f, ilt_t, ilt_f, ieq_t, ieq_f, and_true, true_and, and_false, false_and, and_self, not_true_eq_false, not_false_eq_true, ↓reduceIte, Int.toNat_natCast, tqb_z, tqb_t, tqb_f]
    refine ⟨_, rfl, x, rfl, ?_⟩
    rcases h2 with ⟨rfl, h2⟩ | ⟨d, d1, d2, d3, d4, h2⟩
    · exact Or.inr ⟨rfl, fun ⟨e, e1, e2, h⟩ => by have := h2 e e1 e2; omega⟩
    · exact Or.inl ⟨d, d1, d2, d3, fun c hc hf => by have := h2 c hc hf (by omega); dsimp only; omega⟩) 1 (-1) (by omega) (by omega) ⟨by omega, by omega, Or.inl ⟨rfl, fun c _ _ => by omega⟩⟩
  refine ⟨v, ?_, hv⟩
  have e' : tq_it (fun p : Int32 × Int32 => FX2_sureStrength_s4 I M 49 p.1 p.2) tq_N ((-1 : Int32), (1 : Int32)) = some b := e
  unfold FX2_sureStrength
  rw [e', obind]
  exact hb
end LS
