/-! PROPS: one or two props on air, by the class. -/
def two (n q r : Nat) (y : Nat) : Bool := (decide (1 ≤ n) && decide (y = q)) || (decide (2 ≤ n) && decide (y = r))
theorem ct_eq1 (q : Nat) : ∀ n, fb_ct (fun y => decide (y = q)) n = if q < n then 1 else 0
  | 0 => by simp; rfl
  | n + 1 => by
    rw [fb_ct_succ, ct_eq1 q n]
    by_cases e : n = q
    · simp [e]
    · simp [e]
      split <;> split <;> omega
theorem ct_two {n q r : Nat} (hn : n ≤ 2) (hq : 2 ≤ n → q < r) (m : Nat) : fb_ct (two n q r) m = (if 1 ≤ n ∧ q < m then 1 else 0) + (if 2 ≤ n ∧ r < m then 1 else 0) := by
  rcases (by omega : n = 0 ∨ n = 1 ∨ n = 2) with rfl | rfl | rfl
  · have : two 0 q r = fun _ => false := funext fun y => by simp [two]
    rw [this]
    simp
    exact fb_ct_zero.2 fun _ _ => rfl
  · have : two 1 q r = fun y => decide (y = q) := funext fun y => by simp [two]
    rw [this, ct_eq1]
    simp
  · have : two 2 q r = fun y => decide (y = q) || decide (y = r) := funext fun y => by simp [two]
    rw [this, fb_ct_or (fun k _ => by simp; have := hq (by omega); omega), ct_eq1, ct_eq1]
    simp
def tw_at (n w q r : Nat) (z : Int) : Int := if z = 0 ∧ 1 ≤ n then (cl w q : Nat) else if z = 1 ∧ 2 ≤ n then (cl w r : Nat) else -1
theorem c_pick_two {I : tq_PI} {L : tq_PL} {a w h : Nat} {K : Nat → Nat} (H : HC I L a w h K) {x : Int64} {n q r : Nat} (hx : bb x = two n q r) (hn : n ≤ 2) (hq : 2 ≤ n → q < r) (h1 : 1 ≤ n → q < 48) (h2 : 2 ≤ n → r < 48) {z : Int} (hz : -2147483648 ≤ z ∧ z < 2147483648) : FX3_pick I L a x (zI z) = some (zI (tw_at n w q r z)) := by
  unfold tw_at
  by_cases e0 : z = 0 ∧ 1 ≤ n
  · rw [if_pos e0]
    have := h1 e0.2
    have p := c_pick_t H hx (p := q) (by simp [two, e0.2]) (by omega)
    rw [ct_two hn hq, if_neg (by omega), if_neg (by rintro ⟨a, b⟩; have := hq a; omega)] at p
    rw [e0.1]
    exact p
  · rw [if_neg e0]
    by_cases e1 : z = 1 ∧ 2 ≤ n
    · rw [if_pos e1]
      have h3 := h2 e1.2
      have h4 := hq e1.2
      have p := c_pick_t H hx (p := r) (by simp [two, e1.2]) (by omega)
      rw [ct_two hn hq, if_pos (by omega), if_neg (by omega)] at p
      rw [e1.1]
      exact p
    · rw [if_neg e1, c_pick_f x hz]
      · rfl
      · rw [hx, ct_two hn hq]
        split <;> split <;> omega
theorem kup_comm {K : Nat → Nat} {p q u v : Nat} (h : p ≠ q) : kup (kup K p u) q v = kup (kup K q v) p u := funext fun y => by
  unfold kup
  by_cases e : y = q
  · rw [if_pos e, if_neg (by omega), if_pos e]
  · rw [if_neg e, if_neg e]
theorem bb_sup {x y : Int64} {M : Nat → Nat} {q : Nat} (hx : bb x = sol M) (hy : bb y = fun p => decide (p = q)) : bb (x ||| y) = sol (kup M q 4) := funext fun p => by
  rw [bb_or, hx, hy]
  unfold sol kup
  by_cases e : p = q <;> simp [e]
theorem air_ar {w h : Nat} {K : Nat → Nat} {p : Nat} (q : air w h K p = true) : ar w h p = true := by simp [air] at q; exact q.1
noncomputable def hd1 (w h : Nat) (K M : Nat → Nat) (q : Nat) : Bool := air w h K q && sta h (sol (kup M q 4))
noncomputable def hd2 (w h : Nat) (K M : Nat → Nat) (q r : Nat) : Bool := air w h K q && (air w h K r && sta h (sol (kup (kup M q 4) r 4)))
def PR (w h : Nat) (K M : Nat → Nat) (n q r : Nat) : Prop := (n = 0 ∧ sta h (sol M) = true) ∨ (n = 1 ∧ sta h (sol M) = false ∧ hd1 w h K M q = true ∧ ∀ q2, q2 < q → hd1 w h K M q2 = false) ∨ (n = 2 ∧ sta h (sol M) = false ∧ (∀ q2, hd1 w h K M q2 = false) ∧ q < r ∧ hd2 w h K M q r = true ∧ ∀ q2 r2, q2 < r2 → (q2 < q ∨ (q2 = q ∧ r2 < r)) → hd2 w h K M q2 r2 = false) ∨ (n = 3 ∧ sta h (sol M) = false ∧ (∀ q2, hd1 w h K M q2 = false) ∧ ∀ q2 r2, q2 < r2 → hd2 w h K M q2 r2 = false)
theorem PR_one {w h : Nat} {K M : Nat → Nat} {n q r m s t : Nat} (a : PR w h K M n q r) (b : PR w h K M m s t) : n = m ∧ ((n = 1 ∨ n = 2) → q = s) ∧ (n = 2 → r = t) := by
  rcases a with ⟨rfl, a1⟩ | ⟨rfl, a1, a2, a3⟩ | ⟨rfl, a1, a2, a3, a4, a5⟩ | ⟨rfl, a1, a2, a3⟩ <;> rcases b with ⟨rfl, b1⟩ | ⟨rfl, b1, b2, b3⟩ | ⟨rfl, b1, b2, b3, b4, b5⟩ | ⟨rfl, b1, b2, b3⟩
  · exact ⟨rfl, by omega, by omega⟩
  · rw [a1] at b1; cases b1
  · rw [a1] at b1; cases b1
  · rw [a1] at b1; cases b1
  · rw [a1] at b1; cases b1
  · refine ⟨rfl, fun _ => ?_, by omega⟩
    rcases Nat.lt_trichotomy q s with g | g | g
    · rw [b3 q g] at a2; cases a2
    · exact g
    · rw [a3 s g] at b2; cases b2
  · rw [b2 q] at a2; cases a2
  · rw [b2 q] at a2; cases a2
  · rw [a1] at b1; cases b1
  · rw [a2 s] at b2; cases b2
  · have e1 : ¬ (q < s ∨ (q = s ∧ r < t)) := fun g => by rw [b5 q r a3 g] at a4; cases a4
    have e2 : ¬ (s < q ∨ (s = q ∧ t < r)) := fun g => by rw [a5 s t b3 g] at b4; cases b4
    exact ⟨rfl, by omega, by omega⟩
  · rw [b3 q r a3] at a4; cases a4
  · rw [a1] at b1; cases b1
  · rw [a2 s] at b2; cases b2
  · rw [a3 s t b3] at b4; cases b4
  · exact ⟨rfl, by omega, by omega⟩
section PH
variable {I : tq_PI} {L : tq_PL} {a w h : Nat} {K : Nat → Nat}
theorem c_one (H : HC I L a w h K) (b : Nat) {x : Int64} {M : Nat → Nat} (hx : bb x = sol M) (zM : ∀ p, ar w h p = false → M p = 0) : ∃ o, FX6_holdByOne I L b a x = some o ∧ ((o = (false, L) ∧ ∀ q, hd1 w h K M q = false) ∨ ∃ q y, o = (true, tq_up2 L b 0 y) ∧ q < 48 ∧ bb y = (fun p => decide (p = q)) ∧ hd1 w h K M q = true ∧ ∀ q2, q2 < q → hd1 w h K M q2 = false) := by
  obtain ⟨o, e, ho⟩ := it_for (f := fun p : Int32 => FX6_holdByOne_s3 I L b a x p) (fun i (_ : Unit) => zI (i : Int)) 48 (fun i _ => ∀ q, q < i → hd1 w h K M q = false) (Post := fun o => (o = .inl () ∧ ∀ q, q < 48 → hd1 w h K M q = false) ∨ ∃ q y, o = .inr (true, tq_up2 L b 0 y) ∧ q < 48 ∧ bb y = (fun p => decide (p = q)) ∧ hd1 w h K M q = true ∧ ∀ q2, q2 < q → hd1 w h K M q2 = false) (fun i s hi hs => by
    have hb : bb ((1 : Int64) <<< (Int32.toInt64 (zI (i : Int)) &&& 63)) = fun q => decide (q = i) := funext fun q => by rw [bb_one (by omega)]; simp
    have hn : ∀ v, hd1 w h K M i = v → v = false → ∀ q, q < i + 1 → hd1 w h K M q = false := fun v e1 e2 q hq => by
      by_cases e : q = i
      · rw [e, e1, e2]
      · exact hs q (by omega)
    unfold FX6_holdByOne_s3 FX6_holdByOne_j47L3
    simp (disch := omega) only [zlet, obind, zI_lit, zI_neg, zI_add, zI_sub, zI_mul, zI_div, zI_le, zI_lt, zI_eq, zI_cl, irem, ile_t, ile_f, ilt_t, ilt_f, ieq_t, ieq_f, and_true, true_and, and_false, false_and, and_self, not_true_eq_false, not_false_eq_true, ↓reduceIte, Int.toNat_natCast, tqb_z, tqb_t, tqb_f, lgz, bb_hit hb, c_air H]
    cases ea : air w h K i
    · rw [if_pos rfl]
      exact Or.inl ⟨(), rfl, hn _ rfl (by simp [hd1, ea])⟩
    · rw [if_neg (by simp)]
      have hy := bb_and_one (x := FX3_air I L a) hb (by rw [c_air H]; exact ea)
      have hst := c_stands H (bb_sup hx hy) (fun p q => sol_ar (kup_z zM (Or.inr (air_ar ea))) q)
      rw [hst]
      cases es : sta h (sol (kup M i 4))
      · rw [if_pos rfl]
        exact Or.inl ⟨(), rfl, hn _ rfl (by simp [hd1, es])⟩
      · rw [if_neg (by simp)]
        exact Or.inr ⟨_, rfl, Or.inr ⟨i, _, rfl, hi, hy, by simp [hd1, ea, es], hs⟩⟩) (fun s hs => by
    unfold FX6_holdByOne_s3
    simp (disch := omega) only [zlet, obind, zI_lit, zI_neg, zI_add, zI_sub, zI_mul, zI_div, zI_le, zI_lt, zI_eq, zI_cl, irem, ile_t, ile_f, ilt_t, ilt_f, ieq_t, ieq_f, and_true, true_and, and_false, false_and, and_self, not_true_eq_false, not_false_eq_true, ↓reduceIte, Int.toNat_natCast, tqb_z, tqb_t, tqb_f]
    exact ⟨_, rfl, Or.inl ⟨rfl, hs⟩⟩) 0 () (by omega) (by omega) (fun q hq => absurd hq (Nat.not_lt_zero q))
  unfold FX6_holdByOne
  rw [show (0 : Int32) = zI ((0 : Nat) : Int) from rfl, e, obind]
  rcases ho with ⟨rfl, ho⟩ | ⟨q, y, rfl, ho⟩
  · refine ⟨_, rfl, Or.inl ⟨rfl, fun q => ?_⟩⟩
    by_cases g : q < 48
    · exact ho q g
    · cases ea : air w h K q
      · simp [hd1, ea]
      · exact absurd (air_48 H.k ea) g
  · exact ⟨_, rfl, Or.inr ⟨q, y, rfl, ho⟩⟩
theorem c_two_in (H : HC I L a w h K) (b : Nat) {x y : Int64} {M : Nat → Nat} (hx : bb x = sol M) (zM : ∀ p, ar w h p = false → M p = 0) {i : Nat} (hi : i < 48) (hy : bb y = fun p => air w h K i && decide (p = i)) : ∃ o, tq_it (fun p : Int32 => FX6_holdByTwo_s27 I L b a x (zI (i : Int)) y p) tq_N (zI ((i + 1 : Nat) : Int)) = some o ∧ ((o = .inl () ∧ ∀ r, i < r → hd2 w h K M i r = false) ∨ ∃ r v, o = .inr (true, tq_up2 L b 0 v) ∧ i < r ∧ r < 48 ∧ bb v = two 2 i r ∧ hd2 w h K M i r = true ∧ ∀ r2, i < r2 → r2 < r → hd2 w h K M i r2 = false) := by
  cases ea : air w h K i
  · have y0 : y = 0 := bb_inj (by rw [hy, ea]; funext p; rw [bb_0]; rfl)
    subst y0
    obtain ⟨o, e, ho⟩ := it_for (f := fun p : Int32 => FX6_holdByTwo_s27 I L b a x (zI (i : Int)) 0 p) (fun i (_ : Unit) => zI (i : Int)) 48 (fun _ _ => True) (Post := fun o => o = .inl ()) (fun j s hj hs => by
      unfold FX6_holdByTwo_s27
      simp (disch := omega) only [zlet, obind, zI_lit, zI_neg, zI_add, zI_sub, zI_mul, zI_div, zI_le, zI_lt, zI_eq, zI_cl, irem, ile_t, ile_f, ilt_t, ilt_f, ieq_t, ieq_f, and_true, true_and, and_false, false_and, and_self, not_true_eq_false, not_false_eq_true, ↓reduceIte, Int.toNat_natCast, tqb_z, tqb_t, tqb_f, lgz]
      exact Or.inr ⟨_, rfl, rfl⟩) (fun s hs => by
      unfold FX6_holdByTwo_s27
      simp (disch := omega) only [zlet, obind, zI_lit, zI_neg, zI_add, zI_sub, zI_mul, zI_div, zI_le, zI_lt, zI_eq, zI_cl, irem, ile_t, ile_f, ilt_t, ilt_f, ieq_t, ieq_f, and_true, true_and, and_false, false_and, and_self, not_true_eq_false, not_false_eq_true, ↓reduceIte, Int.toNat_natCast, tqb_z, tqb_t, tqb_f]
      exact ⟨_, rfl, rfl⟩) (i + 1) () (by omega) (by omega) trivial
    exact ⟨o, e, Or.inl ⟨ho, fun r _ => by simp [hd2, ea]⟩⟩
  · rw [ea] at hy
    simp only [Bool.true_and] at hy
    have yn : ¬ y = 0 := fun q => by rw [q] at hy; have := congrFun hy i; rw [bb_0] at this; simp at this
    obtain ⟨o, e, ho⟩ := it_for (f := fun p : Int32 => FX6_holdByTwo_s27 I L b a x (zI (i : Int)) y p) (fun i (_ : Unit) => zI (i : Int)) 48 (fun j _ => i < j ∧ ∀ r, i < r → r < j → hd2 w h K M i r = false) (Post := fun o => (o = .inl () ∧ ∀ r, i < r → r < 48 → hd2 w h K M i r = false) ∨ ∃ r v, o = .inr (true, tq_up2 L b 0 v) ∧ i < r ∧ r < 48 ∧ bb v = two 2 i r ∧ hd2 w h K M i r = true ∧ ∀ r2, i < r2 → r2 < r → hd2 w h K M i r2 = false) (fun j s hj hs => by
      obtain ⟨ij, hs⟩ := hs
      have hb : bb ((1 : Int64) <<< (Int32.toInt64 (zI (j : Int)) &&& 63)) = fun q => decide (q = j) := funext fun q => by rw [bb_one (by omega)]; simp
      have hn : ∀ v, hd2 w h K M i j = v → v = false → i < j + 1 ∧ ∀ q, i < q → q < j + 1 → hd2 w h K M i q = false := fun v e1 e2 => ⟨by omega, fun q hq1 hq => by
        by_cases e : q = j
        · rw [e, e1, e2]
        · exact hs q hq1 (by omega)⟩
      unfold FX6_holdByTwo_s27 FX6_holdByTwo_j84L27
      simp (disch := omega) only [zlet, obind, zI_lit, zI_neg, zI_add, zI_sub, zI_mul, zI_div, zI_le, zI_lt, zI_eq, zI_cl, irem, ile_t, ile_f, ilt_t, ilt_f, ieq_t, ieq_f, and_true, true_and, and_false, false_and, and_self, not_true_eq_false, not_false_eq_true, ↓reduceIte, Int.toNat_natCast, tqb_z, tqb_t, tqb_f, lgz, yn, bb_hit hb, c_air H]
      cases eb : air w h K j
      · rw [if_pos rfl]
        exact Or.inl ⟨(), rfl, hn _ rfl (by simp [hd2, eb])⟩
      · rw [if_neg (by simp)]
        have hy2 := bb_and_one (x := FX3_air I L a) hb (by rw [c_air H]; exact eb)
        have hst := c_stands H (bb_sup (bb_sup hx hy) hy2) (fun p q => sol_ar (kup_z (kup_z zM (Or.inr (air_ar ea))) (Or.inr (air_ar eb))) q)
        rw [hst]
        cases es : sta h (sol (kup (kup M i 4) j 4))
        · rw [if_pos rfl]
          exact Or.inl ⟨(), rfl, hn _ rfl (by simp [hd2, es])⟩
        · rw [if_neg (by simp)]
          refine Or.inr ⟨_, rfl, Or.inr ⟨j, _, rfl, ij, hj, ?_, by simp [hd2, ea, eb, es], hs⟩⟩
          funext p
          rw [bb_or, hy, hy2]
          simp [two]) (fun s hs => by
      unfold FX6_holdByTwo_s27
      simp (disch := omega) only [zlet, obind, zI_lit, zI_neg, zI_add, zI_sub, zI_mul, zI_div, zI_le, zI_lt, zI_eq, zI_cl, irem, ile_t, ile_f, ilt_t, ilt_f, ieq_t, ieq_f, and_true, true_and, and_false, false_and, and_self, not_true_eq_false, not_false_eq_true, ↓reduceIte, Int.toNat_natCast, tqb_z, tqb_t, tqb_f]
      exact ⟨_, rfl, Or.inl ⟨rfl, hs.2⟩⟩) (i + 1) () (by omega) (by omega) ⟨by omega, fun r h1 h2 => by omega⟩
    refine ⟨o, e, ?_⟩
    rcases ho with ⟨rfl, ho⟩ | ho
    · refine Or.inl ⟨rfl, fun r hr => ?_⟩
      by_cases g : r < 48
      · exact ho r hr g
      · cases eb : air w h K r
        · simp [hd2, eb]
        · exact absurd (air_48 H.k eb) g
    · exact Or.inr ho
theorem c_twos (H : HC I L a w h K) (b : Nat) {x : Int64} {M : Nat → Nat} (hx : bb x = sol M) (zM : ∀ p, ar w h p = false → M p = 0) : ∃ o, FX6_holdByTwo I L b a x = some o ∧ ((o = (false, L) ∧ ∀ q r, q < r → hd2 w h K M q r = false) ∨ ∃ q r v, o = (true, tq_up2 L b 0 v) ∧ q < r ∧ r < 48 ∧ bb v = two 2 q r ∧ hd2 w h K M q r = true ∧ ∀ q2 r2, q2 < r2 → (q2 < q ∨ (q2 = q ∧ r2 < r)) → hd2 w h K M q2 r2 = false) := by
  obtain ⟨o, e, ho⟩ := it_for (f := fun p : Int32 => FX6_holdByTwo_s3 I L b a x p) (fun i (_ : Unit) => zI (i : Int)) 48 (fun i _ => ∀ q r, q < i → q < r → hd2 w h K M q r = false) (Post := fun o => (o = .inl () ∧ ∀ q r, q < 48 → q < r → hd2 w h K M q r = false) ∨ ∃ q r v, o = .inr (true, tq_up2 L b 0 v) ∧ q < r ∧ r < 48 ∧ bb v = two 2 q r ∧ hd2 w h K M q r = true ∧ ∀ q2 r2, q2 < r2 → (q2 < q ∨ (q2 = q ∧ r2 < r)) → hd2 w h K M q2 r2 = false) (fun i s hi hs => by
    have hb : bb ((1 : Int64) <<< (Int32.toInt64 (zI (i : Int)) &&& 63)) = fun q => decide (q = i) := funext fun q => by rw [bb_one (by omega)]; simp
    have hy : bb (FX3_air I L a &&& ((1 : Int64) <<< (Int32.toInt64 (zI (i : Int)) &&& 63))) = fun p => air w h K i && decide (p = i) := funext fun p => by
      rw [bb_and, hb, c_air H]
      by_cases g : p = i <;> simp [g]
    obtain ⟨o, e, ho⟩ := c_two_in H b hx zM hi hy
    unfold FX6_holdByTwo_s3
    simp (disch := omega) only [zlet, obind, zI_lit, zI_neg, zI_add, zI_sub, zI_mul, zI_div, zI_le, zI_lt, zI_eq, zI_cl, irem, ile_t, ile_f, ilt_t, ilt_f, ieq_t, ieq_f, and_true, true_and, and_false, false_and, and_self, not_true_eq_false, not_false_eq_true, ↓reduceIte, Int.toNat_natCast, tqb_z, tqb_t, tqb_f]
    rw [show zI ((i : Int) + 1) = zI ((i + 1 : Nat) : Int) from rfl, e, obind]
    rcases ho with ⟨rfl, ho⟩ | ⟨r, v, rfl, h1, h2, h3, h4, h5⟩
    · refine Or.inl ⟨(), rfl, fun q r h1 h2 => ?_⟩
      by_cases g : q = i
      · rw [g]; exact ho r (by omega)
      · exact hs q r (by omega) h2
    · refine Or.inr ⟨_, rfl, Or.inr ⟨i, r, v, rfl, h1, h2, h3, h4, fun q2 r2 h6 h7 => ?_⟩⟩
      rcases h7 with g | ⟨g1, g2⟩
      · exact hs q2 r2 g h6
      · rw [g1]; exact h5 r2 (by omega) g2) (fun s hs => by
    unfold FX6_holdByTwo_s3
    simp (disch := omega) only [zlet, obind, zI_lit, zI_neg, zI_add, zI_sub, zI_mul, zI_div, zI_le, zI_lt, zI_eq, zI_cl, irem, ile_t, ile_f, ilt_t, ilt_f, ieq_t, ieq_f, and_true, true_and, and_false, false_and, and_self, not_true_eq_false, not_false_eq_true, ↓reduceIte, Int.toNat_natCast, tqb_z, tqb_t, tqb_f]
    exact ⟨_, rfl, Or.inl ⟨rfl, hs⟩⟩) 0 () (by omega) (by omega) (fun q r h1 h2 => absurd h1 (Nat.not_lt_zero q))
  unfold FX6_holdByTwo
  rw [show (0 : Int32) = zI ((0 : Nat) : Int) from rfl, e, obind]
  rcases ho with ⟨rfl, ho⟩ | ⟨q, r, v, rfl, ho⟩
  · refine ⟨_, rfl, Or.inl ⟨rfl, fun q r h1 => ?_⟩⟩
    by_cases g : q < 48
    · exact ho q r g h1
    · cases ea : air w h K q
      · simp [hd2, ea]
      · exact absurd (air_48 H.k ea) g
  · exact ⟨_, rfl, Or.inr ⟨q, r, v, rfl, ho⟩⟩
theorem c_hold (H : HC I L a w h K) {b : Nat} (hab : a ≠ b) {x : Int64} {p : Nat} (hx : bb x = fun q => decide (q = p)) : ∃ n q r L2, FX6_hold I L b a x = some (decide (n < 3), L2) ∧ FL b L L2 ∧ PR w h K (kup K p 0) n q r ∧ (n < 3 → bb (L2 b 0) = two n q r) ∧ (1 ≤ n → n ≤ 2 → q < 48) ∧ (n = 2 → q < r ∧ r < 48) := by
  have H2 := H.fl (FL.up (b := b) (j := 0) (x := 0)) hab
  have hr := bb_wo (c_sol H) hx
  have zM : ∀ q, ar w h q = false → kup K p 0 q = 0 := kup_z H.z (Or.inl rfl)
  have hst := c_stands H2 hr (fun p q => sol_ar zM q)
  unfold FX6_hold FX6_hold_j48
  rw [zlet, zlet, hst]
  cases es : sta h (sol (kup K p 0))
  · rw [if_pos (show tq_b false = 0 from rfl)]
    obtain ⟨o, e, ho⟩ := c_one H2 b hr zM
    rw [e, obind]
    rcases ho with ⟨rfl, ho⟩ | ⟨q, y, rfl, h1, h2, h3, h4⟩
    · rw [if_pos (show tq_b false = 0 from rfl)]
      obtain ⟨o, e, hq⟩ := c_twos H2 b hr zM
      rw [e, obind]
      rcases hq with ⟨rfl, hq⟩ | ⟨q, r, v, rfl, h1, h2, h3, h4, h5⟩
      · rw [if_pos (show tq_b false = 0 from rfl)]
        exact ⟨3, 0, 0, _, rfl, FL.up, Or.inr (Or.inr (Or.inr ⟨rfl, es, ho, hq⟩)), by omega, by omega, by omega⟩
      · rw [if_neg (show ¬ tq_b true = 0 by decide)]
        exact ⟨2, q, r, _, rfl, FL.up.tr FL.up, Or.inr (Or.inr (Or.inl ⟨rfl, es, ho, h1, h4, h5⟩)), fun _ => by dsimp only; rw [up_s]; exact h3, by omega, by omega⟩
    · rw [if_neg (show ¬ tq_b true = 0 by decide)]
      refine ⟨1, q, 0, _, rfl, FL.up.tr FL.up, Or.inr (Or.inl ⟨rfl, es, h3, h4⟩), fun _ => ?_, by omega, by omega⟩
      dsimp only
      rw [up_s, h2]
      funext y
      simp [two]
  · rw [if_neg (show ¬ tq_b true = 0 by decide)]
    refine ⟨0, 0, 0, _, rfl, FL.up, Or.inl ⟨rfl, es⟩, fun _ => ?_, by omega, by omega⟩
    rw [up_s]
    funext y
    rw [bb_0]
    simp [two]
end PH
