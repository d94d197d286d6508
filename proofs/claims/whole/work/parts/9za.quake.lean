/-! QUAKE: longs as whole numbers; sums; parts of a set of columns; Euclid. -/
def zL (z : Int) : Int64 := Int64.ofInt z
theorem zL_add (a b : Int) : zL a + zL b = zL (a + b) := (Int64.ofInt_add a b).symm
theorem zL_sub (a b : Int) : zL a - zL b = zL (a - b) := (Int64.ofInt_sub a b).symm
theorem zL_mul (a b : Int) : zL a * zL b = zL (a * b) := (Int64.ofInt_mul a b).symm
theorem zL_ti {a : Int} (h : -9223372036854775808 ≤ a ∧ a < 9223372036854775808) : (zL a).toInt = a := Int64.toInt_ofInt_of_le (by omega) (by omega)
theorem zL_eq {a b : Int} (ha : -9223372036854775808 ≤ a ∧ a < 9223372036854775808) (hb : -9223372036854775808 ≤ b ∧ b < 9223372036854775808) : zL a = zL b ↔ a = b := ⟨fun e => by rw [← zL_ti ha, ← zL_ti hb, e], fun e => by rw [e]⟩
theorem zI_L {z : Int} (h : -2147483648 ≤ z ∧ z < 2147483648) : Int32.toInt64 (zI z) = zL z := Int64.toInt.inj (by rw [Int32.toInt_toInt64, zI_ti h, zL_ti (by omega)])
theorem zL_mn : Int64.minValue.toInt = -9223372036854775808 := by decide +kernel
theorem zL_mx : Int64.maxValue.toInt = 9223372036854775807 := by decide +kernel
theorem zL_div {a b : Nat} (ha : a < 9223372036854775808) (hb : b < 9223372036854775808) : zL (a : Int) / zL (b : Int) = zL ((a / b : Nat) : Int) := by
  unfold zL
  rw [← Int64.ofInt_tdiv (by rw [zL_mn]; omega) (by rw [zL_mx]; omega) (by rw [zL_mn]; omega) (by rw [zL_mx]; omega)]
  rfl
theorem zL_mod {a b : Nat} (ha : a < 9223372036854775808) (hb : b < 9223372036854775808) : zL (a : Int) - zL (a : Int) / zL (b : Int) * zL (b : Int) = zL ((a % b : Nat) : Int) := by
  rw [zL_div ha hb, zL_mul, zL_sub]
  congr 1
  have e : a / b * b + a % b = a := by rw [Nat.mul_comm]; exact Nat.div_add_mod a b
  have e2 : ((a / b : Nat) : Int) * (b : Int) = ((a / b * b : Nat) : Int) := (Int.natCast_mul _ _).symm
  rw [e2]
  omega
theorem zL_ge1 {g : Nat} (h : 1 ≤ g) (h2 : g < 9223372036854775808) : (0 : Int32) ≤ lg_cmp (zL (g : Int)) (1 : Int64) := by
  unfold lg_cmp
  by_cases q : g = 1
  · subst q
    decide
  · rw [if_pos]
    · decide
    · show (1 : Int64) < zL (g : Int)
      rw [Int64.lt_iff_toInt_lt, zL_ti (by omega)]
      show (1 : Int) < _
      omega
/-- sums -/
def sm (G : Nat → Nat) : Nat → Nat
  | 0 => 0
  | n + 1 => sm G n + G n
theorem smg {G : Nat → Nat} {a : Nat} : ∀ d, (∀ t, a ≤ t → t < a + d → G t = 0) → sm G (a + d) = sm G a
  | 0, _ => rfl
  | d + 1, h => by
    have e : sm G (a + (d + 1)) = sm G (a + d) + G (a + d) := rfl
    rw [e, smg d (fun t h1 h2 => h t h1 (by omega)), h (a + d) (by omega) (by omega)]
    rfl
theorem sm_le {G : Nat → Nat} {c : Nat} (h : ∀ t, G t ≤ c) : ∀ n, sm G n ≤ n * c
  | 0 => Nat.zero_le _
  | n + 1 => by
    have e : sm G (n + 1) = sm G n + G n := rfl
    rw [e, Nat.succ_mul]
    exact Nat.add_le_add (sm_le h n) (h n)
/-- parts of a set -/
theorem and_hf (a b : Nat) : (a &&& b) / 2 = (a / 2) &&& (b / 2) := by
  apply Nat.eq_of_testBit_eq
  intro j
  rw [Nat.testBit_and, Nat.testBit_div_two, Nat.testBit_div_two, Nat.testBit_div_two, Nat.testBit_and]
theorem and_lw (a b : Nat) : ((a &&& b) % 2 = 1) ↔ (a % 2 = 1 ∧ b % 2 = 1) := by
  have h := Nat.testBit_and a b 0
  rw [Nat.testBit_zero, Nat.testBit_zero, Nat.testBit_zero] at h
  have h2 : (decide ((a &&& b) % 2 = 1) = true) ↔ ((decide (a % 2 = 1) && decide (b % 2 = 1)) = true) := by rw [h]
  simpa using h2
theorem and_nx : ∀ (u W t : Nat), t < u → t &&& W = t → u &&& W = u → t ≤ (u - 1) &&& W := by
  intro u
  induction u using Nat.strongRecOn with
  | ind u ih =>
    intro W t h1 h2 h3
    have d1 : ((u - 1) &&& W) / 2 = ((u - 1) / 2) &&& (W / 2) := and_hf _ _
    by_cases q : u % 2 = 1
    · have e : ((u - 1) &&& W) / 2 = u / 2 := by
        rw [d1, show (u - 1) / 2 = u / 2 by omega, ← and_hf, h3]
      omega
    · have e : ((u - 1) &&& W) / 2 = (u / 2 - 1) &&& (W / 2) := by
        rw [d1, show (u - 1) / 2 = u / 2 - 1 by omega]
      have i := ih (u / 2) (by omega) (W / 2) (t / 2) (by omega) (by rw [← and_hf, h2]) (by rw [← and_hf, h3])
      rw [← e] at i
      have l1 : t % 2 = 1 → ((u - 1) &&& W) % 2 = 1 := fun g => by
        rw [and_lw]
        refine ⟨by omega, ?_⟩
        rw [← h2, and_lw] at g
        exact g.2
      by_cases g : t % 2 = 1
      · have := l1 g
        omega
      · omega
theorem and_iff {s W : Nat} : s &&& W = s ↔ ∀ c, s.testBit c = true → W.testBit c = true := by
  constructor
  · intro h c hc
    rw [← h, Nat.testBit_and] at hc
    simp only [Bool.and_eq_true] at hc
    exact hc.2
  · intro h
    apply Nat.eq_of_testBit_eq
    intro c
    rw [Nat.testBit_and]
    cases e : s.testBit c
    · rfl
    · rw [h c e]; rfl
/-- Euclid, by the class and by the reference -/
theorem eu_mod {x y : Nat} (q : 1 ≤ y) (l : y < x) : 2 * (x % y) ≤ x := by
  have h1 := Nat.div_add_mod x y
  have h2 := Nat.mod_lt x (show y > 0 by omega)
  have h3 : 1 ≤ x / y := Nat.div_pos (by omega) (by omega)
  have h4 : y * 1 ≤ y * (x / y) := Nat.mul_le_mul_left y h3
  omega
theorem c_gcd (I : tq_PI) (L : tq_PL) {a b : Nat} (ha : a < 4611686018427387904) (hb : b ≤ 100000000) : FX11_commonDivisor I L (zL (a : Int)) (zL (b : Int)) = some (zL (Nat.gcd a b : Nat)) := by
  obtain ⟨o, e, ho⟩ := it_m (f := fun p : Int64 × Int64 × Int32 => FX11_commonDivisor_s9 I L p.1 p.2.1 p.2.2) (Inv := fun m s => ∃ x y r : Nat, s = (zL (x : Int), zL (y : Int), zI (r : Int)) ∧ m = y ∧ Nat.gcd x y = Nat.gcd a b ∧ x < 4611686018427387904 ∧ y ≤ 100000000 ∧ r ≤ 60 ∧ (r = 0 ∨ (1 ≤ r ∧ y < x ∧ x * y * 2 ^ r < 2 ^ 58))) (Post := fun o => o = zL (Nat.gcd a b : Nat)) (fun m s hs => by
    obtain ⟨x, y, r, rfl, rfl, g, hx, hy, hr, h3⟩ := hs
    dsimp only
    unfold FX11_commonDivisor_s9
    rw [if_neg (by rw [zI_lit, zI_le (by omega) (by omega)]; omega)]
    have z0 : (zL (m : Int) = 0) ↔ m = 0 := by
      rw [show (0 : Int64) = zL 0 from rfl, zL_eq (by omega) (by omega)]
      omega
    by_cases q : m = 0
    · rw [if_pos (by rw [lgc, z0]; exact q)]
      subst q
      exact Or.inr ⟨_, rfl, by rw [← g, Nat.gcd_zero_right]⟩
    · rw [if_neg (by rw [lgc, z0]; exact q), if_pos (by rw [z0]; exact q), zL_mod (by omega) (by omega)]
      have l := Nat.mod_lt x (show m > 0 by omega)
      refine Or.inl ⟨_, x % m, rfl, l, m, x % m, r + 1, ?_, rfl, ?_, by omega, by omega, ?_, Or.inr ⟨by omega, l, ?_⟩⟩
      · rw [zI_lit, zI_add]; rfl
      · rw [Nat.gcd_comm m, ← Nat.gcd_rec, Nat.gcd_comm m x]; exact g
      · rcases h3 with h3 | ⟨h4, h5, h6⟩
        · omega
        · have h7 : 1 ≤ x * m := Nat.mul_pos (by omega) (by omega)
          have h8 : 1 * 2 ^ r ≤ x * m * 2 ^ r := Nat.mul_le_mul_right _ h7
          have h9 : r < 58 := by
            refine Nat.lt_of_not_le fun c => ?_
            have : 2 ^ 58 ≤ 2 ^ r := Nat.pow_le_pow_right (by omega) c
            omega
          omega
      · rcases h3 with h3 | ⟨h4, h5, h6⟩
        · subst h3
          have h7 : m * (x % m) ≤ 100000000 * 100000000 := Nat.mul_le_mul (by omega) (by omega)
          omega
        · have h7 := eu_mod (x := x) (y := m) (by omega) h5
          have h8 : m * (x % m) * 2 ^ (r + 1) = 2 * (x % m) * m * 2 ^ r := by
            rw [Nat.pow_succ, Nat.mul_comm m (x % m), Nat.mul_comm (2 ^ r) 2, ← Nat.mul_assoc, Nat.mul_comm (x % m * m) 2, ← Nat.mul_assoc]
          have h9 : 2 * (x % m) * m * 2 ^ r ≤ x * m * 2 ^ r := Nat.mul_le_mul_right _ (Nat.mul_le_mul_right _ h7)
          omega) tq_N b (zL (a : Int), zL (b : Int), (0 : Int32)) (by rw [tq_N_eq]; omega) ⟨a, b, 0, rfl, rfl, rfl, ha, hb, by omega, Or.inl rfl⟩
  unfold FX11_commonDivisor
  refine (congrArg (fun o => Option.bind o _) e).trans ((obind _ _).trans ?_)
  rw [ho]
theorem r_gcd (I : tq_PI) (L : tq_PL) {a b : Nat} (ha : a < 4611686018427387904) (hb : b ≤ 100000000) : FX12_common I L (zL (a : Int)) (zL (b : Int)) = some (zL (Nat.gcd a b : Nat)) := by
  obtain ⟨o, e, ho⟩ := it_m (f := fun p : Int64 × Int64 => FX12_common_s6 I L p.1 p.2) (Inv := fun m s => ∃ x y : Nat, s = (zL (x : Int), zL (y : Int)) ∧ m = y ∧ Nat.gcd x y = Nat.gcd a b ∧ x < 4611686018427387904 ∧ y ≤ 100000000) (Post := fun o => o = zL (Nat.gcd a b : Nat)) (fun m s hs => by
    obtain ⟨x, y, rfl, rfl, g, hx, hy⟩ := hs
    dsimp only
    unfold FX12_common_s6
    have z0 : (zL (m : Int) = 0) ↔ m = 0 := by
      rw [show (0 : Int64) = zL 0 from rfl, zL_eq (by omega) (by omega)]
      omega
    by_cases q : m = 0
    · rw [if_pos (by rw [lgc, z0]; exact q)]
      subst q
      exact Or.inr ⟨_, rfl, by rw [← g, Nat.gcd_zero_right]⟩
    · rw [if_neg (by rw [lgc, z0]; exact q), if_pos (by rw [z0]; exact q), zL_mod (by omega) (by omega)]
      have l := Nat.mod_lt x (show m > 0 by omega)
      refine Or.inl ⟨_, x % m, rfl, l, m, x % m, rfl, rfl, ?_, by omega, by omega⟩
      rw [Nat.gcd_comm m, ← Nat.gcd_rec, Nat.gcd_comm m x]; exact g) tq_N b (zL (a : Int), zL (b : Int)) (by rw [tq_N_eq]; omega) ⟨a, b, rfl, rfl, rfl, ha, hb⟩
  unfold FX12_common
  refine (congrArg (fun o => Option.bind o _) e).trans ((obind _ _).trans ?_)
  rw [ho]
theorem c_power (I : tq_PI) (L : tq_PL) {a k : Nat} (hk : k ≤ 8) : FX11_power I L (zL (a : Int)) (zI (k : Int)) = some (zL ((a ^ k : Nat) : Int)) := by
  obtain ⟨o, e, ho⟩ := it_for (f := fun p : Int64 × Int32 => FX11_power_s5 I L (zL (a : Int)) (zI (k : Int)) p.1 p.2) (fun i (s : Int64) => (s, zI (i : Int))) k (fun i s => s = zL ((a ^ i : Nat) : Int)) (Post := fun o => o = zL ((a ^ k : Nat) : Int)) (fun i s hi hs => by
    subst hs
    dsimp only
    unfold FX11_power_s5
    rw [if_neg (by rw [zI_le (by omega) (by omega)]; omega), if_neg (by rw [zI_lit, zI_le (by omega) (by omega)]; omega)]
    refine Or.inl ⟨_, by rw [zI_lit, zI_add]; rfl, ?_⟩
    rw [zL_mul, Nat.pow_succ, Int.natCast_mul]) (fun s hs => by
    subst hs
    dsimp only
    unfold FX11_power_s5
    rw [if_pos (by rw [zI_le (by omega) (by omega)]; omega)]
    exact ⟨_, rfl, rfl⟩) 0 (zL ((a ^ 0 : Nat) : Int)) (by omega) (by omega) rfl
  unfold FX11_power
  refine (congrArg (fun o => Option.bind o _) e).trans ((obind _ _).trans ?_)
  rw [ho]
/-- weights -/
def wq (q W s : Nat) : Nat → Nat
  | 0 => 1
  | n + 1 => wq q W s n * (if W.testBit n then (if s.testBit n then q else 10 - q) else if s.testBit n then 0 else 1)
theorem wq_le {q W s : Nat} (hq : q ≤ 10) : ∀ n, wq q W s n ≤ 10 ^ n
  | 0 => Nat.le_refl _
  | n + 1 => by
    rw [Nat.pow_succ]
    refine Nat.mul_le_mul (wq_le hq n) ?_
    split
    · split <;> omega
    · split <;> omega
theorem ct_sub {W s : Nat} (h : ∀ c, s.testBit c = true → W.testBit c = true) (n : Nat) : fb_ct s.testBit n ≤ fb_ct W.testBit n := fb_ct_sub fun c _ hc => h c hc
theorem wq_in {q W s : Nat} (h : ∀ c, s.testBit c = true → W.testBit c = true) : ∀ n, wq q W s n = q ^ (fb_ct s.testBit n) * (10 - q) ^ (fb_ct W.testBit n - fb_ct s.testBit n)
  | 0 => rfl
  | n + 1 => by
    have i := wq_in (q := q) h n
    have l := ct_sub h n
    have e : wq q W s (n + 1) = wq q W s n * (if W.testBit n then (if s.testBit n then q else 10 - q) else if s.testBit n then 0 else 1) := rfl
    rw [e, i, fb_ct_succ, fb_ct_succ]
    cases e1 : s.testBit n
    · cases e2 : W.testBit n
      · simp
      · simp only [if_true, Bool.false_eq_true, if_false, Nat.add_zero]
        rw [show fb_ct W.testBit n + 1 - fb_ct s.testBit n = fb_ct W.testBit n - fb_ct s.testBit n + 1 by omega, Nat.pow_succ, Nat.mul_assoc]
    · rw [h n e1]
      simp only [if_true]
      rw [show fb_ct W.testBit n + 1 - (fb_ct s.testBit n + 1) = fb_ct W.testBit n - fb_ct s.testBit n by omega, Nat.pow_succ, Nat.mul_assoc, Nat.mul_assoc, Nat.mul_comm q]
theorem wq_0 {q W s c : Nat} (h1 : s.testBit c = true) (h2 : W.testBit c = false) : ∀ n, c < n → wq q W s n = 0
  | 0, g => absurd g (Nat.not_lt_zero c)
  | n + 1, g => by
    have e : wq q W s (n + 1) = wq q W s n * (if W.testBit n then (if s.testBit n then q else 10 - q) else if s.testBit n then 0 else 1) := rfl
    rw [e]
    by_cases g2 : c = n
    · rw [← g2, h1, h2]
      simp
    · rw [wq_0 h1 h2 n (by omega), Nat.zero_mul]
